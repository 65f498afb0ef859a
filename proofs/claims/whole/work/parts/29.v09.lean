set_option maxRecDepth 8000 in
theorem st209_0 (kz : am_Z) (d : Nat) (x0 x2 : Int) (U : Nat → Nat → Int) (R : Option am_V × am_M) (h : x2 ≠ 0 ∧ (((¬ (am_lcmp (Int.tmod x0 x2) 0) = 0 : Prop)) → Ev kz ((d + 1), 209, 28, [some (.inr (.inl x0)), none, some (.inr (.inl x2)), none, some (.inr (.inl (w64 (x0 - 1)))), none, some (.inl 0), none, none, none], [], (am_sh, am_mm U)) R) ∧ (¬ (¬ (am_lcmp (Int.tmod x0 x2) 0) = 0) → (((¬ (am_lcmp x0 x2) = 0 : Prop)) → R = (some (.inl 0), (am_sh, am_mm U))) ∧ (¬ (¬ (am_lcmp x0 x2) = 0) → R = (some (.inl 1), (am_sh, am_mm U))))) : Ev kz ((d + 1), 209, 0, [some (.inr (.inl x0)), none, some (.inr (.inl x2)), none, none, none, none, none, none, none], [], (am_sh, am_mm U)) R := by
  refine ev_seg (σ1 := ((d + 1), 209, 2, [some (.inr (.inl x0)), none, some (.inr (.inl x2)), none, none, none, none, none, none, none], [.inr (.inl x2), .inr (.inl x0)], (am_sh, am_mm U))) 2 (fun _ => rfl) ?_
  refine ev_lrem rfl h.1 ?_
  have ha := h.2
  refine ev_br (P := ¬ (am_lcmp (Int.tmod x0 x2) 0) = 0) (σ1 := ((d + 1), 209, 20, [some (.inr (.inl x0)), none, some (.inr (.inl x2)), none, none, none, none, none, none, none], [], (am_sh, am_mm U))) (σ2 := ((d + 1), 209, 8, [some (.inr (.inl x0)), none, some (.inr (.inl x2)), none, none, none, none, none, none, none], [], (am_sh, am_mm U))) 3 (fun _ => rfl) (fun hc => ?_) (fun hc => ?_)
  · have ha1 := ha.1 hc
    refine ev_seg (σ1 := ((d + 1), 209, 28, [some (.inr (.inl x0)), none, some (.inr (.inl x2)), none, some (.inr (.inl (w64 (x0 - 1)))), none, some (.inl 0), none, none, none], [], (am_sh, am_mm U))) 6 (fun _ => rfl) ?_
    exact ha1
  · have ha2 := ha.2 hc
    refine ev_br (P := ¬ (am_lcmp x0 x2) = 0) (σ1 := ((d + 1), 209, 18, [some (.inr (.inl x0)), none, some (.inr (.inl x2)), none, none, none, none, none, none, none], [], (am_sh, am_mm U))) (σ2 := ((d + 1), 209, 14, [some (.inr (.inl x0)), none, some (.inr (.inl x2)), none, none, none, none, none, none, none], [], (am_sh, am_mm U))) 4 (fun _ => rfl) (fun hc => ?_) (fun hc => ?_)
    · have ha21 := ha2.1 hc
      subst ha21
      exact ev_end 2 (fun _ => rfl)
    · have ha22 := ha2.2 hc
      subst ha22
      exact ev_end 3 (fun _ => rfl)
set_option maxRecDepth 8000 in
theorem st209_28 (kz : am_Z) (d : Nat) (x0 x2 x4 x6 : Int) (U : Nat → Nat → Int) (R : Option am_V × am_M) (h : (((¬ (am_lcmp (Int.tmod x4 2) 0) = 0 : Prop)) → ∃ (r1 : Int) (U1 : Nat → Nat → Int), Ev kz (d, 273, 0, [some (.inr (.inl x2)), none, some (.inr (.inl x4)), none, some (.inr (.inl x0)), none, none, none, none, none, none, none], [], (am_sh, am_mm U)) (some (.inr (.inl r1)), (am_sh, am_mm U1)) ∧ ((((am_lcmp r1 1) = 0 : Prop)) → R = (some (.inl 1), (am_sh, am_mm U1))) ∧ (¬ ((am_lcmp r1 1) = 0) → (((¬ (am_lcmp r1 (w64 (x0 - 1))) = 0 : Prop)) → Ev kz ((d + 1), 209, 83, [some (.inr (.inl x0)), none, some (.inr (.inl x2)), none, some (.inr (.inl x4)), none, some (.inl x6), some (.inr (.inl r1)), none, some (.inl 1)], [], (am_sh, am_mm U1)) R) ∧ (¬ (¬ (am_lcmp r1 (w64 (x0 - 1))) = 0) → R = (some (.inl 1), (am_sh, am_mm U1))))) ∧ (¬ (¬ (am_lcmp (Int.tmod x4 2) 0) = 0) → Ev kz ((d + 1), 209, 28, [some (.inr (.inl x0)), none, some (.inr (.inl x2)), none, some (.inr (.inl (w64 (Int.tdiv x4 2)))), none, some (.inl (w32 (x6 + 1))), none, none, none], [], (am_sh, am_mm U)) R)) : Ev kz ((d + 1), 209, 28, [some (.inr (.inl x0)), none, some (.inr (.inl x2)), none, some (.inr (.inl x4)), none, some (.inl x6), none, none, none], [], (am_sh, am_mm U)) R := by
  refine ev_seg (σ1 := ((d + 1), 209, 33, [some (.inr (.inl x0)), none, some (.inr (.inl x2)), none, some (.inr (.inl x4)), none, some (.inl x6), none, none, none], [.inr (.inl 2), .inr (.inl x4)], (am_sh, am_mm U))) 2 (fun _ => rfl) ?_
  refine ev_lrem rfl (by decide) ?_
  refine ev_br (P := ¬ (am_lcmp (Int.tmod x4 2) 0) = 0) (σ1 := ((d + 1), 209, 53, [some (.inr (.inl x0)), none, some (.inr (.inl x2)), none, some (.inr (.inl x4)), none, some (.inl x6), none, none, none], [], (am_sh, am_mm U))) (σ2 := ((d + 1), 209, 39, [some (.inr (.inl x0)), none, some (.inr (.inl x2)), none, some (.inr (.inl x4)), none, some (.inl x6), none, none, none], [], (am_sh, am_mm U))) 3 (fun _ => rfl) (fun hc => ?_) (fun hc => ?_)
  · have h1 := h.1 hc
    refine ev_seg (σ1 := ((d + 1), 209, 57, [some (.inr (.inl x0)), none, some (.inr (.inl x2)), none, some (.inr (.inl x4)), none, some (.inl x6), none, none, none], [.inr (.inl x0), .inr (.inl x4), .inr (.inl x2)], (am_sh, am_mm U))) 3 (fun _ => rfl) ?_
    obtain ⟨r1, U1, h1c, h1a⟩ := h1
    refine ev_cal (σc := (d, 273, 0, [some (.inr (.inl x2)), none, some (.inr (.inl x4)), none, some (.inr (.inl x0)), none, none, none, none, none, none, none], [], (am_sh, am_mm U))) (fun _ => rfl) h1c ?_
    show Ev kz ((d + 1), 209, 60, [some (.inr (.inl x0)), none, some (.inr (.inl x2)), none, some (.inr (.inl x4)), none, some (.inl x6), none, none, none], [.inr (.inl r1)], (am_sh, am_mm U1)) R
    refine ev_br (P := (am_lcmp r1 1) = 0) (σ1 := ((d + 1), 209, 78, [some (.inr (.inl x0)), none, some (.inr (.inl x2)), none, some (.inr (.inl x4)), none, some (.inl x6), some (.inr (.inl r1)), none, none], [], (am_sh, am_mm U1))) (σ2 := ((d + 1), 209, 69, [some (.inr (.inl x0)), none, some (.inr (.inl x2)), none, some (.inr (.inl x4)), none, some (.inl x6), some (.inr (.inl r1)), none, none], [], (am_sh, am_mm U1))) 5 (fun _ => rfl) (fun hc => ?_) (fun hc => ?_)
    · have h1a1 := h1a.1 hc
      subst h1a1
      exact ev_end 2 (fun _ => rfl)
    · have h1a2 := h1a.2 hc
      refine ev_br (P := ¬ (am_lcmp r1 (w64 (x0 - 1))) = 0) (σ1 := ((d + 1), 209, 80, [some (.inr (.inl x0)), none, some (.inr (.inl x2)), none, some (.inr (.inl x4)), none, some (.inl x6), some (.inr (.inl r1)), none, none], [], (am_sh, am_mm U1))) (σ2 := ((d + 1), 209, 78, [some (.inr (.inl x0)), none, some (.inr (.inl x2)), none, some (.inr (.inl x4)), none, some (.inl x6), some (.inr (.inl r1)), none, none], [], (am_sh, am_mm U1))) 6 (fun _ => rfl) (fun hc => ?_) (fun hc => ?_)
      · have h1a21 := h1a2.1 hc
        refine ev_seg (σ1 := ((d + 1), 209, 83, [some (.inr (.inl x0)), none, some (.inr (.inl x2)), none, some (.inr (.inl x4)), none, some (.inl x6), some (.inr (.inl r1)), none, some (.inl 1)], [], (am_sh, am_mm U1))) 2 (fun _ => rfl) ?_
        exact h1a21
      · have h1a22 := h1a2.2 hc
        subst h1a22
        exact ev_end 2 (fun _ => rfl)
  · have h2 := h.2 hc
    refine ev_seg (σ1 := ((d + 1), 209, 44, [some (.inr (.inl x0)), none, some (.inr (.inl x2)), none, some (.inr (.inl x4)), none, some (.inl x6), none, none, none], [.inr (.inl 2), .inr (.inl x4)], (am_sh, am_mm U))) 2 (fun _ => rfl) ?_
    refine ev_ldiv rfl (by decide) ?_
    refine ev_seg (σ1 := ((d + 1), 209, 28, [some (.inr (.inl x0)), none, some (.inr (.inl x2)), none, some (.inr (.inl (w64 (Int.tdiv x4 2)))), none, some (.inl (w32 (x6 + 1))), none, none, none], [], (am_sh, am_mm U))) 3 (fun _ => rfl) ?_
    exact h2
set_option maxRecDepth 8000 in
theorem st209_83 (kz : am_Z) (d : Nat) (x0 x2 x4 x6 x7 x9 : Int) (U : Nat → Nat → Int) (R : Option am_V × am_M) (h : (((x6 ≤ x9 : Prop)) → R = (some (.inl 0), (am_sh, am_mm U))) ∧ (¬ (x6 ≤ x9) → x0 ≠ 0 ∧ (((¬ (am_lcmp (Int.tmod (w64 (x7 * x7)) x0) (w64 (x0 - 1))) = 0 : Prop)) → Ev kz ((d + 1), 209, 83, [some (.inr (.inl x0)), none, some (.inr (.inl x2)), none, some (.inr (.inl x4)), none, some (.inl x6), some (.inr (.inl (Int.tmod (w64 (x7 * x7)) x0))), none, some (.inl (w32 (x9 + 1)))], [], (am_sh, am_mm U)) R) ∧ (¬ (¬ (am_lcmp (Int.tmod (w64 (x7 * x7)) x0) (w64 (x0 - 1))) = 0) → R = (some (.inl 1), (am_sh, am_mm U))))) : Ev kz ((d + 1), 209, 83, [some (.inr (.inl x0)), none, some (.inr (.inl x2)), none, some (.inr (.inl x4)), none, some (.inl x6), some (.inr (.inl x7)), none, some (.inl x9)], [], (am_sh, am_mm U)) R := by
  refine ev_br (P := x6 ≤ x9) (σ1 := ((d + 1), 209, 116, [some (.inr (.inl x0)), none, some (.inr (.inl x2)), none, some (.inr (.inl x4)), none, some (.inl x6), some (.inr (.inl x7)), none, some (.inl x9)], [], (am_sh, am_mm U))) (σ2 := ((d + 1), 209, 90, [some (.inr (.inl x0)), none, some (.inr (.inl x2)), none, some (.inr (.inl x4)), none, some (.inl x6), some (.inr (.inl x7)), none, some (.inl x9)], [], (am_sh, am_mm U))) 3 (fun _ => rfl) (fun hc => ?_) (fun hc => ?_)
  · have h1 := h.1 hc
    subst h1
    exact ev_end 2 (fun _ => rfl)
  · have h2 := h.2 hc
    refine ev_seg (σ1 := ((d + 1), 209, 96, [some (.inr (.inl x0)), none, some (.inr (.inl x2)), none, some (.inr (.inl x4)), none, some (.inl x6), some (.inr (.inl x7)), none, some (.inl x9)], [.inr (.inl x0), .inr (.inl (w64 (x7 * x7)))], (am_sh, am_mm U))) 4 (fun _ => rfl) ?_
    refine ev_lrem rfl h2.1 ?_
    have h2a := h2.2
    refine ev_br (P := ¬ (am_lcmp (Int.tmod (w64 (x7 * x7)) x0) (w64 (x0 - 1))) = 0) (σ1 := ((d + 1), 209, 110, [some (.inr (.inl x0)), none, some (.inr (.inl x2)), none, some (.inr (.inl x4)), none, some (.inl x6), some (.inr (.inl (Int.tmod (w64 (x7 * x7)) x0))), none, some (.inl x9)], [], (am_sh, am_mm U))) (σ2 := ((d + 1), 209, 108, [some (.inr (.inl x0)), none, some (.inr (.inl x2)), none, some (.inr (.inl x4)), none, some (.inl x6), some (.inr (.inl (Int.tmod (w64 (x7 * x7)) x0))), none, some (.inl x9)], [], (am_sh, am_mm U))) 7 (fun _ => rfl) (fun hc => ?_) (fun hc => ?_)
    · have h2a1 := h2a.1 hc
      refine ev_seg (σ1 := ((d + 1), 209, 83, [some (.inr (.inl x0)), none, some (.inr (.inl x2)), none, some (.inr (.inl x4)), none, some (.inl x6), some (.inr (.inl (Int.tmod (w64 (x7 * x7)) x0))), none, some (.inl (w32 (x9 + 1)))], [], (am_sh, am_mm U))) 2 (fun _ => rfl) ?_
      exact h2a1
    · have h2a2 := h2a.2 hc
      subst h2a2
      exact ev_end 2 (fun _ => rfl)
set_option maxRecDepth 8000 in
theorem st211_53_0 (kz : am_Z) (d : Nat) (x1 : Int) (U : Nat → Nat → Int) (R : Option am_V × am_M) (h : Ev kz (d, 211, 5, [some (.inr (.inr 53)), some (.inl x1), some (.inl 0), some (.inl 16)], [], (am_sh, am_mm U)) R) : Ev kz (d, 211, 0, [some (.inr (.inr 53)), some (.inl x1), none, none], [], (am_sh, am_mm U)) R := by
  refine ev_seg (σ1 := (d, 211, 5, [some (.inr (.inr 53)), some (.inl x1), some (.inl 0), some (.inl 16)], [], (am_sh, am_mm U))) 5 (fun _ => rfl) ?_
  exact h
set_option maxRecDepth 8000 in
theorem st211_53_5 (kz : am_Z) (d : Nat) (x1 x2 x3 : Int) (U : Nat → Nat → Int) (R : Option am_V × am_M) (h : (((x3 ≤ x2 : Prop)) → R = (none, (am_sh, am_mm U))) ∧ (¬ (x3 ≤ x2) → (0 ≤ x2 ∧ x2 < 16) ∧ Ev kz (d, 211, 5, [some (.inr (.inr 53)), some (.inl x1), some (.inl (w32 (x2 + 1))), some (.inl x3)], [], (am_sh, am_mm (am_upd U 53 x2.toNat x1))) R)) : Ev kz (d, 211, 5, [some (.inr (.inr 53)), some (.inl x1), some (.inl x2), some (.inl x3)], [], (am_sh, am_mm U)) R := by
  refine ev_br (P := x3 ≤ x2) (σ1 := (d, 211, 20, [some (.inr (.inr 53)), some (.inl x1), some (.inl x2), some (.inl x3)], [], (am_sh, am_mm U))) (σ2 := (d, 211, 10, [some (.inr (.inr 53)), some (.inl x1), some (.inl x2), some (.inl x3)], [], (am_sh, am_mm U))) 3 (fun _ => rfl) (fun hc => ?_) (fun hc => ?_)
  · have h1 := h.1 hc
    subst h1
    exact ev_end 1 (fun _ => rfl)
  · have h2 := h.2 hc
    refine ev_seg (σ1 := (d, 211, 13, [some (.inr (.inr 53)), some (.inl x1), some (.inl x2), some (.inl x3)], [.inl x1, .inl x2, .inr (.inr 53)], (am_sh, am_mm U))) 3 (fun _ => rfl) ?_
    refine eu_iast 53 (n := 16) rfl (by decide) rfl (fun _ => rfl) h2.1 ?_
    have h2a := h2.2
    refine ev_seg (σ1 := (d, 211, 5, [some (.inr (.inr 53)), some (.inl x1), some (.inl (w32 (x2 + 1))), some (.inl x3)], [], (am_sh, am_mm (am_upd U 53 x2.toNat x1)))) 2 (fun _ => rfl) ?_
    exact h2a
set_option maxRecDepth 8000 in
theorem st316_52_0 (kz : am_Z) (d : Nat) (x1 x2 x3 : Int) (U : Nat → Nat → Int) (R : Option am_V × am_M) (h : Ev kz (d, 316, 5, [some (.inr (.inr 52)), some (.inl x1), some (.inl x2), some (.inl x3), some (.inl (w32 (x1 + 1))), none, none], [], (am_sh, am_mm U)) R) : Ev kz (d, 316, 0, [some (.inr (.inr 52)), some (.inl x1), some (.inl x2), some (.inl x3), none, none, none], [], (am_sh, am_mm U)) R := by
  refine ev_seg (σ1 := (d, 316, 5, [some (.inr (.inr 52)), some (.inl x1), some (.inl x2), some (.inl x3), some (.inl (w32 (x1 + 1))), none, none], [], (am_sh, am_mm U))) 4 (fun _ => rfl) ?_
  exact h
set_option maxRecDepth 8000 in
theorem st316_52_5 (kz : am_Z) (d : Nat) (x1 x2 x3 x4 : Int) (U : Nat → Nat → Int) (R : Option am_V × am_M) (h : ((((U 16 0) ≤ x4 : Prop)) → R = (some (.inl x3), (am_sh, am_mm U))) ∧ (¬ ((U 16 0) ≤ x4) → ((((am_and x3 (am_xor (am_shl 1 (w32 (x4 - (U 52 6)))) (-1))) = x3 : Prop)) → (((0 = 0 : Prop)) → Ev kz (d, 316, 5, [some (.inr (.inr 52)), some (.inl x1), some (.inl x2), some (.inl x3), some (.inl (w32 (x4 + 1))), some (.inl (am_and x3 (am_xor (am_shl 1 (w32 (x4 - (U 52 6)))) (-1)))), some (.inl 0)], [], (am_sh, am_mm U)) R) ∧ (¬ (0 = 0) → (((4096 ≤ x2 : Prop)) → Ev kz (d, 316, 5, [some (.inr (.inr 52)), some (.inl x1), some (.inl x2), some (.inl x3), some (.inl (w32 (x4 + 1))), some (.inl (am_and x3 (am_xor (am_shl 1 (w32 (x4 - (U 52 6)))) (-1)))), some (.inl 0)], [], (am_sh, am_mm U)) R) ∧ (¬ (4096 ≤ x2) → (0 ≤ (am_and x3 (am_xor (am_shl 1 (w32 (x4 - (U 52 6)))) (-1))) ∧ (am_and x3 (am_xor (am_shl 1 (w32 (x4 - (U 52 6)))) (-1))) < 4096) ∧ (0 ≤ x2 ∧ x2 < 4096) ∧ (((¬ (w32 (1 + (U 44 (am_and x3 (am_xor (am_shl 1 (w32 (x4 - (U 52 6)))) (-1))).toNat))) = (U 44 x2.toNat) : Prop)) → Ev kz (d, 316, 5, [some (.inr (.inr 52)), some (.inl x1), some (.inl x2), some (.inl x3), some (.inl (w32 (x4 + 1))), some (.inl (am_and x3 (am_xor (am_shl 1 (w32 (x4 - (U 52 6)))) (-1)))), some (.inl 0)], [], (am_sh, am_mm U)) R) ∧ (¬ (¬ (w32 (1 + (U 44 (am_and x3 (am_xor (am_shl 1 (w32 (x4 - (U 52 6)))) (-1))).toNat))) = (U 44 x2.toNat)) → (0 ≤ x1 ∧ x1 < 16) ∧ (0 ≤ x4 ∧ x4 < 16) ∧ R = (some (.inl (am_and x3 (am_xor (am_shl 1 (w32 (x4 - (U 52 6)))) (-1)))), (am_sh, am_mm (am_upd (am_upd U 55 x1.toNat x4) 55 x4.toNat x1))))))) ∧ (¬ ((am_and x3 (am_xor (am_shl 1 (w32 (x4 - (U 52 6)))) (-1))) = x3) → (0 ≤ x1 ∧ x1 < 16) ∧ (((¬ (am_and (am_shr (U 53 x1.toNat) x4) 1) = 1 : Prop)) → (((0 = 0 : Prop)) → Ev kz (d, 316, 5, [some (.inr (.inr 52)), some (.inl x1), some (.inl x2), some (.inl x3), some (.inl (w32 (x4 + 1))), some (.inl (am_and x3 (am_xor (am_shl 1 (w32 (x4 - (U 52 6)))) (-1)))), some (.inl 0)], [], (am_sh, am_mm U)) R) ∧ (¬ (0 = 0) → (((4096 ≤ x2 : Prop)) → Ev kz (d, 316, 5, [some (.inr (.inr 52)), some (.inl x1), some (.inl x2), some (.inl x3), some (.inl (w32 (x4 + 1))), some (.inl (am_and x3 (am_xor (am_shl 1 (w32 (x4 - (U 52 6)))) (-1)))), some (.inl 0)], [], (am_sh, am_mm U)) R) ∧ (¬ (4096 ≤ x2) → (0 ≤ (am_and x3 (am_xor (am_shl 1 (w32 (x4 - (U 52 6)))) (-1))) ∧ (am_and x3 (am_xor (am_shl 1 (w32 (x4 - (U 52 6)))) (-1))) < 4096) ∧ (0 ≤ x2 ∧ x2 < 4096) ∧ (((¬ (w32 (1 + (U 44 (am_and x3 (am_xor (am_shl 1 (w32 (x4 - (U 52 6)))) (-1))).toNat))) = (U 44 x2.toNat) : Prop)) → Ev kz (d, 316, 5, [some (.inr (.inr 52)), some (.inl x1), some (.inl x2), some (.inl x3), some (.inl (w32 (x4 + 1))), some (.inl (am_and x3 (am_xor (am_shl 1 (w32 (x4 - (U 52 6)))) (-1)))), some (.inl 0)], [], (am_sh, am_mm U)) R) ∧ (¬ (¬ (w32 (1 + (U 44 (am_and x3 (am_xor (am_shl 1 (w32 (x4 - (U 52 6)))) (-1))).toNat))) = (U 44 x2.toNat)) → (0 ≤ x1 ∧ x1 < 16) ∧ (0 ≤ x4 ∧ x4 < 16) ∧ R = (some (.inl (am_and x3 (am_xor (am_shl 1 (w32 (x4 - (U 52 6)))) (-1)))), (am_sh, am_mm (am_upd (am_upd U 55 x1.toNat x4) 55 x4.toNat x1))))))) ∧ (¬ (¬ (am_and (am_shr (U 53 x1.toNat) x4) 1) = 1) → (((1 = 0 : Prop)) → Ev kz (d, 316, 5, [some (.inr (.inr 52)), some (.inl x1), some (.inl x2), some (.inl x3), some (.inl (w32 (x4 + 1))), some (.inl (am_and x3 (am_xor (am_shl 1 (w32 (x4 - (U 52 6)))) (-1)))), some (.inl 1)], [], (am_sh, am_mm U)) R) ∧ (¬ (1 = 0) → (((4096 ≤ x2 : Prop)) → Ev kz (d, 316, 5, [some (.inr (.inr 52)), some (.inl x1), some (.inl x2), some (.inl x3), some (.inl (w32 (x4 + 1))), some (.inl (am_and x3 (am_xor (am_shl 1 (w32 (x4 - (U 52 6)))) (-1)))), some (.inl 1)], [], (am_sh, am_mm U)) R) ∧ (¬ (4096 ≤ x2) → (0 ≤ (am_and x3 (am_xor (am_shl 1 (w32 (x4 - (U 52 6)))) (-1))) ∧ (am_and x3 (am_xor (am_shl 1 (w32 (x4 - (U 52 6)))) (-1))) < 4096) ∧ (0 ≤ x2 ∧ x2 < 4096) ∧ (((¬ (w32 (1 + (U 44 (am_and x3 (am_xor (am_shl 1 (w32 (x4 - (U 52 6)))) (-1))).toNat))) = (U 44 x2.toNat) : Prop)) → Ev kz (d, 316, 5, [some (.inr (.inr 52)), some (.inl x1), some (.inl x2), some (.inl x3), some (.inl (w32 (x4 + 1))), some (.inl (am_and x3 (am_xor (am_shl 1 (w32 (x4 - (U 52 6)))) (-1)))), some (.inl 1)], [], (am_sh, am_mm U)) R) ∧ (¬ (¬ (w32 (1 + (U 44 (am_and x3 (am_xor (am_shl 1 (w32 (x4 - (U 52 6)))) (-1))).toNat))) = (U 44 x2.toNat)) → (0 ≤ x1 ∧ x1 < 16) ∧ (0 ≤ x4 ∧ x4 < 16) ∧ R = (some (.inl (am_and x3 (am_xor (am_shl 1 (w32 (x4 - (U 52 6)))) (-1)))), (am_sh, am_mm (am_upd (am_upd U 55 x1.toNat x4) 55 x4.toNat x1)))))))))) : Ev kz (d, 316, 5, [some (.inr (.inr 52)), some (.inl x1), some (.inl x2), some (.inl x3), some (.inl x4), none, none], [], (am_sh, am_mm U)) R := by
  refine ev_br (P := (U 16 0) ≤ x4) (σ1 := (d, 316, 117, [some (.inr (.inr 52)), some (.inl x1), some (.inl x2), some (.inl x3), some (.inl x4), none, none], [], (am_sh, am_mm U))) (σ2 := (d, 316, 17, [some (.inr (.inr 52)), some (.inl x1), some (.inl x2), some (.inl x3), some (.inl x4), none, none], [], (am_sh, am_mm U))) 5 (fun _ => rfl) (fun hc => ?_) (fun hc => ?_)
  · have h1 := h.1 hc
    subst h1
    exact ev_end 2 (fun _ => rfl)
  · have h2 := h.2 hc
    refine ev_br (P := (am_and x3 (am_xor (am_shl 1 (w32 (x4 - (U 52 6)))) (-1))) = x3) (σ1 := (d, 316, 57, [some (.inr (.inr 52)), some (.inl x1), some (.inl x2), some (.inl x3), some (.inl x4), some (.inl (am_and x3 (am_xor (am_shl 1 (w32 (x4 - (U 52 6)))) (-1)))), none], [], (am_sh, am_mm U))) (σ2 := (d, 316, 38, [some (.inr (.inr 52)), some (.inl x1), some (.inl x2), some (.inl x3), some (.inl x4), some (.inl (am_and x3 (am_xor (am_shl 1 (w32 (x4 - (U 52 6)))) (-1)))), none], [], (am_sh, am_mm U))) 14 (fun _ => rfl) (fun hc => ?_) (fun hc => ?_)
    · have h21 := h2.1 hc
      refine ev_br (P := 0 = 0) (σ1 := (d, 316, 111, [some (.inr (.inr 52)), some (.inl x1), some (.inl x2), some (.inl x3), some (.inl x4), some (.inl (am_and x3 (am_xor (am_shl 1 (w32 (x4 - (U 52 6)))) (-1)))), some (.inl 0)], [], (am_sh, am_mm U))) (σ2 := (d, 316, 65, [some (.inr (.inr 52)), some (.inl x1), some (.inl x2), some (.inl x3), some (.inl x4), some (.inl (am_and x3 (am_xor (am_shl 1 (w32 (x4 - (U 52 6)))) (-1)))), some (.inl 0)], [], (am_sh, am_mm U))) 4 (fun _ => rfl) (fun hc => ?_) (fun hc => ?_)
      · have h211 := h21.1 hc
        refine ev_seg (σ1 := (d, 316, 5, [some (.inr (.inr 52)), some (.inl x1), some (.inl x2), some (.inl x3), some (.inl (w32 (x4 + 1))), some (.inl (am_and x3 (am_xor (am_shl 1 (w32 (x4 - (U 52 6)))) (-1)))), some (.inl 0)], [], (am_sh, am_mm U))) 2 (fun _ => rfl) ?_
        exact h211
      · have h212 := h21.2 hc
        refine ev_br (P := 4096 ≤ x2) (σ1 := (d, 316, 111, [some (.inr (.inr 52)), some (.inl x1), some (.inl x2), some (.inl x3), some (.inl x4), some (.inl (am_and x3 (am_xor (am_shl 1 (w32 (x4 - (U 52 6)))) (-1)))), some (.inl 0)], [], (am_sh, am_mm U))) (σ2 := (d, 316, 74, [some (.inr (.inr 52)), some (.inl x1), some (.inl x2), some (.inl x3), some (.inl x4), some (.inl (am_and x3 (am_xor (am_shl 1 (w32 (x4 - (U 52 6)))) (-1)))), some (.inl 0)], [], (am_sh, am_mm U))) 5 (fun _ => rfl) (fun hc => ?_) (fun hc => ?_)
        · have h2121 := h212.1 hc
          refine ev_seg (σ1 := (d, 316, 5, [some (.inr (.inr 52)), some (.inl x1), some (.inl x2), some (.inl x3), some (.inl (w32 (x4 + 1))), some (.inl (am_and x3 (am_xor (am_shl 1 (w32 (x4 - (U 52 6)))) (-1)))), some (.inl 0)], [], (am_sh, am_mm U))) 2 (fun _ => rfl) ?_
          exact h2121
        · have h2122 := h212.2 hc
          refine ev_seg (σ1 := (d, 316, 81, [some (.inr (.inr 52)), some (.inl x1), some (.inl x2), some (.inl x3), some (.inl x4), some (.inl (am_and x3 (am_xor (am_shl 1 (w32 (x4 - (U 52 6)))) (-1)))), some (.inl 0)], [.inl (am_and x3 (am_xor (am_shl 1 (w32 (x4 - (U 52 6)))) (-1))), .inr (.inr 44), .inl 1], (am_sh, am_mm U))) 4 (fun _ => rfl) ?_
          refine eu_iald 44 (n := 4096) rfl (by decide) rfl (fun _ => rfl) h2122.1 ?_
          have h2122a := h2122.2
          refine ev_seg (σ1 := (d, 316, 88, [some (.inr (.inr 52)), some (.inl x1), some (.inl x2), some (.inl x3), some (.inl x4), some (.inl (am_and x3 (am_xor (am_shl 1 (w32 (x4 - (U 52 6)))) (-1)))), some (.inl 0)], [.inl x2, .inr (.inr 44), .inl (w32 (1 + (U 44 (am_and x3 (am_xor (am_shl 1 (w32 (x4 - (U 52 6)))) (-1))).toNat)))], (am_sh, am_mm U))) 4 (fun _ => rfl) ?_
          refine eu_iald 44 (n := 4096) rfl (by decide) rfl (fun _ => rfl) h2122a.1 ?_
          have h2122aa := h2122a.2
          refine ev_br (P := ¬ (w32 (1 + (U 44 (am_and x3 (am_xor (am_shl 1 (w32 (x4 - (U 52 6)))) (-1))).toNat))) = (U 44 x2.toNat)) (σ1 := (d, 316, 111, [some (.inr (.inr 52)), some (.inl x1), some (.inl x2), some (.inl x3), some (.inl x4), some (.inl (am_and x3 (am_xor (am_shl 1 (w32 (x4 - (U 52 6)))) (-1)))), some (.inl 0)], [], (am_sh, am_mm U))) (σ2 := (d, 316, 92, [some (.inr (.inr 52)), some (.inl x1), some (.inl x2), some (.inl x3), some (.inl x4), some (.inl (am_and x3 (am_xor (am_shl 1 (w32 (x4 - (U 52 6)))) (-1)))), some (.inl 0)], [], (am_sh, am_mm U))) 1 (fun _ => rfl) (fun hc => ?_) (fun hc => ?_)
          · have h2122aa1 := h2122aa.1 hc
            refine ev_seg (σ1 := (d, 316, 5, [some (.inr (.inr 52)), some (.inl x1), some (.inl x2), some (.inl x3), some (.inl (w32 (x4 + 1))), some (.inl (am_and x3 (am_xor (am_shl 1 (w32 (x4 - (U 52 6)))) (-1)))), some (.inl 0)], [], (am_sh, am_mm U))) 2 (fun _ => rfl) ?_
            exact h2122aa1
          · have h2122aa2 := h2122aa.2 hc
            refine ev_seg (σ1 := (d, 316, 99, [some (.inr (.inr 52)), some (.inl x1), some (.inl x2), some (.inl x3), some (.inl x4), some (.inl (am_and x3 (am_xor (am_shl 1 (w32 (x4 - (U 52 6)))) (-1)))), some (.inl 0)], [.inl x4, .inl x1, .inr (.inr 55)], (am_sh, am_mm U))) 4 (fun _ => rfl) ?_
            refine eu_iast 55 (n := 16) rfl (by decide) rfl (fun _ => rfl) h2122aa2.1 ?_
            have h2122aa2a := h2122aa2.2
            refine ev_seg (σ1 := (d, 316, 107, [some (.inr (.inr 52)), some (.inl x1), some (.inl x2), some (.inl x3), some (.inl x4), some (.inl (am_and x3 (am_xor (am_shl 1 (w32 (x4 - (U 52 6)))) (-1)))), some (.inl 0)], [.inl x1, .inl x4, .inr (.inr 55)], (am_sh, am_mm (am_upd U 55 x1.toNat x4)))) 4 (fun _ => rfl) ?_
            refine eu_iast 55 (n := 16) rfl (by decide) rfl (fun _ => rfl) h2122aa2a.1 ?_
            have h2122aa2aa := h2122aa2a.2
            subst h2122aa2aa
            exact ev_end 2 (fun _ => rfl)
    · have h22 := h2.2 hc
      refine ev_seg (σ1 := (d, 316, 43, [some (.inr (.inr 52)), some (.inl x1), some (.inl x2), some (.inl x3), some (.inl x4), some (.inl (am_and x3 (am_xor (am_shl 1 (w32 (x4 - (U 52 6)))) (-1)))), none], [.inl x1, .inr (.inr 53)], (am_sh, am_mm U))) 3 (fun _ => rfl) ?_
      refine eu_iald 53 (n := 16) rfl (by decide) rfl (fun _ => rfl) h22.1 ?_
      have h22a := h22.2
      refine ev_br (P := ¬ (am_and (am_shr (U 53 x1.toNat) x4) 1) = 1) (σ1 := (d, 316, 57, [some (.inr (.inr 52)), some (.inl x1), some (.inl x2), some (.inl x3), some (.inl x4), some (.inl (am_and x3 (am_xor (am_shl 1 (w32 (x4 - (U 52 6)))) (-1)))), none], [], (am_sh, am_mm U))) (σ2 := (d, 316, 53, [some (.inr (.inr 52)), some (.inl x1), some (.inl x2), some (.inl x3), some (.inl x4), some (.inl (am_and x3 (am_xor (am_shl 1 (w32 (x4 - (U 52 6)))) (-1)))), none], [], (am_sh, am_mm U))) 6 (fun _ => rfl) (fun hc => ?_) (fun hc => ?_)
      · have h22a1 := h22a.1 hc
        refine ev_br (P := 0 = 0) (σ1 := (d, 316, 111, [some (.inr (.inr 52)), some (.inl x1), some (.inl x2), some (.inl x3), some (.inl x4), some (.inl (am_and x3 (am_xor (am_shl 1 (w32 (x4 - (U 52 6)))) (-1)))), some (.inl 0)], [], (am_sh, am_mm U))) (σ2 := (d, 316, 65, [some (.inr (.inr 52)), some (.inl x1), some (.inl x2), some (.inl x3), some (.inl x4), some (.inl (am_and x3 (am_xor (am_shl 1 (w32 (x4 - (U 52 6)))) (-1)))), some (.inl 0)], [], (am_sh, am_mm U))) 4 (fun _ => rfl) (fun hc => ?_) (fun hc => ?_)
        · have h22a11 := h22a1.1 hc
          refine ev_seg (σ1 := (d, 316, 5, [some (.inr (.inr 52)), some (.inl x1), some (.inl x2), some (.inl x3), some (.inl (w32 (x4 + 1))), some (.inl (am_and x3 (am_xor (am_shl 1 (w32 (x4 - (U 52 6)))) (-1)))), some (.inl 0)], [], (am_sh, am_mm U))) 2 (fun _ => rfl) ?_
          exact h22a11
        · have h22a12 := h22a1.2 hc
          refine ev_br (P := 4096 ≤ x2) (σ1 := (d, 316, 111, [some (.inr (.inr 52)), some (.inl x1), some (.inl x2), some (.inl x3), some (.inl x4), some (.inl (am_and x3 (am_xor (am_shl 1 (w32 (x4 - (U 52 6)))) (-1)))), some (.inl 0)], [], (am_sh, am_mm U))) (σ2 := (d, 316, 74, [some (.inr (.inr 52)), some (.inl x1), some (.inl x2), some (.inl x3), some (.inl x4), some (.inl (am_and x3 (am_xor (am_shl 1 (w32 (x4 - (U 52 6)))) (-1)))), some (.inl 0)], [], (am_sh, am_mm U))) 5 (fun _ => rfl) (fun hc => ?_) (fun hc => ?_)
          · have h22a121 := h22a12.1 hc
            refine ev_seg (σ1 := (d, 316, 5, [some (.inr (.inr 52)), some (.inl x1), some (.inl x2), some (.inl x3), some (.inl (w32 (x4 + 1))), some (.inl (am_and x3 (am_xor (am_shl 1 (w32 (x4 - (U 52 6)))) (-1)))), some (.inl 0)], [], (am_sh, am_mm U))) 2 (fun _ => rfl) ?_
            exact h22a121
          · have h22a122 := h22a12.2 hc
            refine ev_seg (σ1 := (d, 316, 81, [some (.inr (.inr 52)), some (.inl x1), some (.inl x2), some (.inl x3), some (.inl x4), some (.inl (am_and x3 (am_xor (am_shl 1 (w32 (x4 - (U 52 6)))) (-1)))), some (.inl 0)], [.inl (am_and x3 (am_xor (am_shl 1 (w32 (x4 - (U 52 6)))) (-1))), .inr (.inr 44), .inl 1], (am_sh, am_mm U))) 4 (fun _ => rfl) ?_
            refine eu_iald 44 (n := 4096) rfl (by decide) rfl (fun _ => rfl) h22a122.1 ?_
            have h22a122a := h22a122.2
            refine ev_seg (σ1 := (d, 316, 88, [some (.inr (.inr 52)), some (.inl x1), some (.inl x2), some (.inl x3), some (.inl x4), some (.inl (am_and x3 (am_xor (am_shl 1 (w32 (x4 - (U 52 6)))) (-1)))), some (.inl 0)], [.inl x2, .inr (.inr 44), .inl (w32 (1 + (U 44 (am_and x3 (am_xor (am_shl 1 (w32 (x4 - (U 52 6)))) (-1))).toNat)))], (am_sh, am_mm U))) 4 (fun _ => rfl) ?_
            refine eu_iald 44 (n := 4096) rfl (by decide) rfl (fun _ => rfl) h22a122a.1 ?_
            have h22a122aa := h22a122a.2
            refine ev_br (P := ¬ (w32 (1 + (U 44 (am_and x3 (am_xor (am_shl 1 (w32 (x4 - (U 52 6)))) (-1))).toNat))) = (U 44 x2.toNat)) (σ1 := (d, 316, 111, [some (.inr (.inr 52)), some (.inl x1), some (.inl x2), some (.inl x3), some (.inl x4), some (.inl (am_and x3 (am_xor (am_shl 1 (w32 (x4 - (U 52 6)))) (-1)))), some (.inl 0)], [], (am_sh, am_mm U))) (σ2 := (d, 316, 92, [some (.inr (.inr 52)), some (.inl x1), some (.inl x2), some (.inl x3), some (.inl x4), some (.inl (am_and x3 (am_xor (am_shl 1 (w32 (x4 - (U 52 6)))) (-1)))), some (.inl 0)], [], (am_sh, am_mm U))) 1 (fun _ => rfl) (fun hc => ?_) (fun hc => ?_)
            · have h22a122aa1 := h22a122aa.1 hc
              refine ev_seg (σ1 := (d, 316, 5, [some (.inr (.inr 52)), some (.inl x1), some (.inl x2), some (.inl x3), some (.inl (w32 (x4 + 1))), some (.inl (am_and x3 (am_xor (am_shl 1 (w32 (x4 - (U 52 6)))) (-1)))), some (.inl 0)], [], (am_sh, am_mm U))) 2 (fun _ => rfl) ?_
              exact h22a122aa1
            · have h22a122aa2 := h22a122aa.2 hc
              refine ev_seg (σ1 := (d, 316, 99, [some (.inr (.inr 52)), some (.inl x1), some (.inl x2), some (.inl x3), some (.inl x4), some (.inl (am_and x3 (am_xor (am_shl 1 (w32 (x4 - (U 52 6)))) (-1)))), some (.inl 0)], [.inl x4, .inl x1, .inr (.inr 55)], (am_sh, am_mm U))) 4 (fun _ => rfl) ?_
              refine eu_iast 55 (n := 16) rfl (by decide) rfl (fun _ => rfl) h22a122aa2.1 ?_
              have h22a122aa2a := h22a122aa2.2
              refine ev_seg (σ1 := (d, 316, 107, [some (.inr (.inr 52)), some (.inl x1), some (.inl x2), some (.inl x3), some (.inl x4), some (.inl (am_and x3 (am_xor (am_shl 1 (w32 (x4 - (U 52 6)))) (-1)))), some (.inl 0)], [.inl x1, .inl x4, .inr (.inr 55)], (am_sh, am_mm (am_upd U 55 x1.toNat x4)))) 4 (fun _ => rfl) ?_
              refine eu_iast 55 (n := 16) rfl (by decide) rfl (fun _ => rfl) h22a122aa2a.1 ?_
              have h22a122aa2aa := h22a122aa2a.2
              subst h22a122aa2aa
              exact ev_end 2 (fun _ => rfl)
      · have h22a2 := h22a.2 hc
        refine ev_br (P := 1 = 0) (σ1 := (d, 316, 111, [some (.inr (.inr 52)), some (.inl x1), some (.inl x2), some (.inl x3), some (.inl x4), some (.inl (am_and x3 (am_xor (am_shl 1 (w32 (x4 - (U 52 6)))) (-1)))), some (.inl 1)], [], (am_sh, am_mm U))) (σ2 := (d, 316, 65, [some (.inr (.inr 52)), some (.inl x1), some (.inl x2), some (.inl x3), some (.inl x4), some (.inl (am_and x3 (am_xor (am_shl 1 (w32 (x4 - (U 52 6)))) (-1)))), some (.inl 1)], [], (am_sh, am_mm U))) 5 (fun _ => rfl) (fun hc => ?_) (fun hc => ?_)
        · have h22a21 := h22a2.1 hc
          refine ev_seg (σ1 := (d, 316, 5, [some (.inr (.inr 52)), some (.inl x1), some (.inl x2), some (.inl x3), some (.inl (w32 (x4 + 1))), some (.inl (am_and x3 (am_xor (am_shl 1 (w32 (x4 - (U 52 6)))) (-1)))), some (.inl 1)], [], (am_sh, am_mm U))) 2 (fun _ => rfl) ?_
          exact h22a21
        · have h22a22 := h22a2.2 hc
          refine ev_br (P := 4096 ≤ x2) (σ1 := (d, 316, 111, [some (.inr (.inr 52)), some (.inl x1), some (.inl x2), some (.inl x3), some (.inl x4), some (.inl (am_and x3 (am_xor (am_shl 1 (w32 (x4 - (U 52 6)))) (-1)))), some (.inl 1)], [], (am_sh, am_mm U))) (σ2 := (d, 316, 74, [some (.inr (.inr 52)), some (.inl x1), some (.inl x2), some (.inl x3), some (.inl x4), some (.inl (am_and x3 (am_xor (am_shl 1 (w32 (x4 - (U 52 6)))) (-1)))), some (.inl 1)], [], (am_sh, am_mm U))) 5 (fun _ => rfl) (fun hc => ?_) (fun hc => ?_)
          · have h22a221 := h22a22.1 hc
            refine ev_seg (σ1 := (d, 316, 5, [some (.inr (.inr 52)), some (.inl x1), some (.inl x2), some (.inl x3), some (.inl (w32 (x4 + 1))), some (.inl (am_and x3 (am_xor (am_shl 1 (w32 (x4 - (U 52 6)))) (-1)))), some (.inl 1)], [], (am_sh, am_mm U))) 2 (fun _ => rfl) ?_
            exact h22a221
          · have h22a222 := h22a22.2 hc
            refine ev_seg (σ1 := (d, 316, 81, [some (.inr (.inr 52)), some (.inl x1), some (.inl x2), some (.inl x3), some (.inl x4), some (.inl (am_and x3 (am_xor (am_shl 1 (w32 (x4 - (U 52 6)))) (-1)))), some (.inl 1)], [.inl (am_and x3 (am_xor (am_shl 1 (w32 (x4 - (U 52 6)))) (-1))), .inr (.inr 44), .inl 1], (am_sh, am_mm U))) 4 (fun _ => rfl) ?_
            refine eu_iald 44 (n := 4096) rfl (by decide) rfl (fun _ => rfl) h22a222.1 ?_
            have h22a222a := h22a222.2
            refine ev_seg (σ1 := (d, 316, 88, [some (.inr (.inr 52)), some (.inl x1), some (.inl x2), some (.inl x3), some (.inl x4), some (.inl (am_and x3 (am_xor (am_shl 1 (w32 (x4 - (U 52 6)))) (-1)))), some (.inl 1)], [.inl x2, .inr (.inr 44), .inl (w32 (1 + (U 44 (am_and x3 (am_xor (am_shl 1 (w32 (x4 - (U 52 6)))) (-1))).toNat)))], (am_sh, am_mm U))) 4 (fun _ => rfl) ?_
            refine eu_iald 44 (n := 4096) rfl (by decide) rfl (fun _ => rfl) h22a222a.1 ?_
            have h22a222aa := h22a222a.2
            refine ev_br (P := ¬ (w32 (1 + (U 44 (am_and x3 (am_xor (am_shl 1 (w32 (x4 - (U 52 6)))) (-1))).toNat))) = (U 44 x2.toNat)) (σ1 := (d, 316, 111, [some (.inr (.inr 52)), some (.inl x1), some (.inl x2), some (.inl x3), some (.inl x4), some (.inl (am_and x3 (am_xor (am_shl 1 (w32 (x4 - (U 52 6)))) (-1)))), some (.inl 1)], [], (am_sh, am_mm U))) (σ2 := (d, 316, 92, [some (.inr (.inr 52)), some (.inl x1), some (.inl x2), some (.inl x3), some (.inl x4), some (.inl (am_and x3 (am_xor (am_shl 1 (w32 (x4 - (U 52 6)))) (-1)))), some (.inl 1)], [], (am_sh, am_mm U))) 1 (fun _ => rfl) (fun hc => ?_) (fun hc => ?_)
            · have h22a222aa1 := h22a222aa.1 hc
              refine ev_seg (σ1 := (d, 316, 5, [some (.inr (.inr 52)), some (.inl x1), some (.inl x2), some (.inl x3), some (.inl (w32 (x4 + 1))), some (.inl (am_and x3 (am_xor (am_shl 1 (w32 (x4 - (U 52 6)))) (-1)))), some (.inl 1)], [], (am_sh, am_mm U))) 2 (fun _ => rfl) ?_
              exact h22a222aa1
            · have h22a222aa2 := h22a222aa.2 hc
              refine ev_seg (σ1 := (d, 316, 99, [some (.inr (.inr 52)), some (.inl x1), some (.inl x2), some (.inl x3), some (.inl x4), some (.inl (am_and x3 (am_xor (am_shl 1 (w32 (x4 - (U 52 6)))) (-1)))), some (.inl 1)], [.inl x4, .inl x1, .inr (.inr 55)], (am_sh, am_mm U))) 4 (fun _ => rfl) ?_
              refine eu_iast 55 (n := 16) rfl (by decide) rfl (fun _ => rfl) h22a222aa2.1 ?_
              have h22a222aa2a := h22a222aa2.2
              refine ev_seg (σ1 := (d, 316, 107, [some (.inr (.inr 52)), some (.inl x1), some (.inl x2), some (.inl x3), some (.inl x4), some (.inl (am_and x3 (am_xor (am_shl 1 (w32 (x4 - (U 52 6)))) (-1)))), some (.inl 1)], [.inl x1, .inl x4, .inr (.inr 55)], (am_sh, am_mm (am_upd U 55 x1.toNat x4)))) 4 (fun _ => rfl) ?_
              refine eu_iast 55 (n := 16) rfl (by decide) rfl (fun _ => rfl) h22a222aa2a.1 ?_
              have h22a222aa2aa := h22a222aa2a.2
              subst h22a222aa2aa
              exact ev_end 2 (fun _ => rfl)
set_option maxRecDepth 8000 in
theorem st314_0 (kz : am_Z) (d : Nat) (x0 : Int) (U : Nat → Nat → Int) (R : Option am_V × am_M) (h : (((0 < (am_and (am_xor x0 (-1)) (w32 (x0 - 1))) : Prop)) → ((((am_and (am_xor x0 (-1)) (w32 (x0 - 1))) ≤ 65536 : Prop)) → ((((am_and (am_xor x0 (-1)) (w32 (x0 - 1))) ≤ 256 : Prop)) → ((((am_and (am_xor x0 (-1)) (w32 (x0 - 1))) ≤ 16 : Prop)) → ((((am_and (am_xor x0 (-1)) (w32 (x0 - 1))) ≤ 4 : Prop)) → R = (some (.inl (w32 (1 + (am_ushr (am_and (am_xor x0 (-1)) (w32 (x0 - 1))) 1)))), (am_sh, am_mm U))) ∧ (¬ ((am_and (am_xor x0 (-1)) (w32 (x0 - 1))) ≤ 4) → R = (some (.inl (w32 ((w32 (1 + 2)) + (am_ushr (am_ushr (am_and (am_xor x0 (-1)) (w32 (x0 - 1))) 2) 1)))), (am_sh, am_mm U)))) ∧ (¬ ((am_and (am_xor x0 (-1)) (w32 (x0 - 1))) ≤ 16) → ((((am_ushr (am_and (am_xor x0 (-1)) (w32 (x0 - 1))) 4) ≤ 4 : Prop)) → R = (some (.inl (w32 ((w32 (1 + 4)) + (am_ushr (am_ushr (am_and (am_xor x0 (-1)) (w32 (x0 - 1))) 4) 1)))), (am_sh, am_mm U))) ∧ (¬ ((am_ushr (am_and (am_xor x0 (-1)) (w32 (x0 - 1))) 4) ≤ 4) → R = (some (.inl (w32 ((w32 ((w32 (1 + 4)) + 2)) + (am_ushr (am_ushr (am_ushr (am_and (am_xor x0 (-1)) (w32 (x0 - 1))) 4) 2) 1)))), (am_sh, am_mm U))))) ∧ (¬ ((am_and (am_xor x0 (-1)) (w32 (x0 - 1))) ≤ 256) → ((((am_ushr (am_and (am_xor x0 (-1)) (w32 (x0 - 1))) 8) ≤ 16 : Prop)) → ((((am_ushr (am_and (am_xor x0 (-1)) (w32 (x0 - 1))) 8) ≤ 4 : Prop)) → R = (some (.inl (w32 ((w32 (1 + 8)) + (am_ushr (am_ushr (am_and (am_xor x0 (-1)) (w32 (x0 - 1))) 8) 1)))), (am_sh, am_mm U))) ∧ (¬ ((am_ushr (am_and (am_xor x0 (-1)) (w32 (x0 - 1))) 8) ≤ 4) → R = (some (.inl (w32 ((w32 ((w32 (1 + 8)) + 2)) + (am_ushr (am_ushr (am_ushr (am_and (am_xor x0 (-1)) (w32 (x0 - 1))) 8) 2) 1)))), (am_sh, am_mm U)))) ∧ (¬ ((am_ushr (am_and (am_xor x0 (-1)) (w32 (x0 - 1))) 8) ≤ 16) → ((((am_ushr (am_ushr (am_and (am_xor x0 (-1)) (w32 (x0 - 1))) 8) 4) ≤ 4 : Prop)) → R = (some (.inl (w32 ((w32 ((w32 (1 + 8)) + 4)) + (am_ushr (am_ushr (am_ushr (am_and (am_xor x0 (-1)) (w32 (x0 - 1))) 8) 4) 1)))), (am_sh, am_mm U))) ∧ (¬ ((am_ushr (am_ushr (am_and (am_xor x0 (-1)) (w32 (x0 - 1))) 8) 4) ≤ 4) → R = (some (.inl (w32 ((w32 ((w32 ((w32 (1 + 8)) + 4)) + 2)) + (am_ushr (am_ushr (am_ushr (am_ushr (am_and (am_xor x0 (-1)) (w32 (x0 - 1))) 8) 4) 2) 1)))), (am_sh, am_mm U)))))) ∧ (¬ ((am_and (am_xor x0 (-1)) (w32 (x0 - 1))) ≤ 65536) → ((((am_ushr (am_and (am_xor x0 (-1)) (w32 (x0 - 1))) 16) ≤ 256 : Prop)) → ((((am_ushr (am_and (am_xor x0 (-1)) (w32 (x0 - 1))) 16) ≤ 16 : Prop)) → ((((am_ushr (am_and (am_xor x0 (-1)) (w32 (x0 - 1))) 16) ≤ 4 : Prop)) → R = (some (.inl (w32 ((w32 (1 + 16)) + (am_ushr (am_ushr (am_and (am_xor x0 (-1)) (w32 (x0 - 1))) 16) 1)))), (am_sh, am_mm U))) ∧ (¬ ((am_ushr (am_and (am_xor x0 (-1)) (w32 (x0 - 1))) 16) ≤ 4) → R = (some (.inl (w32 ((w32 ((w32 (1 + 16)) + 2)) + (am_ushr (am_ushr (am_ushr (am_and (am_xor x0 (-1)) (w32 (x0 - 1))) 16) 2) 1)))), (am_sh, am_mm U)))) ∧ (¬ ((am_ushr (am_and (am_xor x0 (-1)) (w32 (x0 - 1))) 16) ≤ 16) → ((((am_ushr (am_ushr (am_and (am_xor x0 (-1)) (w32 (x0 - 1))) 16) 4) ≤ 4 : Prop)) → R = (some (.inl (w32 ((w32 ((w32 (1 + 16)) + 4)) + (am_ushr (am_ushr (am_ushr (am_and (am_xor x0 (-1)) (w32 (x0 - 1))) 16) 4) 1)))), (am_sh, am_mm U))) ∧ (¬ ((am_ushr (am_ushr (am_and (am_xor x0 (-1)) (w32 (x0 - 1))) 16) 4) ≤ 4) → R = (some (.inl (w32 ((w32 ((w32 ((w32 (1 + 16)) + 4)) + 2)) + (am_ushr (am_ushr (am_ushr (am_ushr (am_and (am_xor x0 (-1)) (w32 (x0 - 1))) 16) 4) 2) 1)))), (am_sh, am_mm U))))) ∧ (¬ ((am_ushr (am_and (am_xor x0 (-1)) (w32 (x0 - 1))) 16) ≤ 256) → ((((am_ushr (am_ushr (am_and (am_xor x0 (-1)) (w32 (x0 - 1))) 16) 8) ≤ 16 : Prop)) → ((((am_ushr (am_ushr (am_and (am_xor x0 (-1)) (w32 (x0 - 1))) 16) 8) ≤ 4 : Prop)) → R = (some (.inl (w32 ((w32 ((w32 (1 + 16)) + 8)) + (am_ushr (am_ushr (am_ushr (am_and (am_xor x0 (-1)) (w32 (x0 - 1))) 16) 8) 1)))), (am_sh, am_mm U))) ∧ (¬ ((am_ushr (am_ushr (am_and (am_xor x0 (-1)) (w32 (x0 - 1))) 16) 8) ≤ 4) → R = (some (.inl (w32 ((w32 ((w32 ((w32 (1 + 16)) + 8)) + 2)) + (am_ushr (am_ushr (am_ushr (am_ushr (am_and (am_xor x0 (-1)) (w32 (x0 - 1))) 16) 8) 2) 1)))), (am_sh, am_mm U)))) ∧ (¬ ((am_ushr (am_ushr (am_and (am_xor x0 (-1)) (w32 (x0 - 1))) 16) 8) ≤ 16) → ((((am_ushr (am_ushr (am_ushr (am_and (am_xor x0 (-1)) (w32 (x0 - 1))) 16) 8) 4) ≤ 4 : Prop)) → R = (some (.inl (w32 ((w32 ((w32 ((w32 (1 + 16)) + 8)) + 4)) + (am_ushr (am_ushr (am_ushr (am_ushr (am_and (am_xor x0 (-1)) (w32 (x0 - 1))) 16) 8) 4) 1)))), (am_sh, am_mm U))) ∧ (¬ ((am_ushr (am_ushr (am_ushr (am_and (am_xor x0 (-1)) (w32 (x0 - 1))) 16) 8) 4) ≤ 4) → R = (some (.inl (w32 ((w32 ((w32 ((w32 ((w32 (1 + 16)) + 8)) + 4)) + 2)) + (am_ushr (am_ushr (am_ushr (am_ushr (am_ushr (am_and (am_xor x0 (-1)) (w32 (x0 - 1))) 16) 8) 4) 2) 1)))), (am_sh, am_mm U))))))) ∧ (¬ (0 < (am_and (am_xor x0 (-1)) (w32 (x0 - 1)))) → R = (some (.inl (am_and (am_and (am_xor x0 (-1)) (w32 (x0 - 1))) 32)), (am_sh, am_mm U)))) : Ev kz (d, 314, 0, [some (.inl x0), none], [], (am_sh, am_mm U)) R := by
  refine ev_br (P := 0 < (am_and (am_xor x0 (-1)) (w32 (x0 - 1)))) (σ1 := (d, 314, 17, [some (.inl (am_and (am_xor x0 (-1)) (w32 (x0 - 1)))), none], [], (am_sh, am_mm U))) (σ2 := (d, 314, 12, [some (.inl (am_and (am_xor x0 (-1)) (w32 (x0 - 1)))), none], [], (am_sh, am_mm U))) 10 (fun _ => rfl) (fun hc => ?_) (fun hc => ?_)
  · have h1 := h.1 hc
    refine ev_br (P := (am_and (am_xor x0 (-1)) (w32 (x0 - 1))) ≤ 65536) (σ1 := (d, 314, 34, [some (.inl (am_and (am_xor x0 (-1)) (w32 (x0 - 1)))), some (.inl 1)], [], (am_sh, am_mm U))) (σ2 := (d, 314, 26, [some (.inl (am_and (am_xor x0 (-1)) (w32 (x0 - 1)))), some (.inl 1)], [], (am_sh, am_mm U))) 5 (fun _ => rfl) (fun hc => ?_) (fun hc => ?_)
    · have h11 := h1.1 hc
      refine ev_br (P := (am_and (am_xor x0 (-1)) (w32 (x0 - 1))) ≤ 256) (σ1 := (d, 314, 49, [some (.inl (am_and (am_xor x0 (-1)) (w32 (x0 - 1)))), some (.inl 1)], [], (am_sh, am_mm U))) (σ2 := (d, 314, 41, [some (.inl (am_and (am_xor x0 (-1)) (w32 (x0 - 1)))), some (.inl 1)], [], (am_sh, am_mm U))) 3 (fun _ => rfl) (fun hc => ?_) (fun hc => ?_)
      · have h111 := h11.1 hc
        refine ev_br (P := (am_and (am_xor x0 (-1)) (w32 (x0 - 1))) ≤ 16) (σ1 := (d, 314, 62, [some (.inl (am_and (am_xor x0 (-1)) (w32 (x0 - 1)))), some (.inl 1)], [], (am_sh, am_mm U))) (σ2 := (d, 314, 55, [some (.inl (am_and (am_xor x0 (-1)) (w32 (x0 - 1)))), some (.inl 1)], [], (am_sh, am_mm U))) 3 (fun _ => rfl) (fun hc => ?_) (fun hc => ?_)
        · have h1111 := h111.1 hc
          refine ev_br (P := (am_and (am_xor x0 (-1)) (w32 (x0 - 1))) ≤ 4) (σ1 := (d, 314, 74, [some (.inl (am_and (am_xor x0 (-1)) (w32 (x0 - 1)))), some (.inl 1)], [], (am_sh, am_mm U))) (σ2 := (d, 314, 67, [some (.inl (am_and (am_xor x0 (-1)) (w32 (x0 - 1)))), some (.inl 1)], [], (am_sh, am_mm U))) 3 (fun _ => rfl) (fun hc => ?_) (fun hc => ?_)
          · have h11111 := h1111.1 hc
            subst h11111
            exact ev_end 6 (fun _ => rfl)
          · have h11112 := h1111.2 hc
            subst h11112
            exact ev_end 11 (fun _ => rfl)
        · have h1112 := h111.2 hc
          refine ev_br (P := (am_ushr (am_and (am_xor x0 (-1)) (w32 (x0 - 1))) 4) ≤ 4) (σ1 := (d, 314, 74, [some (.inl (am_ushr (am_and (am_xor x0 (-1)) (w32 (x0 - 1))) 4)), some (.inl (w32 (1 + 4)))], [], (am_sh, am_mm U))) (σ2 := (d, 314, 67, [some (.inl (am_ushr (am_and (am_xor x0 (-1)) (w32 (x0 - 1))) 4)), some (.inl (w32 (1 + 4)))], [], (am_sh, am_mm U))) 8 (fun _ => rfl) (fun hc => ?_) (fun hc => ?_)
          · have h11121 := h1112.1 hc
            subst h11121
            exact ev_end 6 (fun _ => rfl)
          · have h11122 := h1112.2 hc
            subst h11122
            exact ev_end 11 (fun _ => rfl)
      · have h112 := h11.2 hc
        refine ev_br (P := (am_ushr (am_and (am_xor x0 (-1)) (w32 (x0 - 1))) 8) ≤ 16) (σ1 := (d, 314, 62, [some (.inl (am_ushr (am_and (am_xor x0 (-1)) (w32 (x0 - 1))) 8)), some (.inl (w32 (1 + 8)))], [], (am_sh, am_mm U))) (σ2 := (d, 314, 55, [some (.inl (am_ushr (am_and (am_xor x0 (-1)) (w32 (x0 - 1))) 8)), some (.inl (w32 (1 + 8)))], [], (am_sh, am_mm U))) 8 (fun _ => rfl) (fun hc => ?_) (fun hc => ?_)
        · have h1121 := h112.1 hc
          refine ev_br (P := (am_ushr (am_and (am_xor x0 (-1)) (w32 (x0 - 1))) 8) ≤ 4) (σ1 := (d, 314, 74, [some (.inl (am_ushr (am_and (am_xor x0 (-1)) (w32 (x0 - 1))) 8)), some (.inl (w32 (1 + 8)))], [], (am_sh, am_mm U))) (σ2 := (d, 314, 67, [some (.inl (am_ushr (am_and (am_xor x0 (-1)) (w32 (x0 - 1))) 8)), some (.inl (w32 (1 + 8)))], [], (am_sh, am_mm U))) 3 (fun _ => rfl) (fun hc => ?_) (fun hc => ?_)
          · have h11211 := h1121.1 hc
            subst h11211
            exact ev_end 6 (fun _ => rfl)
          · have h11212 := h1121.2 hc
            subst h11212
            exact ev_end 11 (fun _ => rfl)
        · have h1122 := h112.2 hc
          refine ev_br (P := (am_ushr (am_ushr (am_and (am_xor x0 (-1)) (w32 (x0 - 1))) 8) 4) ≤ 4) (σ1 := (d, 314, 74, [some (.inl (am_ushr (am_ushr (am_and (am_xor x0 (-1)) (w32 (x0 - 1))) 8) 4)), some (.inl (w32 ((w32 (1 + 8)) + 4)))], [], (am_sh, am_mm U))) (σ2 := (d, 314, 67, [some (.inl (am_ushr (am_ushr (am_and (am_xor x0 (-1)) (w32 (x0 - 1))) 8) 4)), some (.inl (w32 ((w32 (1 + 8)) + 4)))], [], (am_sh, am_mm U))) 8 (fun _ => rfl) (fun hc => ?_) (fun hc => ?_)
          · have h11221 := h1122.1 hc
            subst h11221
            exact ev_end 6 (fun _ => rfl)
          · have h11222 := h1122.2 hc
            subst h11222
            exact ev_end 11 (fun _ => rfl)
    · have h12 := h1.2 hc
      refine ev_br (P := (am_ushr (am_and (am_xor x0 (-1)) (w32 (x0 - 1))) 16) ≤ 256) (σ1 := (d, 314, 49, [some (.inl (am_ushr (am_and (am_xor x0 (-1)) (w32 (x0 - 1))) 16)), some (.inl (w32 (1 + 16)))], [], (am_sh, am_mm U))) (σ2 := (d, 314, 41, [some (.inl (am_ushr (am_and (am_xor x0 (-1)) (w32 (x0 - 1))) 16)), some (.inl (w32 (1 + 16)))], [], (am_sh, am_mm U))) 8 (fun _ => rfl) (fun hc => ?_) (fun hc => ?_)
      · have h121 := h12.1 hc
        refine ev_br (P := (am_ushr (am_and (am_xor x0 (-1)) (w32 (x0 - 1))) 16) ≤ 16) (σ1 := (d, 314, 62, [some (.inl (am_ushr (am_and (am_xor x0 (-1)) (w32 (x0 - 1))) 16)), some (.inl (w32 (1 + 16)))], [], (am_sh, am_mm U))) (σ2 := (d, 314, 55, [some (.inl (am_ushr (am_and (am_xor x0 (-1)) (w32 (x0 - 1))) 16)), some (.inl (w32 (1 + 16)))], [], (am_sh, am_mm U))) 3 (fun _ => rfl) (fun hc => ?_) (fun hc => ?_)
        · have h1211 := h121.1 hc
          refine ev_br (P := (am_ushr (am_and (am_xor x0 (-1)) (w32 (x0 - 1))) 16) ≤ 4) (σ1 := (d, 314, 74, [some (.inl (am_ushr (am_and (am_xor x0 (-1)) (w32 (x0 - 1))) 16)), some (.inl (w32 (1 + 16)))], [], (am_sh, am_mm U))) (σ2 := (d, 314, 67, [some (.inl (am_ushr (am_and (am_xor x0 (-1)) (w32 (x0 - 1))) 16)), some (.inl (w32 (1 + 16)))], [], (am_sh, am_mm U))) 3 (fun _ => rfl) (fun hc => ?_) (fun hc => ?_)
          · have h12111 := h1211.1 hc
            subst h12111
            exact ev_end 6 (fun _ => rfl)
          · have h12112 := h1211.2 hc
            subst h12112
            exact ev_end 11 (fun _ => rfl)
        · have h1212 := h121.2 hc
          refine ev_br (P := (am_ushr (am_ushr (am_and (am_xor x0 (-1)) (w32 (x0 - 1))) 16) 4) ≤ 4) (σ1 := (d, 314, 74, [some (.inl (am_ushr (am_ushr (am_and (am_xor x0 (-1)) (w32 (x0 - 1))) 16) 4)), some (.inl (w32 ((w32 (1 + 16)) + 4)))], [], (am_sh, am_mm U))) (σ2 := (d, 314, 67, [some (.inl (am_ushr (am_ushr (am_and (am_xor x0 (-1)) (w32 (x0 - 1))) 16) 4)), some (.inl (w32 ((w32 (1 + 16)) + 4)))], [], (am_sh, am_mm U))) 8 (fun _ => rfl) (fun hc => ?_) (fun hc => ?_)
          · have h12121 := h1212.1 hc
            subst h12121
            exact ev_end 6 (fun _ => rfl)
          · have h12122 := h1212.2 hc
            subst h12122
            exact ev_end 11 (fun _ => rfl)
      · have h122 := h12.2 hc
        refine ev_br (P := (am_ushr (am_ushr (am_and (am_xor x0 (-1)) (w32 (x0 - 1))) 16) 8) ≤ 16) (σ1 := (d, 314, 62, [some (.inl (am_ushr (am_ushr (am_and (am_xor x0 (-1)) (w32 (x0 - 1))) 16) 8)), some (.inl (w32 ((w32 (1 + 16)) + 8)))], [], (am_sh, am_mm U))) (σ2 := (d, 314, 55, [some (.inl (am_ushr (am_ushr (am_and (am_xor x0 (-1)) (w32 (x0 - 1))) 16) 8)), some (.inl (w32 ((w32 (1 + 16)) + 8)))], [], (am_sh, am_mm U))) 8 (fun _ => rfl) (fun hc => ?_) (fun hc => ?_)
        · have h1221 := h122.1 hc
          refine ev_br (P := (am_ushr (am_ushr (am_and (am_xor x0 (-1)) (w32 (x0 - 1))) 16) 8) ≤ 4) (σ1 := (d, 314, 74, [some (.inl (am_ushr (am_ushr (am_and (am_xor x0 (-1)) (w32 (x0 - 1))) 16) 8)), some (.inl (w32 ((w32 (1 + 16)) + 8)))], [], (am_sh, am_mm U))) (σ2 := (d, 314, 67, [some (.inl (am_ushr (am_ushr (am_and (am_xor x0 (-1)) (w32 (x0 - 1))) 16) 8)), some (.inl (w32 ((w32 (1 + 16)) + 8)))], [], (am_sh, am_mm U))) 3 (fun _ => rfl) (fun hc => ?_) (fun hc => ?_)
          · have h12211 := h1221.1 hc
            subst h12211
            exact ev_end 6 (fun _ => rfl)
          · have h12212 := h1221.2 hc
            subst h12212
            exact ev_end 11 (fun _ => rfl)
        · have h1222 := h122.2 hc
          refine ev_br (P := (am_ushr (am_ushr (am_ushr (am_and (am_xor x0 (-1)) (w32 (x0 - 1))) 16) 8) 4) ≤ 4) (σ1 := (d, 314, 74, [some (.inl (am_ushr (am_ushr (am_ushr (am_and (am_xor x0 (-1)) (w32 (x0 - 1))) 16) 8) 4)), some (.inl (w32 ((w32 ((w32 (1 + 16)) + 8)) + 4)))], [], (am_sh, am_mm U))) (σ2 := (d, 314, 67, [some (.inl (am_ushr (am_ushr (am_ushr (am_and (am_xor x0 (-1)) (w32 (x0 - 1))) 16) 8) 4)), some (.inl (w32 ((w32 ((w32 (1 + 16)) + 8)) + 4)))], [], (am_sh, am_mm U))) 8 (fun _ => rfl) (fun hc => ?_) (fun hc => ?_)
          · have h12221 := h1222.1 hc
            subst h12221
            exact ev_end 6 (fun _ => rfl)
          · have h12222 := h1222.2 hc
            subst h12222
            exact ev_end 11 (fun _ => rfl)
  · have h2 := h.2 hc
    subst h2
    exact ev_end 4 (fun _ => rfl)
set_option maxRecDepth 8000 in
theorem st138_21_0 (kz : am_Z) (d : Nat) (x1 x2 : Int) (U : Nat → Nat → Int) (R : Option am_V × am_M) (h : (((x1 < 0 : Prop)) → R = (none, (am_sh, am_mm U))) ∧ (¬ (x1 < 0) → (((x1 < 16 : Prop)) → (0 ≤ x1 ∧ x1 < 16) ∧ ((((U 23 x1.toNat) < 0 : Prop)) → (0 ≤ x1 ∧ x1 < 16) ∧ (((x2 < 0 : Prop)) → R = (none, (am_sh, am_mm (am_upd U 23 x1.toNat (-1))))) ∧ (¬ (x2 < 0) → (((12 ≤ x2 : Prop)) → R = (none, (am_sh, am_mm (am_upd U 23 x1.toNat (-1))))) ∧ (¬ (12 ≤ x2) → (0 ≤ x1 ∧ x1 < 16) ∧ (0 ≤ x2 ∧ x2 < 12) ∧ (0 ≤ x2 ∧ x2 < 12) ∧ R = (none, (am_sh, am_mm (am_upd (am_upd (am_upd U 23 x1.toNat (-1)) 23 x1.toNat x2) 24 x2.toNat (am_or ((am_upd (am_upd U 23 x1.toNat (-1)) 23 x1.toNat x2) 24 x2.toNat) (am_shl 1 x1)))))))) ∧ (¬ ((U 23 x1.toNat) < 0) → (((12 ≤ (U 23 x1.toNat) : Prop)) → (0 ≤ x1 ∧ x1 < 16) ∧ (((x2 < 0 : Prop)) → R = (none, (am_sh, am_mm (am_upd U 23 x1.toNat (-1))))) ∧ (¬ (x2 < 0) → (((12 ≤ x2 : Prop)) → R = (none, (am_sh, am_mm (am_upd U 23 x1.toNat (-1))))) ∧ (¬ (12 ≤ x2) → (0 ≤ x1 ∧ x1 < 16) ∧ (0 ≤ x2 ∧ x2 < 12) ∧ (0 ≤ x2 ∧ x2 < 12) ∧ R = (none, (am_sh, am_mm (am_upd (am_upd (am_upd U 23 x1.toNat (-1)) 23 x1.toNat x2) 24 x2.toNat (am_or ((am_upd (am_upd U 23 x1.toNat (-1)) 23 x1.toNat x2) 24 x2.toNat) (am_shl 1 x1)))))))) ∧ (¬ (12 ≤ (U 23 x1.toNat)) → (0 ≤ (U 23 x1.toNat) ∧ (U 23 x1.toNat) < 12) ∧ (0 ≤ (U 23 x1.toNat) ∧ (U 23 x1.toNat) < 12) ∧ (0 ≤ x1 ∧ x1 < 16) ∧ (((x2 < 0 : Prop)) → R = (none, (am_sh, am_mm (am_upd (am_upd U 24 (U 23 x1.toNat).toNat (am_and (U 24 (U 23 x1.toNat).toNat) (am_xor (am_shl 1 x1) (-1)))) 23 x1.toNat (-1))))) ∧ (¬ (x2 < 0) → (((12 ≤ x2 : Prop)) → R = (none, (am_sh, am_mm (am_upd (am_upd U 24 (U 23 x1.toNat).toNat (am_and (U 24 (U 23 x1.toNat).toNat) (am_xor (am_shl 1 x1) (-1)))) 23 x1.toNat (-1))))) ∧ (¬ (12 ≤ x2) → (0 ≤ x1 ∧ x1 < 16) ∧ (0 ≤ x2 ∧ x2 < 12) ∧ (0 ≤ x2 ∧ x2 < 12) ∧ R = (none, (am_sh, am_mm (am_upd (am_upd (am_upd (am_upd U 24 (U 23 x1.toNat).toNat (am_and (U 24 (U 23 x1.toNat).toNat) (am_xor (am_shl 1 x1) (-1)))) 23 x1.toNat (-1)) 23 x1.toNat x2) 24 x2.toNat (am_or ((am_upd (am_upd (am_upd U 24 (U 23 x1.toNat).toNat (am_and (U 24 (U 23 x1.toNat).toNat) (am_xor (am_shl 1 x1) (-1)))) 23 x1.toNat (-1)) 23 x1.toNat x2) 24 x2.toNat) (am_shl 1 x1)))))))))) ∧ (¬ (x1 < 16) → R = (none, (am_sh, am_mm U))))) : Ev kz (d, 138, 0, [some (.inr (.inr 21)), some (.inl x1), some (.inl x2), none], [], (am_sh, am_mm U)) R := by
  refine ev_br (P := x1 < 0) (σ1 := (d, 138, 10, [some (.inr (.inr 21)), some (.inl x1), some (.inl x2), none], [], (am_sh, am_mm U))) (σ2 := (d, 138, 4, [some (.inr (.inr 21)), some (.inl x1), some (.inl x2), none], [], (am_sh, am_mm U))) 2 (fun _ => rfl) (fun hc => ?_) (fun hc => ?_)
  · have h1 := h.1 hc
    subst h1
    exact ev_end 1 (fun _ => rfl)
  · have h2 := h.2 hc
    refine ev_br (P := x1 < 16) (σ1 := (d, 138, 11, [some (.inr (.inr 21)), some (.inl x1), some (.inl x2), none], [], (am_sh, am_mm U))) (σ2 := (d, 138, 10, [some (.inr (.inr 21)), some (.inl x1), some (.inl x2), none], [], (am_sh, am_mm U))) 3 (fun _ => rfl) (fun hc => ?_) (fun hc => ?_)
    · have h21 := h2.1 hc
      refine ev_seg (σ1 := (d, 138, 16, [some (.inr (.inr 21)), some (.inl x1), some (.inl x2), none], [.inl x1, .inr (.inr 23)], (am_sh, am_mm U))) 3 (fun _ => rfl) ?_
      refine eu_iald 23 (n := 16) rfl (by decide) rfl (fun _ => rfl) h21.1 ?_
      have h21a := h21.2
      refine ev_br (P := (U 23 x1.toNat) < 0) (σ1 := (d, 138, 42, [some (.inr (.inr 21)), some (.inl x1), some (.inl x2), some (.inl (U 23 x1.toNat))], [], (am_sh, am_mm U))) (σ2 := (d, 138, 22, [some (.inr (.inr 21)), some (.inl x1), some (.inl x2), some (.inl (U 23 x1.toNat))], [], (am_sh, am_mm U))) 3 (fun _ => rfl) (fun hc => ?_) (fun hc => ?_)
      · have h21a1 := h21a.1 hc
        refine ev_seg (σ1 := (d, 138, 48, [some (.inr (.inr 21)), some (.inl x1), some (.inl x2), some (.inl (U 23 x1.toNat))], [.inl (-1), .inl x1, .inr (.inr 23)], (am_sh, am_mm U))) 4 (fun _ => rfl) ?_
        refine eu_iast 23 (n := 16) rfl (by decide) rfl (fun _ => rfl) h21a1.1 ?_
        have h21a1a := h21a1.2
        refine ev_br (P := x2 < 0) (σ1 := (d, 138, 78, [some (.inr (.inr 21)), some (.inl x1), some (.inl x2), some (.inl (U 23 x1.toNat))], [], (am_sh, am_mm (am_upd U 23 x1.toNat (-1))))) (σ2 := (d, 138, 53, [some (.inr (.inr 21)), some (.inl x1), some (.inl x2), some (.inl (U 23 x1.toNat))], [], (am_sh, am_mm (am_upd U 23 x1.toNat (-1))))) 2 (fun _ => rfl) (fun hc => ?_) (fun hc => ?_)
        · have h21a1a1 := h21a1a.1 hc
          subst h21a1a1
          exact ev_end 1 (fun _ => rfl)
        · have h21a1a2 := h21a1a.2 hc
          refine ev_br (P := 12 ≤ x2) (σ1 := (d, 138, 78, [some (.inr (.inr 21)), some (.inl x1), some (.inl x2), some (.inl (U 23 x1.toNat))], [], (am_sh, am_mm (am_upd U 23 x1.toNat (-1))))) (σ2 := (d, 138, 59, [some (.inr (.inr 21)), some (.inl x1), some (.inl x2), some (.inl (U 23 x1.toNat))], [], (am_sh, am_mm (am_upd U 23 x1.toNat (-1))))) 3 (fun _ => rfl) (fun hc => ?_) (fun hc => ?_)
          · have h21a1a21 := h21a1a2.1 hc
            subst h21a1a21
            exact ev_end 1 (fun _ => rfl)
          · have h21a1a22 := h21a1a2.2 hc
            refine ev_seg (σ1 := (d, 138, 65, [some (.inr (.inr 21)), some (.inl x1), some (.inl x2), some (.inl (U 23 x1.toNat))], [.inl x2, .inl x1, .inr (.inr 23)], (am_sh, am_mm (am_upd U 23 x1.toNat (-1))))) 4 (fun _ => rfl) ?_
            refine eu_iast 23 (n := 16) rfl (by decide) rfl (fun _ => rfl) h21a1a22.1 ?_
            have h21a1a22a := h21a1a22.2
            refine ev_seg (σ1 := (d, 138, 72, [some (.inr (.inr 21)), some (.inl x1), some (.inl x2), some (.inl (U 23 x1.toNat))], [.inl x2, .inr (.inr 24), .inl x2, .inr (.inr 24)], (am_sh, am_mm (am_upd (am_upd U 23 x1.toNat (-1)) 23 x1.toNat x2)))) 4 (fun _ => rfl) ?_
            refine eu_iald 24 (n := 12) rfl (by decide) rfl (fun _ => rfl) h21a1a22a.1 ?_
            have h21a1a22aa := h21a1a22a.2
            refine ev_seg (σ1 := (d, 138, 77, [some (.inr (.inr 21)), some (.inl x1), some (.inl x2), some (.inl (U 23 x1.toNat))], [.inl (am_or ((am_upd (am_upd U 23 x1.toNat (-1)) 23 x1.toNat x2) 24 x2.toNat) (am_shl 1 x1)), .inl x2, .inr (.inr 24)], (am_sh, am_mm (am_upd (am_upd U 23 x1.toNat (-1)) 23 x1.toNat x2)))) 4 (fun _ => rfl) ?_
            refine eu_iast 24 (n := 12) rfl (by decide) rfl (fun _ => rfl) h21a1a22aa.1 ?_
            have h21a1a22aaa := h21a1a22aa.2
            subst h21a1a22aaa
            exact ev_end 1 (fun _ => rfl)
      · have h21a2 := h21a.2 hc
        refine ev_br (P := 12 ≤ (U 23 x1.toNat)) (σ1 := (d, 138, 42, [some (.inr (.inr 21)), some (.inl x1), some (.inl x2), some (.inl (U 23 x1.toNat))], [], (am_sh, am_mm U))) (σ2 := (d, 138, 28, [some (.inr (.inr 21)), some (.inl x1), some (.inl x2), some (.inl (U 23 x1.toNat))], [], (am_sh, am_mm U))) 3 (fun _ => rfl) (fun hc => ?_) (fun hc => ?_)
        · have h21a21 := h21a2.1 hc
          refine ev_seg (σ1 := (d, 138, 48, [some (.inr (.inr 21)), some (.inl x1), some (.inl x2), some (.inl (U 23 x1.toNat))], [.inl (-1), .inl x1, .inr (.inr 23)], (am_sh, am_mm U))) 4 (fun _ => rfl) ?_
          refine eu_iast 23 (n := 16) rfl (by decide) rfl (fun _ => rfl) h21a21.1 ?_
          have h21a21a := h21a21.2
          refine ev_br (P := x2 < 0) (σ1 := (d, 138, 78, [some (.inr (.inr 21)), some (.inl x1), some (.inl x2), some (.inl (U 23 x1.toNat))], [], (am_sh, am_mm (am_upd U 23 x1.toNat (-1))))) (σ2 := (d, 138, 53, [some (.inr (.inr 21)), some (.inl x1), some (.inl x2), some (.inl (U 23 x1.toNat))], [], (am_sh, am_mm (am_upd U 23 x1.toNat (-1))))) 2 (fun _ => rfl) (fun hc => ?_) (fun hc => ?_)
          · have h21a21a1 := h21a21a.1 hc
            subst h21a21a1
            exact ev_end 1 (fun _ => rfl)
          · have h21a21a2 := h21a21a.2 hc
            refine ev_br (P := 12 ≤ x2) (σ1 := (d, 138, 78, [some (.inr (.inr 21)), some (.inl x1), some (.inl x2), some (.inl (U 23 x1.toNat))], [], (am_sh, am_mm (am_upd U 23 x1.toNat (-1))))) (σ2 := (d, 138, 59, [some (.inr (.inr 21)), some (.inl x1), some (.inl x2), some (.inl (U 23 x1.toNat))], [], (am_sh, am_mm (am_upd U 23 x1.toNat (-1))))) 3 (fun _ => rfl) (fun hc => ?_) (fun hc => ?_)
            · have h21a21a21 := h21a21a2.1 hc
              subst h21a21a21
              exact ev_end 1 (fun _ => rfl)
            · have h21a21a22 := h21a21a2.2 hc
              refine ev_seg (σ1 := (d, 138, 65, [some (.inr (.inr 21)), some (.inl x1), some (.inl x2), some (.inl (U 23 x1.toNat))], [.inl x2, .inl x1, .inr (.inr 23)], (am_sh, am_mm (am_upd U 23 x1.toNat (-1))))) 4 (fun _ => rfl) ?_
              refine eu_iast 23 (n := 16) rfl (by decide) rfl (fun _ => rfl) h21a21a22.1 ?_
              have h21a21a22a := h21a21a22.2
              refine ev_seg (σ1 := (d, 138, 72, [some (.inr (.inr 21)), some (.inl x1), some (.inl x2), some (.inl (U 23 x1.toNat))], [.inl x2, .inr (.inr 24), .inl x2, .inr (.inr 24)], (am_sh, am_mm (am_upd (am_upd U 23 x1.toNat (-1)) 23 x1.toNat x2)))) 4 (fun _ => rfl) ?_
              refine eu_iald 24 (n := 12) rfl (by decide) rfl (fun _ => rfl) h21a21a22a.1 ?_
              have h21a21a22aa := h21a21a22a.2
              refine ev_seg (σ1 := (d, 138, 77, [some (.inr (.inr 21)), some (.inl x1), some (.inl x2), some (.inl (U 23 x1.toNat))], [.inl (am_or ((am_upd (am_upd U 23 x1.toNat (-1)) 23 x1.toNat x2) 24 x2.toNat) (am_shl 1 x1)), .inl x2, .inr (.inr 24)], (am_sh, am_mm (am_upd (am_upd U 23 x1.toNat (-1)) 23 x1.toNat x2)))) 4 (fun _ => rfl) ?_
              refine eu_iast 24 (n := 12) rfl (by decide) rfl (fun _ => rfl) h21a21a22aa.1 ?_
              have h21a21a22aaa := h21a21a22aa.2
              subst h21a21a22aaa
              exact ev_end 1 (fun _ => rfl)
        · have h21a22 := h21a2.2 hc
          refine ev_seg (σ1 := (d, 138, 34, [some (.inr (.inr 21)), some (.inl x1), some (.inl x2), some (.inl (U 23 x1.toNat))], [.inl (U 23 x1.toNat), .inr (.inr 24), .inl (U 23 x1.toNat), .inr (.inr 24)], (am_sh, am_mm U))) 4 (fun _ => rfl) ?_
          refine eu_iald 24 (n := 12) rfl (by decide) rfl (fun _ => rfl) h21a22.1 ?_
          have h21a22a := h21a22.2
          refine ev_seg (σ1 := (d, 138, 41, [some (.inr (.inr 21)), some (.inl x1), some (.inl x2), some (.inl (U 23 x1.toNat))], [.inl (am_and (U 24 (U 23 x1.toNat).toNat) (am_xor (am_shl 1 x1) (-1))), .inl (U 23 x1.toNat), .inr (.inr 24)], (am_sh, am_mm U))) 6 (fun _ => rfl) ?_
          refine eu_iast 24 (n := 12) rfl (by decide) rfl (fun _ => rfl) h21a22a.1 ?_
          have h21a22aa := h21a22a.2
          refine ev_seg (σ1 := (d, 138, 48, [some (.inr (.inr 21)), some (.inl x1), some (.inl x2), some (.inl (U 23 x1.toNat))], [.inl (-1), .inl x1, .inr (.inr 23)], (am_sh, am_mm (am_upd U 24 (U 23 x1.toNat).toNat (am_and (U 24 (U 23 x1.toNat).toNat) (am_xor (am_shl 1 x1) (-1))))))) 4 (fun _ => rfl) ?_
          refine eu_iast 23 (n := 16) rfl (by decide) rfl (fun _ => rfl) h21a22aa.1 ?_
          have h21a22aaa := h21a22aa.2
          refine ev_br (P := x2 < 0) (σ1 := (d, 138, 78, [some (.inr (.inr 21)), some (.inl x1), some (.inl x2), some (.inl (U 23 x1.toNat))], [], (am_sh, am_mm (am_upd (am_upd U 24 (U 23 x1.toNat).toNat (am_and (U 24 (U 23 x1.toNat).toNat) (am_xor (am_shl 1 x1) (-1)))) 23 x1.toNat (-1))))) (σ2 := (d, 138, 53, [some (.inr (.inr 21)), some (.inl x1), some (.inl x2), some (.inl (U 23 x1.toNat))], [], (am_sh, am_mm (am_upd (am_upd U 24 (U 23 x1.toNat).toNat (am_and (U 24 (U 23 x1.toNat).toNat) (am_xor (am_shl 1 x1) (-1)))) 23 x1.toNat (-1))))) 2 (fun _ => rfl) (fun hc => ?_) (fun hc => ?_)
          · have h21a22aaa1 := h21a22aaa.1 hc
            subst h21a22aaa1
            exact ev_end 1 (fun _ => rfl)
          · have h21a22aaa2 := h21a22aaa.2 hc
            refine ev_br (P := 12 ≤ x2) (σ1 := (d, 138, 78, [some (.inr (.inr 21)), some (.inl x1), some (.inl x2), some (.inl (U 23 x1.toNat))], [], (am_sh, am_mm (am_upd (am_upd U 24 (U 23 x1.toNat).toNat (am_and (U 24 (U 23 x1.toNat).toNat) (am_xor (am_shl 1 x1) (-1)))) 23 x1.toNat (-1))))) (σ2 := (d, 138, 59, [some (.inr (.inr 21)), some (.inl x1), some (.inl x2), some (.inl (U 23 x1.toNat))], [], (am_sh, am_mm (am_upd (am_upd U 24 (U 23 x1.toNat).toNat (am_and (U 24 (U 23 x1.toNat).toNat) (am_xor (am_shl 1 x1) (-1)))) 23 x1.toNat (-1))))) 3 (fun _ => rfl) (fun hc => ?_) (fun hc => ?_)
            · have h21a22aaa21 := h21a22aaa2.1 hc
              subst h21a22aaa21
              exact ev_end 1 (fun _ => rfl)
            · have h21a22aaa22 := h21a22aaa2.2 hc
              refine ev_seg (σ1 := (d, 138, 65, [some (.inr (.inr 21)), some (.inl x1), some (.inl x2), some (.inl (U 23 x1.toNat))], [.inl x2, .inl x1, .inr (.inr 23)], (am_sh, am_mm (am_upd (am_upd U 24 (U 23 x1.toNat).toNat (am_and (U 24 (U 23 x1.toNat).toNat) (am_xor (am_shl 1 x1) (-1)))) 23 x1.toNat (-1))))) 4 (fun _ => rfl) ?_
              refine eu_iast 23 (n := 16) rfl (by decide) rfl (fun _ => rfl) h21a22aaa22.1 ?_
              have h21a22aaa22a := h21a22aaa22.2
              refine ev_seg (σ1 := (d, 138, 72, [some (.inr (.inr 21)), some (.inl x1), some (.inl x2), some (.inl (U 23 x1.toNat))], [.inl x2, .inr (.inr 24), .inl x2, .inr (.inr 24)], (am_sh, am_mm (am_upd (am_upd (am_upd U 24 (U 23 x1.toNat).toNat (am_and (U 24 (U 23 x1.toNat).toNat) (am_xor (am_shl 1 x1) (-1)))) 23 x1.toNat (-1)) 23 x1.toNat x2)))) 4 (fun _ => rfl) ?_
              refine eu_iald 24 (n := 12) rfl (by decide) rfl (fun _ => rfl) h21a22aaa22a.1 ?_
              have h21a22aaa22aa := h21a22aaa22a.2
              refine ev_seg (σ1 := (d, 138, 77, [some (.inr (.inr 21)), some (.inl x1), some (.inl x2), some (.inl (U 23 x1.toNat))], [.inl (am_or ((am_upd (am_upd (am_upd U 24 (U 23 x1.toNat).toNat (am_and (U 24 (U 23 x1.toNat).toNat) (am_xor (am_shl 1 x1) (-1)))) 23 x1.toNat (-1)) 23 x1.toNat x2) 24 x2.toNat) (am_shl 1 x1)), .inl x2, .inr (.inr 24)], (am_sh, am_mm (am_upd (am_upd (am_upd U 24 (U 23 x1.toNat).toNat (am_and (U 24 (U 23 x1.toNat).toNat) (am_xor (am_shl 1 x1) (-1)))) 23 x1.toNat (-1)) 23 x1.toNat x2)))) 4 (fun _ => rfl) ?_
              refine eu_iast 24 (n := 12) rfl (by decide) rfl (fun _ => rfl) h21a22aaa22aa.1 ?_
              have h21a22aaa22aaa := h21a22aaa22aa.2
              subst h21a22aaa22aaa
              exact ev_end 1 (fun _ => rfl)
    · have h22 := h2.2 hc
      subst h22
      exact ev_end 1 (fun _ => rfl)
set_option maxRecDepth 8000 in
theorem st317_27_2_0 (kz : am_Z) (d : Nat) (x2 x3 x4 : Int) (U : Nat → Nat → Int) (R : Option am_V × am_M) (h : Ev kz ((d + 1), 317, 3, [some (.inr (.inr 27)), some (.inr (.inr 2)), some (.inl x2), some (.inl x3), some (.inl x4), some (.inl 0)], [], (am_sh, am_mm U)) R) : Ev kz ((d + 1), 317, 0, [some (.inr (.inr 27)), some (.inr (.inr 2)), some (.inl x2), some (.inl x3), some (.inl x4), none], [], (am_sh, am_mm U)) R := by
  refine ev_seg (σ1 := ((d + 1), 317, 3, [some (.inr (.inr 27)), some (.inr (.inr 2)), some (.inl x2), some (.inl x3), some (.inl x4), some (.inl 0)], [], (am_sh, am_mm U))) 2 (fun _ => rfl) ?_
  exact h
set_option maxRecDepth 8000 in
theorem st317_27_2_3 (kz : am_Z) (d : Nat) (x2 x3 x4 x5 : Int) (U : Nat → Nat → Int) (R : Option am_V × am_M) (h : (((25 < x5 : Prop)) → ∃ U1 : Nat → Nat → Int, Ev kz (d, 248, 0, [some (.inr (.inr 27)), some (.inl 2), some (.inl x4), some (.inl x2)], [], (am_sh, am_mm U)) (none, (am_sh, am_mm U1)) ∧ R = (none, (am_sh, am_mm U1))) ∧ (¬ (25 < x5) → ∃ (r2 : Int) (U2 : Nat → Nat → Int), Ev kz (d, 330, 0, [some (.inr (.inr 2)), some (.inl x2), some (.inl x3), some (.inl x5), none, none, none], [], (am_sh, am_mm U)) (some (.inl r2), (am_sh, am_mm U2)) ∧ (((r2 = 0 : Prop)) → Ev kz ((d + 1), 317, 3, [some (.inr (.inr 27)), some (.inr (.inr 2)), some (.inl x2), some (.inl x3), some (.inl x4), some (.inl (w32 (x5 + 1)))], [], (am_sh, am_mm U2)) R) ∧ (¬ (r2 = 0) → ∃ U3 : Nat → Nat → Int, Ev kz (d, 248, 0, [some (.inr (.inr 27)), some (.inl 1), some (.inl x5), some (.inl x2)], [], (am_sh, am_mm U2)) (none, (am_sh, am_mm U3)) ∧ R = (none, (am_sh, am_mm U3))))) : Ev kz ((d + 1), 317, 3, [some (.inr (.inr 27)), some (.inr (.inr 2)), some (.inl x2), some (.inl x3), some (.inl x4), some (.inl x5)], [], (am_sh, am_mm U)) R := by
  refine ev_br (P := 25 < x5) (σ1 := ((d + 1), 317, 36, [some (.inr (.inr 27)), some (.inr (.inr 2)), some (.inl x2), some (.inl x3), some (.inl x4), some (.inl x5)], [], (am_sh, am_mm U))) (σ2 := ((d + 1), 317, 10, [some (.inr (.inr 27)), some (.inr (.inr 2)), some (.inl x2), some (.inl x3), some (.inl x4), some (.inl x5)], [], (am_sh, am_mm U))) 3 (fun _ => rfl) (fun hc => ?_) (fun hc => ?_)
  · have h1 := h.1 hc
    refine ev_seg (σ1 := ((d + 1), 317, 41, [some (.inr (.inr 27)), some (.inr (.inr 2)), some (.inl x2), some (.inl x3), some (.inl x4), some (.inl x5)], [.inl x2, .inl x4, .inl 2, .inr (.inr 27)], (am_sh, am_mm U))) 4 (fun _ => rfl) ?_
    obtain ⟨U1, h1c, h1a⟩ := h1
    refine ev_cal (σc := (d, 248, 0, [some (.inr (.inr 27)), some (.inl 2), some (.inl x4), some (.inl x2)], [], (am_sh, am_mm U))) (fun _ => rfl) h1c ?_
    show Ev kz ((d + 1), 317, 44, [some (.inr (.inr 27)), some (.inr (.inr 2)), some (.inl x2), some (.inl x3), some (.inl x4), some (.inl x5)], [], (am_sh, am_mm U1)) R
    subst h1a
    exact ev_end 1 (fun _ => rfl)
  · have h2 := h.2 hc
    refine ev_seg (σ1 := ((d + 1), 317, 15, [some (.inr (.inr 27)), some (.inr (.inr 2)), some (.inl x2), some (.inl x3), some (.inl x4), some (.inl x5)], [.inl x5, .inl x3, .inl x2, .inr (.inr 2)], (am_sh, am_mm U))) 4 (fun _ => rfl) ?_
    obtain ⟨r2, U2, h2c, h2a⟩ := h2
    refine ev_cal (σc := (d, 330, 0, [some (.inr (.inr 2)), some (.inl x2), some (.inl x3), some (.inl x5), none, none, none], [], (am_sh, am_mm U))) (fun _ => rfl) h2c ?_
    show Ev kz ((d + 1), 317, 18, [some (.inr (.inr 27)), some (.inr (.inr 2)), some (.inl x2), some (.inl x3), some (.inl x4), some (.inl x5)], [.inl r2], (am_sh, am_mm U2)) R
    refine ev_br (P := r2 = 0) (σ1 := ((d + 1), 317, 30, [some (.inr (.inr 27)), some (.inr (.inr 2)), some (.inl x2), some (.inl x3), some (.inl x4), some (.inl x5)], [], (am_sh, am_mm U2))) (σ2 := ((d + 1), 317, 21, [some (.inr (.inr 27)), some (.inr (.inr 2)), some (.inl x2), some (.inl x3), some (.inl x4), some (.inl x5)], [], (am_sh, am_mm U2))) 1 (fun _ => rfl) (fun hc => ?_) (fun hc => ?_)
    · have h2a1 := h2a.1 hc
      refine ev_seg (σ1 := ((d + 1), 317, 3, [some (.inr (.inr 27)), some (.inr (.inr 2)), some (.inl x2), some (.inl x3), some (.inl x4), some (.inl (w32 (x5 + 1)))], [], (am_sh, am_mm U2))) 2 (fun _ => rfl) ?_
      exact h2a1
    · have h2a2 := h2a.2 hc
      refine ev_seg (σ1 := ((d + 1), 317, 26, [some (.inr (.inr 27)), some (.inr (.inr 2)), some (.inl x2), some (.inl x3), some (.inl x4), some (.inl x5)], [.inl x2, .inl x5, .inl 1, .inr (.inr 27)], (am_sh, am_mm U2))) 4 (fun _ => rfl) ?_
      obtain ⟨U3, h2a2c, h2a2a⟩ := h2a2
      refine ev_cal (σc := (d, 248, 0, [some (.inr (.inr 27)), some (.inl 1), some (.inl x5), some (.inl x2)], [], (am_sh, am_mm U2))) (fun _ => rfl) h2a2c ?_
      show Ev kz ((d + 1), 317, 29, [some (.inr (.inr 27)), some (.inr (.inr 2)), some (.inl x2), some (.inl x3), some (.inl x4), some (.inl x5)], [], (am_sh, am_mm U3)) R
      subst h2a2a
      exact ev_end 1 (fun _ => rfl)
set_option maxRecDepth 8000 in
theorem st326_86_0 (kz : am_Z) (d : Nat) (x1 : Int) (U : Nat → Nat → Int) (R : Option am_V × am_M) (h : (0 ≤ (U 86 49) ∧ (U 86 49) < 500) ∧ R = (none, (am_sh, am_mm (am_upd (am_upd U 118 (U 86 49).toNat x1) 86 49 (w32 (((am_upd U 118 (U 86 49).toNat x1) 86 49) + 1)))))) : Ev kz (d, 326, 0, [some (.inr (.inr 86)), some (.inl x1)], [], (am_sh, am_mm U)) R := by
  refine ev_seg (σ1 := (d, 326, 9, [some (.inr (.inr 86)), some (.inl x1)], [.inl x1, .inl (U 86 49), .inr (.inr 118)], (am_sh, am_mm U))) 5 (fun _ => rfl) ?_
  refine eu_iast 118 (n := 500) rfl (by decide) rfl (fun _ => rfl) h.1 ?_
  have ha := h.2
  refine ev_seg (σ1 := (d, 326, 17, [some (.inr (.inr 86)), some (.inl x1)], [.inl (w32 (((am_upd U 118 (U 86 49).toNat x1) 86 49) + 1)), .inr (.inr 86)], (am_sh, am_mm (am_upd U 118 (U 86 49).toNat x1)))) 5 (fun _ => rfl) ?_
  refine eu_puti 86 (n := 90) rfl (by decide) rfl rfl ?_
  subst ha
  exact ev_end 1 (fun _ => rfl)
set_option maxRecDepth 8000 in
theorem st328_86_0 (kz : am_Z) (d : Nat) (x1 x2 : Int) (U : Nat → Nat → Int) (R : Option am_V × am_M) (h : (0 ≤ (w32 ((w32 (1600 * (U 86 40))) + (U 86 39))) ∧ (w32 ((w32 (1600 * (U 86 40))) + (U 86 39))) < 3200) ∧ (0 ≤ (w32 ((w32 (1600 * ((am_upd U 111 (w32 ((w32 (1600 * (U 86 40))) + (U 86 39))).toNat x1) 86 40))) + ((am_upd U 111 (w32 ((w32 (1600 * (U 86 40))) + (U 86 39))).toNat x1) 86 39))) ∧ (w32 ((w32 (1600 * ((am_upd U 111 (w32 ((w32 (1600 * (U 86 40))) + (U 86 39))).toNat x1) 86 40))) + ((am_upd U 111 (w32 ((w32 (1600 * (U 86 40))) + (U 86 39))).toNat x1) 86 39))) < 3200) ∧ R = (none, (am_sh, am_mm (am_upd (am_upd (am_upd U 111 (w32 ((w32 (1600 * (U 86 40))) + (U 86 39))).toNat x1) 112 (w32 ((w32 (1600 * ((am_upd U 111 (w32 ((w32 (1600 * (U 86 40))) + (U 86 39))).toNat x1) 86 40))) + ((am_upd U 111 (w32 ((w32 (1600 * (U 86 40))) + (U 86 39))).toNat x1) 86 39))).toNat x2) 86 39 (w32 (((am_upd (am_upd U 111 (w32 ((w32 (1600 * (U 86 40))) + (U 86 39))).toNat x1) 112 (w32 ((w32 (1600 * ((am_upd U 111 (w32 ((w32 (1600 * (U 86 40))) + (U 86 39))).toNat x1) 86 40))) + ((am_upd U 111 (w32 ((w32 (1600 * (U 86 40))) + (U 86 39))).toNat x1) 86 39))).toNat x2) 86 39) + 1)))))) : Ev kz (d, 328, 0, [some (.inr (.inr 86)), some (.inl x1), some (.inl x2)], [], (am_sh, am_mm U)) R := by
  refine ev_seg (σ1 := (d, 328, 18, [some (.inr (.inr 86)), some (.inl x1), some (.inl x2)], [.inl x1, .inl (w32 ((w32 (1600 * (U 86 40))) + (U 86 39))), .inr (.inr 111)], (am_sh, am_mm U))) 10 (fun _ => rfl) ?_
  refine eu_iast 111 (n := 3200) rfl (by decide) rfl (fun _ => rfl) h.1 ?_
  have ha := h.2
  refine ev_seg (σ1 := (d, 328, 37, [some (.inr (.inr 86)), some (.inl x1), some (.inl x2)], [.inl x2, .inl (w32 ((w32 (1600 * ((am_upd U 111 (w32 ((w32 (1600 * (U 86 40))) + (U 86 39))).toNat x1) 86 40))) + ((am_upd U 111 (w32 ((w32 (1600 * (U 86 40))) + (U 86 39))).toNat x1) 86 39))), .inr (.inr 112)], (am_sh, am_mm (am_upd U 111 (w32 ((w32 (1600 * (U 86 40))) + (U 86 39))).toNat x1)))) 10 (fun _ => rfl) ?_
  refine eu_iast 112 (n := 3200) rfl (by decide) rfl (fun _ => rfl) ha.1 ?_
  have haa := ha.2
  refine ev_seg (σ1 := (d, 328, 45, [some (.inr (.inr 86)), some (.inl x1), some (.inl x2)], [.inl (w32 (((am_upd (am_upd U 111 (w32 ((w32 (1600 * (U 86 40))) + (U 86 39))).toNat x1) 112 (w32 ((w32 (1600 * ((am_upd U 111 (w32 ((w32 (1600 * (U 86 40))) + (U 86 39))).toNat x1) 86 40))) + ((am_upd U 111 (w32 ((w32 (1600 * (U 86 40))) + (U 86 39))).toNat x1) 86 39))).toNat x2) 86 39) + 1)), .inr (.inr 86)], (am_sh, am_mm (am_upd (am_upd U 111 (w32 ((w32 (1600 * (U 86 40))) + (U 86 39))).toNat x1) 112 (w32 ((w32 (1600 * ((am_upd U 111 (w32 ((w32 (1600 * (U 86 40))) + (U 86 39))).toNat x1) 86 40))) + ((am_upd U 111 (w32 ((w32 (1600 * (U 86 40))) + (U 86 39))).toNat x1) 86 39))).toNat x2)))) 5 (fun _ => rfl) ?_
  refine eu_puti 86 (n := 90) rfl (by decide) rfl rfl ?_
  subst haa
  exact ev_end 1 (fun _ => rfl)
set_option maxRecDepth 8000 in
theorem st325_0 (kz : am_Z) (d : Nat) (x0 : Int) (U : Nat → Nat → Int) (R : Option am_V × am_M) (h : (((x0 = 1 : Prop)) → R = (some (.inl 1), (am_sh, am_mm U))) ∧ (¬ (x0 = 1) → (((¬ x0 = 5 : Prop)) → R = (some (.inl 0), (am_sh, am_mm U))) ∧ (¬ (¬ x0 = 5) → R = (some (.inl 1), (am_sh, am_mm U))))) : Ev kz (d, 325, 0, [some (.inl x0)], [], (am_sh, am_mm U)) R := by
  refine ev_br (P := x0 = 1) (σ1 := (d, 325, 10, [some (.inl x0)], [], (am_sh, am_mm U))) (σ2 := (d, 325, 5, [some (.inl x0)], [], (am_sh, am_mm U))) 3 (fun _ => rfl) (fun hc => ?_) (fun hc => ?_)
  · have h1 := h.1 hc
    subst h1
    exact ev_end 3 (fun _ => rfl)
  · have h2 := h.2 hc
    refine ev_br (P := ¬ x0 = 5) (σ1 := (d, 325, 14, [some (.inl x0)], [], (am_sh, am_mm U))) (σ2 := (d, 325, 10, [some (.inl x0)], [], (am_sh, am_mm U))) 3 (fun _ => rfl) (fun hc => ?_) (fun hc => ?_)
    · have h21 := h2.1 hc
      subst h21
      exact ev_end 2 (fun _ => rfl)
    · have h22 := h2.2 hc
      subst h22
      exact ev_end 3 (fun _ => rfl)
set_option maxRecDepth 8000 in
theorem st329_86_0 (kz : am_Z) (d : Nat) (x1 : Int) (U : Nat → Nat → Int) (R : Option am_V × am_M) (h : (0 ≤ (w32 ((U 86 46) - 1)) ∧ (w32 ((U 86 46) - 1)) < 20) ∧ ((((U 86 49) ≤ (U 117 (w32 ((U 86 46) - 1)).toNat) : Prop)) → R = (none, (am_sh, am_mm U))) ∧ (¬ ((U 86 49) ≤ (U 117 (w32 ((U 86 46) - 1)).toNat)) → (0 ≤ (w32 ((U 86 49) - 1)) ∧ (w32 ((U 86 49) - 1)) < 500) ∧ ∃ (r1 : Int) (U1 : Nat → Nat → Int), Ev kz (d, 337, 0, [some (.inl (U 118 (w32 ((U 86 49) - 1)).toNat))], [], (am_sh, am_mm U)) (some (.inl r1), (am_sh, am_mm U1)) ∧ (((r1 < x1 : Prop)) → R = (none, (am_sh, am_mm U1))) ∧ (¬ (r1 < x1) → (0 ≤ ((am_upd U1 86 49 (w32 ((U1 86 49) - 1))) 86 49) ∧ ((am_upd U1 86 49 (w32 ((U1 86 49) - 1))) 86 49) < 500) ∧ ∃ U2 : Nat → Nat → Int, Ev kz (d, 328, 0, [some (.inr (.inr 86)), some (.inl ((am_upd U1 86 49 (w32 ((U1 86 49) - 1))) 118 ((am_upd U1 86 49 (w32 ((U1 86 49) - 1))) 86 49).toNat)), some (.inl 0)], [], (am_sh, am_mm (am_upd U1 86 49 (w32 ((U1 86 49) - 1))))) (none, (am_sh, am_mm U2)) ∧ (0 ≤ (U2 86 49) ∧ (U2 86 49) < 500) ∧ (((¬ (U2 118 (U2 86 49).toNat) = 22 : Prop)) → Ev kz ((d + 1), 329, 0, [some (.inr (.inr 86)), some (.inl x1)], [], (am_sh, am_mm U2)) R) ∧ (¬ (¬ (U2 118 (U2 86 49).toNat) = 22) → Ev kz ((d + 1), 329, 0, [some (.inr (.inr 86)), some (.inl x1)], [], (am_sh, am_mm (am_upd U2 86 47 (w32 ((U2 86 47) - 1))))) R)))) : Ev kz ((d + 1), 329, 0, [some (.inr (.inr 86)), some (.inl x1)], [], (am_sh, am_mm U)) R := by
  refine ev_seg (σ1 := ((d + 1), 329, 14, [some (.inr (.inr 86)), some (.inl x1)], [.inl (w32 ((U 86 46) - 1)), .inr (.inr 117), .inl (U 86 49)], (am_sh, am_mm U))) 8 (fun _ => rfl) ?_
  refine eu_iald 117 (n := 20) rfl (by decide) rfl (fun _ => rfl) h.1 ?_
  have ha := h.2
  refine ev_br (P := (U 86 49) ≤ (U 117 (w32 ((U 86 46) - 1)).toNat)) (σ1 := ((d + 1), 329, 87, [some (.inr (.inr 86)), some (.inl x1)], [], (am_sh, am_mm U))) (σ2 := ((d + 1), 329, 18, [some (.inr (.inr 86)), some (.inl x1)], [], (am_sh, am_mm U))) 1 (fun _ => rfl) (fun hc => ?_) (fun hc => ?_)
  · have ha1 := ha.1 hc
    subst ha1
    exact ev_end 1 (fun _ => rfl)
  · have ha2 := ha.2 hc
    refine ev_seg (σ1 := ((d + 1), 329, 28, [some (.inr (.inr 86)), some (.inl x1)], [.inl (w32 ((U 86 49) - 1)), .inr (.inr 118)], (am_sh, am_mm U))) 6 (fun _ => rfl) ?_
    refine eu_iald 118 (n := 500) rfl (by decide) rfl (fun _ => rfl) ha2.1 ?_
    have ha2a := ha2.2
    obtain ⟨r1, U1, ha2ac, ha2aa⟩ := ha2a
    refine ev_cal (σc := (d, 337, 0, [some (.inl (U 118 (w32 ((U 86 49) - 1)).toNat))], [], (am_sh, am_mm U))) (fun _ => rfl) ha2ac ?_
    show Ev kz ((d + 1), 329, 32, [some (.inr (.inr 86)), some (.inl x1)], [.inl r1], (am_sh, am_mm U1)) R
    refine ev_br (P := r1 < x1) (σ1 := ((d + 1), 329, 87, [some (.inr (.inr 86)), some (.inl x1)], [], (am_sh, am_mm U1))) (σ2 := ((d + 1), 329, 36, [some (.inr (.inr 86)), some (.inl x1)], [], (am_sh, am_mm U1))) 2 (fun _ => rfl) (fun hc => ?_) (fun hc => ?_)
    · have ha2aa1 := ha2aa.1 hc
      subst ha2aa1
      exact ev_end 1 (fun _ => rfl)
    · have ha2aa2 := ha2aa.2 hc
      refine ev_seg (σ1 := ((d + 1), 329, 43, [some (.inr (.inr 86)), some (.inl x1)], [.inl (w32 ((U1 86 49) - 1)), .inr (.inr 86)], (am_sh, am_mm U1))) 5 (fun _ => rfl) ?_
      refine eu_puti 86 (n := 90) rfl (by decide) rfl rfl ?_
      refine ev_seg (σ1 := ((d + 1), 329, 55, [some (.inr (.inr 86)), some (.inl x1)], [.inl ((am_upd U1 86 49 (w32 ((U1 86 49) - 1))) 86 49), .inr (.inr 118), .inr (.inr 86)], (am_sh, am_mm (am_upd U1 86 49 (w32 ((U1 86 49) - 1)))))) 5 (fun _ => rfl) ?_
      refine eu_iald 118 (n := 500) rfl (by decide) rfl (fun _ => rfl) ha2aa2.1 ?_
      have ha2aa2a := ha2aa2.2
      refine ev_seg (σ1 := ((d + 1), 329, 57, [some (.inr (.inr 86)), some (.inl x1)], [.inl 0, .inl ((am_upd U1 86 49 (w32 ((U1 86 49) - 1))) 118 ((am_upd U1 86 49 (w32 ((U1 86 49) - 1))) 86 49).toNat), .inr (.inr 86)], (am_sh, am_mm (am_upd U1 86 49 (w32 ((U1 86 49) - 1)))))) 1 (fun _ => rfl) ?_
      obtain ⟨U2, ha2aa2ac, ha2aa2aa⟩ := ha2aa2a
      refine ev_cal (σc := (d, 328, 0, [some (.inr (.inr 86)), some (.inl ((am_upd U1 86 49 (w32 ((U1 86 49) - 1))) 118 ((am_upd U1 86 49 (w32 ((U1 86 49) - 1))) 86 49).toNat)), some (.inl 0)], [], (am_sh, am_mm (am_upd U1 86 49 (w32 ((U1 86 49) - 1)))))) (fun _ => rfl) ha2aa2ac ?_
      show Ev kz ((d + 1), 329, 60, [some (.inr (.inr 86)), some (.inl x1)], [], (am_sh, am_mm U2)) R
      refine ev_seg (σ1 := ((d + 1), 329, 68, [some (.inr (.inr 86)), some (.inl x1)], [.inl (U2 86 49), .inr (.inr 118)], (am_sh, am_mm U2))) 4 (fun _ => rfl) ?_
      refine eu_iald 118 (n := 500) rfl (by decide) rfl (fun _ => rfl) ha2aa2aa.1 ?_
      have ha2aa2aaa := ha2aa2aa.2
      refine ev_br (P := ¬ (U2 118 (U2 86 49).toNat) = 22) (σ1 := ((d + 1), 329, 0, [some (.inr (.inr 86)), some (.inl x1)], [], (am_sh, am_mm U2))) (σ2 := ((d + 1), 329, 74, [some (.inr (.inr 86)), some (.inl x1)], [], (am_sh, am_mm U2))) 2 (fun _ => rfl) (fun hc => ?_) (fun hc => ?_)
      · have ha2aa2aaa1 := ha2aa2aaa.1 hc
        exact ha2aa2aaa1
      · have ha2aa2aaa2 := ha2aa2aaa.2 hc
        refine ev_seg (σ1 := ((d + 1), 329, 81, [some (.inr (.inr 86)), some (.inl x1)], [.inl (w32 ((U2 86 47) - 1)), .inr (.inr 86)], (am_sh, am_mm U2))) 5 (fun _ => rfl) ?_
        refine eu_puti 86 (n := 90) rfl (by decide) rfl rfl ?_
        refine ev_seg (σ1 := ((d + 1), 329, 0, [some (.inr (.inr 86)), some (.inl x1)], [], (am_sh, am_mm (am_upd U2 86 47 (w32 ((U2 86 47) - 1)))))) 1 (fun _ => rfl) ?_
        exact ha2aa2aaa2
set_option maxRecDepth 8000 in
theorem st327_86_0 (kz : am_Z) (d : Nat) (x1 : Int) (U : Nat → Nat → Int) (R : Option am_V × am_M) (h : (((¬ (U 86 47) = 7 : Prop)) → ((((U 86 8) ≤ 0 : Prop)) → ∃ U1 : Nat → Nat → Int, Ev kz (d, 93, 0, [some (.inr (.inr 86)), none, none, none, none, none], [], (am_sh, am_mm (am_upd U 86 47 (w32 ((U 86 47) + 1))))) (none, (am_sh, am_mm U1)) ∧ ∃ U2 : Nat → Nat → Int, Ev kz (d, 308, 0, [some (.inr (.inr 86)), some (.inl x1)], [], (am_sh, am_mm U1)) (none, (am_sh, am_mm U2)) ∧ R = (none, (am_sh, am_mm U2))) ∧ (¬ ((U 86 8) ≤ 0) → R = (none, (am_sh, am_mm U)))) ∧ (¬ (¬ (U 86 47) = 7) → ∃ U3 : Nat → Nat → Int, Ev kz (d, 196, 0, [some (.inr (.inr 86)), some (.inl 5), some (.inl (U 86 4))], [], (am_sh, am_mm U)) (none, (am_sh, am_mm U3)) ∧ ((((U3 86 8) ≤ 0 : Prop)) → ∃ U4 : Nat → Nat → Int, Ev kz (d, 93, 0, [some (.inr (.inr 86)), none, none, none, none, none], [], (am_sh, am_mm (am_upd U3 86 47 (w32 ((U3 86 47) + 1))))) (none, (am_sh, am_mm U4)) ∧ ∃ U5 : Nat → Nat → Int, Ev kz (d, 308, 0, [some (.inr (.inr 86)), some (.inl x1)], [], (am_sh, am_mm U4)) (none, (am_sh, am_mm U5)) ∧ R = (none, (am_sh, am_mm U5))) ∧ (¬ ((U3 86 8) ≤ 0) → R = (none, (am_sh, am_mm U3))))) : Ev kz ((d + 1), 327, 0, [some (.inr (.inr 86)), some (.inl x1)], [], (am_sh, am_mm U)) R := by
  refine ev_br (P := ¬ (U 86 47) = 7) (σ1 := ((d + 1), 327, 18, [some (.inr (.inr 86)), some (.inl x1)], [], (am_sh, am_mm U))) (σ2 := ((d + 1), 327, 9, [some (.inr (.inr 86)), some (.inl x1)], [], (am_sh, am_mm U))) 4 (fun _ => rfl) (fun hc => ?_) (fun hc => ?_)
  · have h1 := h.1 hc
    refine ev_br (P := (U 86 8) ≤ 0) (σ1 := ((d + 1), 327, 26, [some (.inr (.inr 86)), some (.inl x1)], [], (am_sh, am_mm U))) (σ2 := ((d + 1), 327, 25, [some (.inr (.inr 86)), some (.inl x1)], [], (am_sh, am_mm U))) 3 (fun _ => rfl) (fun hc => ?_) (fun hc => ?_)
    · have h11 := h1.1 hc
      refine ev_seg (σ1 := ((d + 1), 327, 33, [some (.inr (.inr 86)), some (.inl x1)], [.inl (w32 ((U 86 47) + 1)), .inr (.inr 86)], (am_sh, am_mm U))) 5 (fun _ => rfl) ?_
      refine eu_puti 86 (n := 90) rfl (by decide) rfl rfl ?_
      refine ev_seg (σ1 := ((d + 1), 327, 37, [some (.inr (.inr 86)), some (.inl x1)], [.inr (.inr 86)], (am_sh, am_mm (am_upd U 86 47 (w32 ((U 86 47) + 1)))))) 1 (fun _ => rfl) ?_
      obtain ⟨U1, h11c, h11a⟩ := h11
      refine ev_cal (σc := (d, 93, 0, [some (.inr (.inr 86)), none, none, none, none, none], [], (am_sh, am_mm (am_upd U 86 47 (w32 ((U 86 47) + 1)))))) (fun _ => rfl) h11c ?_
      show Ev kz ((d + 1), 327, 40, [some (.inr (.inr 86)), some (.inl x1)], [], (am_sh, am_mm U1)) R
      refine ev_seg (σ1 := ((d + 1), 327, 42, [some (.inr (.inr 86)), some (.inl x1)], [.inl x1, .inr (.inr 86)], (am_sh, am_mm U1))) 2 (fun _ => rfl) ?_
      obtain ⟨U2, h11ac, h11aa⟩ := h11a
      refine ev_cal (σc := (d, 308, 0, [some (.inr (.inr 86)), some (.inl x1)], [], (am_sh, am_mm U1))) (fun _ => rfl) h11ac ?_
      show Ev kz ((d + 1), 327, 45, [some (.inr (.inr 86)), some (.inl x1)], [], (am_sh, am_mm U2)) R
      subst h11aa
      exact ev_end 1 (fun _ => rfl)
    · have h12 := h1.2 hc
      subst h12
      exact ev_end 1 (fun _ => rfl)
  · have h2 := h.2 hc
    refine ev_seg (σ1 := ((d + 1), 327, 15, [some (.inr (.inr 86)), some (.inl x1)], [.inl (U 86 4), .inl 5, .inr (.inr 86)], (am_sh, am_mm U))) 4 (fun _ => rfl) ?_
    obtain ⟨U3, h2c, h2a⟩ := h2
    refine ev_cal (σc := (d, 196, 0, [some (.inr (.inr 86)), some (.inl 5), some (.inl (U 86 4))], [], (am_sh, am_mm U))) (fun _ => rfl) h2c ?_
    show Ev kz ((d + 1), 327, 18, [some (.inr (.inr 86)), some (.inl x1)], [], (am_sh, am_mm U3)) R
    refine ev_br (P := (U3 86 8) ≤ 0) (σ1 := ((d + 1), 327, 26, [some (.inr (.inr 86)), some (.inl x1)], [], (am_sh, am_mm U3))) (σ2 := ((d + 1), 327, 25, [some (.inr (.inr 86)), some (.inl x1)], [], (am_sh, am_mm U3))) 3 (fun _ => rfl) (fun hc => ?_) (fun hc => ?_)
    · have h2a1 := h2a.1 hc
      refine ev_seg (σ1 := ((d + 1), 327, 33, [some (.inr (.inr 86)), some (.inl x1)], [.inl (w32 ((U3 86 47) + 1)), .inr (.inr 86)], (am_sh, am_mm U3))) 5 (fun _ => rfl) ?_
      refine eu_puti 86 (n := 90) rfl (by decide) rfl rfl ?_
      refine ev_seg (σ1 := ((d + 1), 327, 37, [some (.inr (.inr 86)), some (.inl x1)], [.inr (.inr 86)], (am_sh, am_mm (am_upd U3 86 47 (w32 ((U3 86 47) + 1)))))) 1 (fun _ => rfl) ?_
      obtain ⟨U4, h2a1c, h2a1a⟩ := h2a1
      refine ev_cal (σc := (d, 93, 0, [some (.inr (.inr 86)), none, none, none, none, none], [], (am_sh, am_mm (am_upd U3 86 47 (w32 ((U3 86 47) + 1)))))) (fun _ => rfl) h2a1c ?_
      show Ev kz ((d + 1), 327, 40, [some (.inr (.inr 86)), some (.inl x1)], [], (am_sh, am_mm U4)) R
      refine ev_seg (σ1 := ((d + 1), 327, 42, [some (.inr (.inr 86)), some (.inl x1)], [.inl x1, .inr (.inr 86)], (am_sh, am_mm U4))) 2 (fun _ => rfl) ?_
      obtain ⟨U5, h2a1ac, h2a1aa⟩ := h2a1a
      refine ev_cal (σc := (d, 308, 0, [some (.inr (.inr 86)), some (.inl x1)], [], (am_sh, am_mm U4))) (fun _ => rfl) h2a1ac ?_
      show Ev kz ((d + 1), 327, 45, [some (.inr (.inr 86)), some (.inl x1)], [], (am_sh, am_mm U5)) R
      subst h2a1aa
      exact ev_end 1 (fun _ => rfl)
    · have h2a2 := h2a.2 hc
      subst h2a2
      exact ev_end 1 (fun _ => rfl)
set_option maxRecDepth 8000 in
theorem st273_0 (kz : am_Z) (d : Nat) (x0 x2 x4 : Int) (U : Nat → Nat → Int) (R : Option am_V × am_M) (h : x4 ≠ 0 ∧ Ev kz (d, 273, 12, [some (.inr (.inl x0)), none, some (.inr (.inl x2)), none, some (.inr (.inl x4)), none, some (.inr (.inl 1)), none, some (.inr (.inl (Int.tmod x0 x4))), none, some (.inr (.inl x2)), none], [], (am_sh, am_mm U)) R) : Ev kz (d, 273, 0, [some (.inr (.inl x0)), none, some (.inr (.inl x2)), none, some (.inr (.inl x4)), none, none, none, none, none, none, none], [], (am_sh, am_mm U)) R := by
  refine ev_seg (σ1 := (d, 273, 6, [some (.inr (.inl x0)), none, some (.inr (.inl x2)), none, some (.inr (.inl x4)), none, some (.inr (.inl 1)), none, none, none, none, none], [.inr (.inl x4), .inr (.inl x0)], (am_sh, am_mm U))) 4 (fun _ => rfl) ?_
  refine ev_lrem rfl h.1 ?_
  have ha := h.2
  refine ev_seg (σ1 := (d, 273, 12, [some (.inr (.inl x0)), none, some (.inr (.inl x2)), none, some (.inr (.inl x4)), none, some (.inr (.inl 1)), none, some (.inr (.inl (Int.tmod x0 x4))), none, some (.inr (.inl x2)), none], [], (am_sh, am_mm U))) 3 (fun _ => rfl) ?_
  exact ha
set_option maxRecDepth 8000 in
theorem st273_12 (kz : am_Z) (d : Nat) (x0 x2 x4 x6 x8 x10 : Int) (U : Nat → Nat → Int) (R : Option am_V × am_M) (h : ((((am_lcmp x10 0) ≤ 0 : Prop)) → R = (some (.inr (.inl x6)), (am_sh, am_mm U))) ∧ (¬ ((am_lcmp x10 0) ≤ 0) → (((¬ (am_lcmp (am_land x10 1) 1) = 0 : Prop)) → x4 ≠ 0 ∧ Ev kz (d, 273, 12, [some (.inr (.inl x0)), none, some (.inr (.inl x2)), none, some (.inr (.inl x4)), none, some (.inr (.inl x6)), none, some (.inr (.inl (Int.tmod (w64 (x8 * x8)) x4))), none, some (.inr (.inl (am_lshr x10 1))), none], [], (am_sh, am_mm U)) R) ∧ (¬ (¬ (am_lcmp (am_land x10 1) 1) = 0) → x4 ≠ 0 ∧ x4 ≠ 0 ∧ Ev kz (d, 273, 12, [some (.inr (.inl x0)), none, some (.inr (.inl x2)), none, some (.inr (.inl x4)), none, some (.inr (.inl (Int.tmod (w64 (x6 * x8)) x4))), none, some (.inr (.inl (Int.tmod (w64 (x8 * x8)) x4))), none, some (.inr (.inl (am_lshr x10 1))), none], [], (am_sh, am_mm U)) R))) : Ev kz (d, 273, 12, [some (.inr (.inl x0)), none, some (.inr (.inl x2)), none, some (.inr (.inl x4)), none, some (.inr (.inl x6)), none, some (.inr (.inl x8)), none, some (.inr (.inl x10)), none], [], (am_sh, am_mm U)) R := by
  refine ev_br (P := (am_lcmp x10 0) ≤ 0) (σ1 := (d, 273, 57, [some (.inr (.inl x0)), none, some (.inr (.inl x2)), none, some (.inr (.inl x4)), none, some (.inr (.inl x6)), none, some (.inr (.inl x8)), none, some (.inr (.inl x10)), none], [], (am_sh, am_mm U))) (σ2 := (d, 273, 19, [some (.inr (.inl x0)), none, some (.inr (.inl x2)), none, some (.inr (.inl x4)), none, some (.inr (.inl x6)), none, some (.inr (.inl x8)), none, some (.inr (.inl x10)), none], [], (am_sh, am_mm U))) 4 (fun _ => rfl) (fun hc => ?_) (fun hc => ?_)
  · have h1 := h.1 hc
    subst h1
    exact ev_end 2 (fun _ => rfl)
  · have h2 := h.2 hc
    refine ev_br (P := ¬ (am_lcmp (am_land x10 1) 1) = 0) (σ1 := (d, 273, 38, [some (.inr (.inl x0)), none, some (.inr (.inl x2)), none, some (.inr (.inl x4)), none, some (.inr (.inl x6)), none, some (.inr (.inl x8)), none, some (.inr (.inl x10)), none], [], (am_sh, am_mm U))) (σ2 := (d, 273, 28, [some (.inr (.inl x0)), none, some (.inr (.inl x2)), none, some (.inr (.inl x4)), none, some (.inr (.inl x6)), none, some (.inr (.inl x8)), none, some (.inr (.inl x10)), none], [], (am_sh, am_mm U))) 6 (fun _ => rfl) (fun hc => ?_) (fun hc => ?_)
    · have h21 := h2.1 hc
      refine ev_seg (σ1 := (d, 273, 45, [some (.inr (.inl x0)), none, some (.inr (.inl x2)), none, some (.inr (.inl x4)), none, some (.inr (.inl x6)), none, some (.inr (.inl x8)), none, some (.inr (.inl x10)), none], [.inr (.inl x4), .inr (.inl (w64 (x8 * x8)))], (am_sh, am_mm U))) 4 (fun _ => rfl) ?_
      refine ev_lrem rfl h21.1 ?_
      have h21a := h21.2
      refine ev_seg (σ1 := (d, 273, 12, [some (.inr (.inl x0)), none, some (.inr (.inl x2)), none, some (.inr (.inl x4)), none, some (.inr (.inl x6)), none, some (.inr (.inl (Int.tmod (w64 (x8 * x8)) x4))), none, some (.inr (.inl (am_lshr x10 1))), none], [], (am_sh, am_mm U))) 6 (fun _ => rfl) ?_
      exact h21a
    · have h22 := h2.2 hc
      refine ev_seg (σ1 := (d, 273, 35, [some (.inr (.inl x0)), none, some (.inr (.inl x2)), none, some (.inr (.inl x4)), none, some (.inr (.inl x6)), none, some (.inr (.inl x8)), none, some (.inr (.inl x10)), none], [.inr (.inl x4), .inr (.inl (w64 (x6 * x8)))], (am_sh, am_mm U))) 4 (fun _ => rfl) ?_
      refine ev_lrem rfl h22.1 ?_
      have h22a := h22.2
      refine ev_seg (σ1 := (d, 273, 45, [some (.inr (.inl x0)), none, some (.inr (.inl x2)), none, some (.inr (.inl x4)), none, some (.inr (.inl (Int.tmod (w64 (x6 * x8)) x4))), none, some (.inr (.inl x8)), none, some (.inr (.inl x10)), none], [.inr (.inl x4), .inr (.inl (w64 (x8 * x8)))], (am_sh, am_mm U))) 5 (fun _ => rfl) ?_
      refine ev_lrem rfl h22a.1 ?_
      have h22aa := h22a.2
      refine ev_seg (σ1 := (d, 273, 12, [some (.inr (.inl x0)), none, some (.inr (.inl x2)), none, some (.inr (.inl x4)), none, some (.inr (.inl (Int.tmod (w64 (x6 * x8)) x4))), none, some (.inr (.inl (Int.tmod (w64 (x8 * x8)) x4))), none, some (.inr (.inl (am_lshr x10 1))), none], [], (am_sh, am_mm U))) 6 (fun _ => rfl) ?_
      exact h22aa
set_option maxRecDepth 8000 in
theorem st330_2_0 (kz : am_Z) (d : Nat) (x1 x2 x3 : Int) (U : Nat → Nat → Int) (R : Option am_V × am_M) (h : Ev kz ((d + 1), 330, 9, [some (.inr (.inr 2)), some (.inl x1), some (.inl x2), some (.inl x3), some (.inl (w32 (6 * x3))), some (.inl 0), none], [], (am_sh, am_mm U)) R) : Ev kz ((d + 1), 330, 0, [some (.inr (.inr 2)), some (.inl x1), some (.inl x2), some (.inl x3), none, none, none], [], (am_sh, am_mm U)) R := by
  refine ev_seg (σ1 := ((d + 1), 330, 9, [some (.inr (.inr 2)), some (.inl x1), some (.inl x2), some (.inl x3), some (.inl (w32 (6 * x3))), some (.inl 0), none], [], (am_sh, am_mm U))) 6 (fun _ => rfl) ?_
  exact h
set_option maxRecDepth 8000 in
theorem st330_2_9 (kz : am_Z) (d : Nat) (x1 x2 x3 x4 x5 : Int) (U : Nat → Nat → Int) (R : Option am_V × am_M) (h : (((6 ≤ x5 : Prop)) → R = (some (.inl 1), (am_sh, am_mm U))) ∧ (¬ (6 ≤ x5) → (((x2 ≤ (w32 (x1 + x5)) : Prop)) → ∃ (r1 : Int) (U1 : Nat → Nat → Int), Ev kz (d, 332, 0, [some (.inr (.inr (-3)))], [], (am_sh, am_mm U)) (some (.inl r1), (am_sh, am_mm U1)) ∧ (((r1 ≤ (w32 (x4 + x5)) : Prop)) → R = (some (.inl 0), (am_sh, am_mm U1))) ∧ (¬ (r1 ≤ (w32 (x4 + x5))) → ∃ (r2 : Int) (U2 : Nat → Nat → Int), Ev kz (d, 338, 0, [some (.inr (.inr (-3))), some (.inl (w32 (x4 + x5)))], [], (am_sh, am_mm U1)) (some (.inl r2), (am_sh, am_mm U2)) ∧ (((r2 = 32 : Prop)) → Ev kz ((d + 1), 330, 9, [some (.inr (.inr 2)), some (.inl x1), some (.inl x2), some (.inl x3), some (.inl x4), some (.inl (w32 (x5 + 1))), some (.inl 32)], [], (am_sh, am_mm U2)) R) ∧ (¬ (r2 = 32) → R = (some (.inl 0), (am_sh, am_mm U2))))) ∧ (¬ (x2 ≤ (w32 (x1 + x5))) → (0 ≤ (w32 (x1 + x5)) ∧ (w32 (x1 + x5)) < 1600) ∧ ∃ (r3 : Int) (U3 : Nat → Nat → Int), Ev kz (d, 332, 0, [some (.inr (.inr (-3)))], [], (am_sh, am_mm U)) (some (.inl r3), (am_sh, am_mm U3)) ∧ (((r3 ≤ (w32 (x4 + x5)) : Prop)) → R = (some (.inl 0), (am_sh, am_mm U3))) ∧ (¬ (r3 ≤ (w32 (x4 + x5))) → ∃ (r4 : Int) (U4 : Nat → Nat → Int), Ev kz (d, 338, 0, [some (.inr (.inr (-3))), some (.inl (w32 (x4 + x5)))], [], (am_sh, am_mm U3)) (some (.inl r4), (am_sh, am_mm U4)) ∧ (((r4 = (U 2 (w32 (x1 + x5)).toNat) : Prop)) → Ev kz ((d + 1), 330, 9, [some (.inr (.inr 2)), some (.inl x1), some (.inl x2), some (.inl x3), some (.inl x4), some (.inl (w32 (x5 + 1))), some (.inl (U 2 (w32 (x1 + x5)).toNat))], [], (am_sh, am_mm U4)) R) ∧ (¬ (r4 = (U 2 (w32 (x1 + x5)).toNat)) → R = (some (.inl 0), (am_sh, am_mm U4))))))) : Ev kz ((d + 1), 330, 9, [some (.inr (.inr 2)), some (.inl x1), some (.inl x2), some (.inl x3), some (.inl x4), some (.inl x5), none], [], (am_sh, am_mm U)) R := by
  refine ev_br (P := 6 ≤ x5) (σ1 := ((d + 1), 330, 73, [some (.inr (.inr 2)), some (.inl x1), some (.inl x2), some (.inl x3), some (.inl x4), some (.inl x5), none], [], (am_sh, am_mm U))) (σ2 := ((d + 1), 330, 16, [some (.inr (.inr 2)), some (.inl x1), some (.inl x2), some (.inl x3), some (.inl x4), some (.inl x5), none], [], (am_sh, am_mm U))) 3 (fun _ => rfl) (fun hc => ?_) (fun hc => ?_)
  · have h1 := h.1 hc
    subst h1
    exact ev_end 2 (fun _ => rfl)
  · have h2 := h.2 hc
    refine ev_br (P := x2 ≤ (w32 (x1 + x5))) (σ1 := ((d + 1), 330, 33, [some (.inr (.inr 2)), some (.inl x1), some (.inl x2), some (.inl x3), some (.inl x4), some (.inl x5), none], [], (am_sh, am_mm U))) (σ2 := ((d + 1), 330, 24, [some (.inr (.inr 2)), some (.inl x1), some (.inl x2), some (.inl x3), some (.inl x4), some (.inl x5), none], [], (am_sh, am_mm U))) 5 (fun _ => rfl) (fun hc => ?_) (fun hc => ?_)
    · have h21 := h2.1 hc
      refine ev_seg (σ1 := ((d + 1), 330, 44, [some (.inr (.inr 2)), some (.inl x1), some (.inl x2), some (.inl x3), some (.inl x4), some (.inl x5), some (.inl 32)], [.inr (.inr (-3)), .inl (w32 (x4 + x5))], (am_sh, am_mm U))) 6 (fun _ => rfl) ?_
      obtain ⟨r1, U1, h21c, h21a⟩ := h21
      refine ev_cal (σc := (d, 332, 0, [some (.inr (.inr (-3)))], [], (am_sh, am_mm U))) (fun _ => rfl) h21c ?_
      show Ev kz ((d + 1), 330, 47, [some (.inr (.inr 2)), some (.inl x1), some (.inl x2), some (.inl x3), some (.inl x4), some (.inl x5), some (.inl 32)], [.inl r1, .inl (w32 (x4 + x5))], (am_sh, am_mm U1)) R
      refine ev_br (P := r1 ≤ (w32 (x4 + x5))) (σ1 := ((d + 1), 330, 65, [some (.inr (.inr 2)), some (.inl x1), some (.inl x2), some (.inl x3), some (.inl x4), some (.inl x5), some (.inl 32)], [], (am_sh, am_mm U1))) (σ2 := ((d + 1), 330, 50, [some (.inr (.inr 2)), some (.inl x1), some (.inl x2), some (.inl x3), some (.inl x4), some (.inl x5), some (.inl 32)], [], (am_sh, am_mm U1))) 1 (fun _ => rfl) (fun hc => ?_) (fun hc => ?_)
      · have h21a1 := h21a.1 hc
        subst h21a1
        exact ev_end 2 (fun _ => rfl)
      · have h21a2 := h21a.2 hc
        refine ev_seg (σ1 := ((d + 1), 330, 57, [some (.inr (.inr 2)), some (.inl x1), some (.inl x2), some (.inl x3), some (.inl x4), some (.inl x5), some (.inl 32)], [.inl (w32 (x4 + x5)), .inr (.inr (-3))], (am_sh, am_mm U1))) 4 (fun _ => rfl) ?_
        obtain ⟨r2, U2, h21a2c, h21a2a⟩ := h21a2
        refine ev_cal (σc := (d, 338, 0, [some (.inr (.inr (-3))), some (.inl (w32 (x4 + x5)))], [], (am_sh, am_mm U1))) (fun _ => rfl) h21a2c ?_
        show Ev kz ((d + 1), 330, 60, [some (.inr (.inr 2)), some (.inl x1), some (.inl x2), some (.inl x3), some (.inl x4), some (.inl x5), some (.inl 32)], [.inl r2], (am_sh, am_mm U2)) R
        refine ev_br (P := r2 = 32) (σ1 := ((d + 1), 330, 67, [some (.inr (.inr 2)), some (.inl x1), some (.inl x2), some (.inl x3), some (.inl x4), some (.inl x5), some (.inl 32)], [], (am_sh, am_mm U2))) (σ2 := ((d + 1), 330, 65, [some (.inr (.inr 2)), some (.inl x1), some (.inl x2), some (.inl x3), some (.inl x4), some (.inl x5), some (.inl 32)], [], (am_sh, am_mm U2))) 2 (fun _ => rfl) (fun hc => ?_) (fun hc => ?_)
        · have h21a2a1 := h21a2a.1 hc
          refine ev_seg (σ1 := ((d + 1), 330, 9, [some (.inr (.inr 2)), some (.inl x1), some (.inl x2), some (.inl x3), some (.inl x4), some (.inl (w32 (x5 + 1))), some (.inl 32)], [], (am_sh, am_mm U2))) 2 (fun _ => rfl) ?_
          exact h21a2a1
        · have h21a2a2 := h21a2a.2 hc
          subst h21a2a2
          exact ev_end 2 (fun _ => rfl)
    · have h22 := h2.2 hc
      refine ev_seg (σ1 := ((d + 1), 330, 29, [some (.inr (.inr 2)), some (.inl x1), some (.inl x2), some (.inl x3), some (.inl x4), some (.inl x5), none], [.inl (w32 (x1 + x5)), .inr (.inr 2)], (am_sh, am_mm U))) 4 (fun _ => rfl) ?_
      refine eu_iald 2 (n := 1600) rfl (by decide) rfl (fun _ => rfl) h22.1 ?_
      have h22a := h22.2
      refine ev_seg (σ1 := ((d + 1), 330, 44, [some (.inr (.inr 2)), some (.inl x1), some (.inl x2), some (.inl x3), some (.inl x4), some (.inl x5), some (.inl (U 2 (w32 (x1 + x5)).toNat))], [.inr (.inr (-3)), .inl (w32 (x4 + x5))], (am_sh, am_mm U))) 6 (fun _ => rfl) ?_
      obtain ⟨r3, U3, h22ac, h22aa⟩ := h22a
      refine ev_cal (σc := (d, 332, 0, [some (.inr (.inr (-3)))], [], (am_sh, am_mm U))) (fun _ => rfl) h22ac ?_
      show Ev kz ((d + 1), 330, 47, [some (.inr (.inr 2)), some (.inl x1), some (.inl x2), some (.inl x3), some (.inl x4), some (.inl x5), some (.inl (U 2 (w32 (x1 + x5)).toNat))], [.inl r3, .inl (w32 (x4 + x5))], (am_sh, am_mm U3)) R
      refine ev_br (P := r3 ≤ (w32 (x4 + x5))) (σ1 := ((d + 1), 330, 65, [some (.inr (.inr 2)), some (.inl x1), some (.inl x2), some (.inl x3), some (.inl x4), some (.inl x5), some (.inl (U 2 (w32 (x1 + x5)).toNat))], [], (am_sh, am_mm U3))) (σ2 := ((d + 1), 330, 50, [some (.inr (.inr 2)), some (.inl x1), some (.inl x2), some (.inl x3), some (.inl x4), some (.inl x5), some (.inl (U 2 (w32 (x1 + x5)).toNat))], [], (am_sh, am_mm U3))) 1 (fun _ => rfl) (fun hc => ?_) (fun hc => ?_)
      · have h22aa1 := h22aa.1 hc
        subst h22aa1
        exact ev_end 2 (fun _ => rfl)
      · have h22aa2 := h22aa.2 hc
        refine ev_seg (σ1 := ((d + 1), 330, 57, [some (.inr (.inr 2)), some (.inl x1), some (.inl x2), some (.inl x3), some (.inl x4), some (.inl x5), some (.inl (U 2 (w32 (x1 + x5)).toNat))], [.inl (w32 (x4 + x5)), .inr (.inr (-3))], (am_sh, am_mm U3))) 4 (fun _ => rfl) ?_
        obtain ⟨r4, U4, h22aa2c, h22aa2a⟩ := h22aa2
        refine ev_cal (σc := (d, 338, 0, [some (.inr (.inr (-3))), some (.inl (w32 (x4 + x5)))], [], (am_sh, am_mm U3))) (fun _ => rfl) h22aa2c ?_
        show Ev kz ((d + 1), 330, 60, [some (.inr (.inr 2)), some (.inl x1), some (.inl x2), some (.inl x3), some (.inl x4), some (.inl x5), some (.inl (U 2 (w32 (x1 + x5)).toNat))], [.inl r4], (am_sh, am_mm U4)) R
        refine ev_br (P := r4 = (U 2 (w32 (x1 + x5)).toNat)) (σ1 := ((d + 1), 330, 67, [some (.inr (.inr 2)), some (.inl x1), some (.inl x2), some (.inl x3), some (.inl x4), some (.inl x5), some (.inl (U 2 (w32 (x1 + x5)).toNat))], [], (am_sh, am_mm U4))) (σ2 := ((d + 1), 330, 65, [some (.inr (.inr 2)), some (.inl x1), some (.inl x2), some (.inl x3), some (.inl x4), some (.inl x5), some (.inl (U 2 (w32 (x1 + x5)).toNat))], [], (am_sh, am_mm U4))) 2 (fun _ => rfl) (fun hc => ?_) (fun hc => ?_)
        · have h22aa2a1 := h22aa2a.1 hc
          refine ev_seg (σ1 := ((d + 1), 330, 9, [some (.inr (.inr 2)), some (.inl x1), some (.inl x2), some (.inl x3), some (.inl x4), some (.inl (w32 (x5 + 1))), some (.inl (U 2 (w32 (x1 + x5)).toNat))], [], (am_sh, am_mm U4))) 2 (fun _ => rfl) ?_
          exact h22aa2a1
        · have h22aa2a2 := h22aa2a.2 hc
          subst h22aa2a2
          exact ev_end 2 (fun _ => rfl)
set_option maxRecDepth 8000 in
theorem st337_0 (kz : am_Z) (d : Nat) (x0 : Int) (U : Nat → Nat → Int) (R : Option am_V × am_M) (h : (((¬ x0 = 21 : Prop)) → (((¬ x0 = 20 : Prop)) → (((¬ x0 = 22 : Prop)) → (((x0 = 17 : Prop)) → R = (some (.inl 4), (am_sh, am_mm U))) ∧ (¬ (x0 = 17) → (((x0 = 18 : Prop)) → R = (some (.inl 4), (am_sh, am_mm U))) ∧ (¬ (x0 = 18) → (((x0 = 19 : Prop)) → R = (some (.inl 4), (am_sh, am_mm U))) ∧ (¬ (x0 = 19) → (((x0 = 24 : Prop)) → R = (some (.inl 4), (am_sh, am_mm U))) ∧ (¬ (x0 = 24) → (((¬ x0 = 25 : Prop)) → (((x0 = 10 : Prop)) → R = (some (.inl 5), (am_sh, am_mm U))) ∧ (¬ (x0 = 10) → (((¬ x0 = 11 : Prop)) → R = (some (.inl 6), (am_sh, am_mm U))) ∧ (¬ (¬ x0 = 11) → R = (some (.inl 5), (am_sh, am_mm U))))) ∧ (¬ (¬ x0 = 25) → R = (some (.inl 4), (am_sh, am_mm U)))))))) ∧ (¬ (¬ x0 = 22) → R = (some (.inl 3), (am_sh, am_mm U)))) ∧ (¬ (¬ x0 = 20) → R = (some (.inl 2), (am_sh, am_mm U)))) ∧ (¬ (¬ x0 = 21) → R = (some (.inl 1), (am_sh, am_mm U)))) : Ev kz (d, 337, 0, [some (.inl x0)], [], (am_sh, am_mm U)) R := by
  refine ev_br (P := ¬ x0 = 21) (σ1 := (d, 337, 10, [some (.inl x0)], [], (am_sh, am_mm U))) (σ2 := (d, 337, 6, [some (.inl x0)], [], (am_sh, am_mm U))) 3 (fun _ => rfl) (fun hc => ?_) (fun hc => ?_)
  · have h1 := h.1 hc
    refine ev_br (P := ¬ x0 = 20) (σ1 := (d, 337, 20, [some (.inl x0)], [], (am_sh, am_mm U))) (σ2 := (d, 337, 16, [some (.inl x0)], [], (am_sh, am_mm U))) 3 (fun _ => rfl) (fun hc => ?_) (fun hc => ?_)
    · have h11 := h1.1 hc
      refine ev_br (P := ¬ x0 = 22) (σ1 := (d, 337, 30, [some (.inl x0)], [], (am_sh, am_mm U))) (σ2 := (d, 337, 26, [some (.inl x0)], [], (am_sh, am_mm U))) 3 (fun _ => rfl) (fun hc => ?_) (fun hc => ?_)
      · have h111 := h11.1 hc
        refine ev_br (P := x0 = 17) (σ1 := (d, 337, 60, [some (.inl x0)], [], (am_sh, am_mm U))) (σ2 := (d, 337, 36, [some (.inl x0)], [], (am_sh, am_mm U))) 3 (fun _ => rfl) (fun hc => ?_) (fun hc => ?_)
        · have h1111 := h111.1 hc
          subst h1111
          exact ev_end 3 (fun _ => rfl)
        · have h1112 := h111.2 hc
          refine ev_br (P := x0 = 18) (σ1 := (d, 337, 60, [some (.inl x0)], [], (am_sh, am_mm U))) (σ2 := (d, 337, 42, [some (.inl x0)], [], (am_sh, am_mm U))) 3 (fun _ => rfl) (fun hc => ?_) (fun hc => ?_)
          · have h11121 := h1112.1 hc
            subst h11121
            exact ev_end 3 (fun _ => rfl)
          · have h11122 := h1112.2 hc
            refine ev_br (P := x0 = 19) (σ1 := (d, 337, 60, [some (.inl x0)], [], (am_sh, am_mm U))) (σ2 := (d, 337, 48, [some (.inl x0)], [], (am_sh, am_mm U))) 3 (fun _ => rfl) (fun hc => ?_) (fun hc => ?_)
            · have h111221 := h11122.1 hc
              subst h111221
              exact ev_end 3 (fun _ => rfl)
            · have h111222 := h11122.2 hc
              refine ev_br (P := x0 = 24) (σ1 := (d, 337, 60, [some (.inl x0)], [], (am_sh, am_mm U))) (σ2 := (d, 337, 54, [some (.inl x0)], [], (am_sh, am_mm U))) 3 (fun _ => rfl) (fun hc => ?_) (fun hc => ?_)
              · have h1112221 := h111222.1 hc
                subst h1112221
                exact ev_end 3 (fun _ => rfl)
              · have h1112222 := h111222.2 hc
                refine ev_br (P := ¬ x0 = 25) (σ1 := (d, 337, 64, [some (.inl x0)], [], (am_sh, am_mm U))) (σ2 := (d, 337, 60, [some (.inl x0)], [], (am_sh, am_mm U))) 3 (fun _ => rfl) (fun hc => ?_) (fun hc => ?_)
                · have h11122221 := h1112222.1 hc
                  refine ev_br (P := x0 = 10) (σ1 := (d, 337, 76, [some (.inl x0)], [], (am_sh, am_mm U))) (σ2 := (d, 337, 70, [some (.inl x0)], [], (am_sh, am_mm U))) 3 (fun _ => rfl) (fun hc => ?_) (fun hc => ?_)
                  · have h111222211 := h11122221.1 hc
                    subst h111222211
                    exact ev_end 3 (fun _ => rfl)
                  · have h111222212 := h11122221.2 hc
                    refine ev_br (P := ¬ x0 = 11) (σ1 := (d, 337, 80, [some (.inl x0)], [], (am_sh, am_mm U))) (σ2 := (d, 337, 76, [some (.inl x0)], [], (am_sh, am_mm U))) 3 (fun _ => rfl) (fun hc => ?_) (fun hc => ?_)
                    · have h1112222121 := h111222212.1 hc
                      subst h1112222121
                      exact ev_end 2 (fun _ => rfl)
                    · have h1112222122 := h111222212.2 hc
                      subst h1112222122
                      exact ev_end 3 (fun _ => rfl)
                · have h11122222 := h1112222.2 hc
                  subst h11122222
                  exact ev_end 3 (fun _ => rfl)
      · have h112 := h11.2 hc
        subst h112
        exact ev_end 3 (fun _ => rfl)
    · have h12 := h1.2 hc
      subst h12
      exact ev_end 3 (fun _ => rfl)
  · have h2 := h.2 hc
    subst h2
    exact ev_end 3 (fun _ => rfl)
set_option maxRecDepth 8000 in
theorem st332_m3_0 (kz : am_Z) (d : Nat) (U : Nat → Nat → Int) (R : Option am_V × am_M) (h : ∃ (r1 : Int) (U1 : Nat → Nat → Int), Ev kz (d, 339, 0, [some (.inr (.inr (-3)))], [], (am_sh, am_mm U)) (some (.inl r1), (am_sh, am_mm U1)) ∧ R = (some (.inl (am_shr 156 r1)), (am_sh, am_mm U1))) : Ev kz ((d + 1), 332, 0, [some (.inr (.inr (-3)))], [], (am_sh, am_mm U)) R := by
  refine ev_seg (σ1 := ((d + 1), 332, 6, [some (.inr (.inr (-3)))], [.inr (.inr (-3)), .inl 156], (am_sh, am_mm U))) 4 (fun _ => rfl) ?_
  obtain ⟨r1, U1, hc, ha⟩ := h
  refine ev_cal (σc := (d, 339, 0, [some (.inr (.inr (-3)))], [], (am_sh, am_mm U))) (fun _ => rfl) hc ?_
  show Ev kz ((d + 1), 332, 9, [some (.inr (.inr (-3)))], [.inl r1, .inl 156], (am_sh, am_mm U1)) R
  subst ha
  exact ev_end 2 (fun _ => rfl)
set_option maxRecDepth 8000 in
theorem st339_m3_0 (kz : am_Z) (d : Nat) (U : Nat → Nat → Int) (R : Option am_V × am_M) (h : (((1 = 0 : Prop)) → R = (some (.inl 1), (am_sh, am_mm U))) ∧ (¬ (1 = 0) → R = (some (.inl 0), (am_sh, am_mm U)))) : Ev kz (d, 339, 0, [some (.inr (.inr (-3)))], [], (am_sh, am_mm U)) R := by
  refine ev_br (P := 1 = 0) (σ1 := (d, 339, 13, [some (.inr (.inr (-3)))], [], (am_sh, am_mm U))) (σ2 := (d, 339, 6, [some (.inr (.inr (-3)))], [], (am_sh, am_mm U))) 2 (fun _ => rfl) (fun hc => ?_) (fun hc => ?_)
  · have h1 := h.1 hc
    subst h1
    exact ev_end 2 (fun _ => rfl)
  · have h2 := h.2 hc
    subst h2
    exact ev_end 4 (fun _ => rfl)
