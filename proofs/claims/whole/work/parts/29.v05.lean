theorem st195_86_0 (kz : am_Z) (d : Nat) (U : Nat → Nat → Int) (R : Option am_V × am_M) (h : ∃ (r1 : Int) (U1 : Nat → Nat → Int), Ev kz (d, 264, 0, [some (.inr (.inr 86)), some (.inl 0)], [], (am_sh, am_mm U)) (some (.inl r1), (am_sh, am_mm U1)) ∧ (((¬ r1 = 0 : Prop)) → ∃ (r2 : Int) (U2 : Nat → Nat → Int), Ev kz (d, 268, 0, [some (.inr (.inr 86)), some (.inl 0), some (.inl 100), none], [], (am_sh, am_mm U1)) (some (.inl r2), (am_sh, am_mm U2)) ∧ (((¬ (U2 86 8) = 0 : Prop)) → R = (none, (am_sh, am_mm U2))) ∧ (¬ (¬ (U2 86 8) = 0) → (0 ≤ (U2 86 40) ∧ (U2 86 40) < 2) ∧ R = (none, (am_sh, am_mm (am_upd U2 110 (U2 86 40).toNat r2))))) ∧ (¬ (¬ r1 = 0) → R = (none, (am_sh, am_mm U1)))) : Ev kz ((d + 1), 195, 0, [some (.inr (.inr 86)), none], [], (am_sh, am_mm U)) R := by
  refine ev_seg (σ1 := ((d + 1), 195, 2, [some (.inr (.inr 86)), none], [.inl 0, .inr (.inr 86)], (am_sh, am_mm U))) 2 (fun _ => rfl) ?_
  obtain ⟨r1, U1, hc, ha⟩ := h
  refine ev_cal (σc := (d, 264, 0, [some (.inr (.inr 86)), some (.inl 0)], [], (am_sh, am_mm U))) (fun _ => rfl) hc ?_
  show Ev kz ((d + 1), 195, 5, [some (.inr (.inr 86)), none], [.inl r1], (am_sh, am_mm U1)) R
  refine ev_br (P := ¬ r1 = 0) (σ1 := ((d + 1), 195, 9, [some (.inr (.inr 86)), none], [], (am_sh, am_mm U1))) (σ2 := ((d + 1), 195, 8, [some (.inr (.inr 86)), none], [], (am_sh, am_mm U1))) 1 (fun _ => rfl) (fun hc => ?_) (fun hc => ?_)
  · have ha1 := ha.1 hc
    refine ev_seg (σ1 := ((d + 1), 195, 13, [some (.inr (.inr 86)), none], [.inl 100, .inl 0, .inr (.inr 86)], (am_sh, am_mm U1))) 3 (fun _ => rfl) ?_
    obtain ⟨r2, U2, ha1c, ha1a⟩ := ha1
    refine ev_cal (σc := (d, 268, 0, [some (.inr (.inr 86)), some (.inl 0), some (.inl 100), none], [], (am_sh, am_mm U1))) (fun _ => rfl) ha1c ?_
    show Ev kz ((d + 1), 195, 16, [some (.inr (.inr 86)), none], [.inl r2], (am_sh, am_mm U2)) R
    refine ev_br (P := ¬ (U2 86 8) = 0) (σ1 := ((d + 1), 195, 34, [some (.inr (.inr 86)), some (.inl r2)], [], (am_sh, am_mm U2))) (σ2 := ((d + 1), 195, 24, [some (.inr (.inr 86)), some (.inl r2)], [], (am_sh, am_mm U2))) 4 (fun _ => rfl) (fun hc => ?_) (fun hc => ?_)
    · have ha1a1 := ha1a.1 hc
      subst ha1a1
      exact ev_end 1 (fun _ => rfl)
    · have ha1a2 := ha1a.2 hc
      refine ev_seg (σ1 := ((d + 1), 195, 33, [some (.inr (.inr 86)), some (.inl r2)], [.inl r2, .inl (U2 86 40), .inr (.inr 110)], (am_sh, am_mm U2))) 5 (fun _ => rfl) ?_
      refine eu_iast 110 (n := 2) rfl (by decide) rfl (fun _ => rfl) ha1a2.1 ?_
      have ha1a2a := ha1a2.2
      subst ha1a2a
      exact ev_end 1 (fun _ => rfl)
  · have ha2 := ha.2 hc
    subst ha2
    exact ev_end 1 (fun _ => rfl)
theorem st193_86_0 (kz : am_Z) (d : Nat) (U : Nat → Nat → Int) (R : Option am_V × am_M) (h : (0 ≤ (U 86 40) ∧ (U 86 40) < 2) ∧ ((((U 104 (U 86 40).toNat) = (-1) : Prop)) → ∃ (r1 : Int) (U1 : Nat → Nat → Int), Ev kz (d, 264, 0, [some (.inr (.inr 86)), some (.inl 0)], [], (am_sh, am_mm U)) (some (.inl r1), (am_sh, am_mm U1)) ∧ (((¬ r1 = 0 : Prop)) → (0 ≤ (U1 86 40) ∧ (U1 86 40) < 2) ∧ ∃ U2 : Nat → Nat → Int, Ev kz (d, 271, 0, [some (.inr (.inr 86)), some (.inl 1), none], [], (am_sh, am_mm (am_upd U1 104 (U1 86 40).toNat (U1 86 39)))) (none, (am_sh, am_mm U2)) ∧ (0 ≤ (U2 86 40) ∧ (U2 86 40) < 2) ∧ R = (none, (am_sh, am_mm (am_upd U2 105 (U2 86 40).toNat (U2 86 39))))) ∧ (¬ (¬ r1 = 0) → R = (none, (am_sh, am_mm U1)))) ∧ (¬ ((U 104 (U 86 40).toNat) = (-1)) → ∃ (r3 : Int) (U3 : Nat → Nat → Int), Ev kz (d, 264, 0, [some (.inr (.inr 86)), some (.inl 1)], [], (am_sh, am_mm U)) (some (.inl r3), (am_sh, am_mm U3)) ∧ (((¬ r3 = 0 : Prop)) → (0 ≤ (U3 86 40) ∧ (U3 86 40) < 2) ∧ ∃ U4 : Nat → Nat → Int, Ev kz (d, 271, 0, [some (.inr (.inr 86)), some (.inl 1), none], [], (am_sh, am_mm (am_upd U3 104 (U3 86 40).toNat (U3 86 39)))) (none, (am_sh, am_mm U4)) ∧ (0 ≤ (U4 86 40) ∧ (U4 86 40) < 2) ∧ R = (none, (am_sh, am_mm (am_upd U4 105 (U4 86 40).toNat (U4 86 39))))) ∧ (¬ (¬ r3 = 0) → R = (none, (am_sh, am_mm U3))))) : Ev kz ((d + 1), 193, 0, [some (.inr (.inr 86))], [], (am_sh, am_mm U)) R := by
  refine ev_seg (σ1 := ((d + 1), 193, 9, [some (.inr (.inr 86))], [.inl (U 86 40), .inr (.inr 104), .inr (.inr 86)], (am_sh, am_mm U))) 5 (fun _ => rfl) ?_
  refine eu_iald 104 (n := 2) rfl (by decide) rfl (fun _ => rfl) h.1 ?_
  have ha := h.2
  refine ev_br (P := (U 104 (U 86 40).toNat) = (-1)) (σ1 := ((d + 1), 193, 18, [some (.inr (.inr 86))], [.inr (.inr 86)], (am_sh, am_mm U))) (σ2 := ((d + 1), 193, 14, [some (.inr (.inr 86))], [.inr (.inr 86)], (am_sh, am_mm U))) 2 (fun _ => rfl) (fun hc => ?_) (fun hc => ?_)
  · have ha1 := ha.1 hc
    refine ev_seg (σ1 := ((d + 1), 193, 19, [some (.inr (.inr 86))], [.inl 0, .inr (.inr 86)], (am_sh, am_mm U))) 1 (fun _ => rfl) ?_
    obtain ⟨r1, U1, ha1c, ha1a⟩ := ha1
    refine ev_cal (σc := (d, 264, 0, [some (.inr (.inr 86)), some (.inl 0)], [], (am_sh, am_mm U))) (fun _ => rfl) ha1c ?_
    show Ev kz ((d + 1), 193, 22, [some (.inr (.inr 86))], [.inl r1], (am_sh, am_mm U1)) R
    refine ev_br (P := ¬ r1 = 0) (σ1 := ((d + 1), 193, 26, [some (.inr (.inr 86))], [], (am_sh, am_mm U1))) (σ2 := ((d + 1), 193, 25, [some (.inr (.inr 86))], [], (am_sh, am_mm U1))) 1 (fun _ => rfl) (fun hc => ?_) (fun hc => ?_)
    · have ha1a1 := ha1a.1 hc
      refine ev_seg (σ1 := ((d + 1), 193, 38, [some (.inr (.inr 86))], [.inl (U1 86 39), .inl (U1 86 40), .inr (.inr 104)], (am_sh, am_mm U1))) 6 (fun _ => rfl) ?_
      refine eu_iast 104 (n := 2) rfl (by decide) rfl (fun _ => rfl) ha1a1.1 ?_
      have ha1a1a := ha1a1.2
      refine ev_seg (σ1 := ((d + 1), 193, 41, [some (.inr (.inr 86))], [.inl 1, .inr (.inr 86)], (am_sh, am_mm (am_upd U1 104 (U1 86 40).toNat (U1 86 39))))) 2 (fun _ => rfl) ?_
      obtain ⟨U2, ha1a1ac, ha1a1aa⟩ := ha1a1a
      refine ev_cal (σc := (d, 271, 0, [some (.inr (.inr 86)), some (.inl 1), none], [], (am_sh, am_mm (am_upd U1 104 (U1 86 40).toNat (U1 86 39))))) (fun _ => rfl) ha1a1ac ?_
      show Ev kz ((d + 1), 193, 44, [some (.inr (.inr 86))], [], (am_sh, am_mm U2)) R
      refine ev_seg (σ1 := ((d + 1), 193, 56, [some (.inr (.inr 86))], [.inl (U2 86 39), .inl (U2 86 40), .inr (.inr 105)], (am_sh, am_mm U2))) 6 (fun _ => rfl) ?_
      refine eu_iast 105 (n := 2) rfl (by decide) rfl (fun _ => rfl) ha1a1aa.1 ?_
      have ha1a1aaa := ha1a1aa.2
      subst ha1a1aaa
      exact ev_end 1 (fun _ => rfl)
    · have ha1a2 := ha1a.2 hc
      subst ha1a2
      exact ev_end 1 (fun _ => rfl)
  · have ha2 := ha.2 hc
    refine ev_seg (σ1 := ((d + 1), 193, 19, [some (.inr (.inr 86))], [.inl 1, .inr (.inr 86)], (am_sh, am_mm U))) 2 (fun _ => rfl) ?_
    obtain ⟨r3, U3, ha2c, ha2a⟩ := ha2
    refine ev_cal (σc := (d, 264, 0, [some (.inr (.inr 86)), some (.inl 1)], [], (am_sh, am_mm U))) (fun _ => rfl) ha2c ?_
    show Ev kz ((d + 1), 193, 22, [some (.inr (.inr 86))], [.inl r3], (am_sh, am_mm U3)) R
    refine ev_br (P := ¬ r3 = 0) (σ1 := ((d + 1), 193, 26, [some (.inr (.inr 86))], [], (am_sh, am_mm U3))) (σ2 := ((d + 1), 193, 25, [some (.inr (.inr 86))], [], (am_sh, am_mm U3))) 1 (fun _ => rfl) (fun hc => ?_) (fun hc => ?_)
    · have ha2a1 := ha2a.1 hc
      refine ev_seg (σ1 := ((d + 1), 193, 38, [some (.inr (.inr 86))], [.inl (U3 86 39), .inl (U3 86 40), .inr (.inr 104)], (am_sh, am_mm U3))) 6 (fun _ => rfl) ?_
      refine eu_iast 104 (n := 2) rfl (by decide) rfl (fun _ => rfl) ha2a1.1 ?_
      have ha2a1a := ha2a1.2
      refine ev_seg (σ1 := ((d + 1), 193, 41, [some (.inr (.inr 86))], [.inl 1, .inr (.inr 86)], (am_sh, am_mm (am_upd U3 104 (U3 86 40).toNat (U3 86 39))))) 2 (fun _ => rfl) ?_
      obtain ⟨U4, ha2a1ac, ha2a1aa⟩ := ha2a1a
      refine ev_cal (σc := (d, 271, 0, [some (.inr (.inr 86)), some (.inl 1), none], [], (am_sh, am_mm (am_upd U3 104 (U3 86 40).toNat (U3 86 39))))) (fun _ => rfl) ha2a1ac ?_
      show Ev kz ((d + 1), 193, 44, [some (.inr (.inr 86))], [], (am_sh, am_mm U4)) R
      refine ev_seg (σ1 := ((d + 1), 193, 56, [some (.inr (.inr 86))], [.inl (U4 86 39), .inl (U4 86 40), .inr (.inr 105)], (am_sh, am_mm U4))) 6 (fun _ => rfl) ?_
      refine eu_iast 105 (n := 2) rfl (by decide) rfl (fun _ => rfl) ha2a1aa.1 ?_
      have ha2a1aaa := ha2a1aa.2
      subst ha2a1aaa
      exact ev_end 1 (fun _ => rfl)
    · have ha2a2 := ha2a.2 hc
      subst ha2a2
      exact ev_end 1 (fun _ => rfl)
theorem st187_86_0 (kz : am_Z) (d : Nat) (x1 : Int) (U : Nat → Nat → Int) (R : Option am_V × am_M) (h : (((¬ (U 86 3) = 1 : Prop)) → R = (some (.inl 0), (am_sh, am_mm U))) ∧ (¬ (¬ (U 86 3) = 1) → (((¬ (am_lcmp (U 86 7) x1) = 0 : Prop)) → R = (some (.inl 0), (am_sh, am_mm U))) ∧ (¬ (¬ (am_lcmp (U 86 7) x1) = 0) → R = (some (.inl 1), (am_sh, am_mm U))))) : Ev kz (d, 187, 0, [some (.inr (.inr 86)), some (.inr (.inl x1)), none], [], (am_sh, am_mm U)) R := by
  refine ev_br (P := ¬ (U 86 3) = 1) (σ1 := (d, 187, 21, [some (.inr (.inr 86)), some (.inr (.inl x1)), none], [], (am_sh, am_mm U))) (σ2 := (d, 187, 8, [some (.inr (.inr 86)), some (.inr (.inl x1)), none], [], (am_sh, am_mm U))) 4 (fun _ => rfl) (fun hc => ?_) (fun hc => ?_)
  · have h1 := h.1 hc
    subst h1
    exact ev_end 2 (fun _ => rfl)
  · have h2 := h.2 hc
    refine ev_br (P := ¬ (am_lcmp (U 86 7) x1) = 0) (σ1 := (d, 187, 21, [some (.inr (.inr 86)), some (.inr (.inl x1)), none], [], (am_sh, am_mm U))) (σ2 := (d, 187, 17, [some (.inr (.inr 86)), some (.inr (.inl x1)), none], [], (am_sh, am_mm U))) 5 (fun _ => rfl) (fun hc => ?_) (fun hc => ?_)
    · have h21 := h2.1 hc
      subst h21
      exact ev_end 2 (fun _ => rfl)
    · have h22 := h2.2 hc
      subst h22
      exact ev_end 3 (fun _ => rfl)
theorem st194_86_0 (kz : am_Z) (d : Nat) (U : Nat → Nat → Int) (R : Option am_V × am_M) (h : (0 ≤ (U 86 40) ∧ (U 86 40) < 2) ∧ (((¬ (U 106 (U 86 40).toNat) = 16 : Prop)) → ∃ (r1 : Int) (U1 : Nat → Nat → Int), Ev kz (d, 264, 0, [some (.inr (.inr 86)), some (.inl 0)], [], (am_sh, am_mm U)) (some (.inl r1), (am_sh, am_mm U1)) ∧ (((¬ r1 = 0 : Prop)) → (0 ≤ (U1 86 40) ∧ (U1 86 40) < 2) ∧ ∃ (r2 : Int) (U2 : Nat → Nat → Int), Ev kz (d, 267, 0, [some (.inr (.inr 86)), some (.inl 1), none], [], (am_sh, am_mm U1)) (some (.inl r2), (am_sh, am_mm U2)) ∧ (0 ≤ (w32 ((w32 (16 * (U1 86 40))) + (U1 106 (U1 86 40).toNat))) ∧ (w32 ((w32 (16 * (U1 86 40))) + (U1 106 (U1 86 40).toNat))) < 32) ∧ ∃ (r3 : Int) (U3 : Nat → Nat → Int), Ev kz (d, 269, 0, [some (.inr (.inr 86)), some (.inl 1), none], [], (am_sh, am_mm (am_upd U2 107 (w32 ((w32 (16 * (U1 86 40))) + (U1 106 (U1 86 40).toNat))).toNat r2))) (some (.inl r3), (am_sh, am_mm U3)) ∧ (0 ≤ (w32 ((w32 (16 * (U1 86 40))) + (U1 106 (U1 86 40).toNat))) ∧ (w32 ((w32 (16 * (U1 86 40))) + (U1 106 (U1 86 40).toNat))) < 32) ∧ (((¬ ((am_upd U3 108 (w32 ((w32 (16 * (U1 86 40))) + (U1 106 (U1 86 40).toNat))).toNat r3) 86 8) = 0 : Prop)) → (((((am_upd U3 108 (w32 ((w32 (16 * (U1 86 40))) + (U1 106 (U1 86 40).toNat))).toNat r3) 86 8) ≤ 0 : Prop)) → ∃ U4 : Nat → Nat → Int, Ev kz (d, 93, 0, [some (.inr (.inr 86)), none, none, none, none, none], [], (am_sh, am_mm (am_upd U3 108 (w32 ((w32 (16 * (U1 86 40))) + (U1 106 (U1 86 40).toNat))).toNat r3))) (none, (am_sh, am_mm U4)) ∧ ∃ (r5 : Int) (U5 : Nat → Nat → Int), Ev kz (d, 268, 0, [some (.inr (.inr 86)), some (.inl 1), some (.inl 9999), none], [], (am_sh, am_mm U4)) (some (.inl r5), (am_sh, am_mm U5)) ∧ (0 ≤ (w32 ((w32 (16 * (U1 86 40))) + (U1 106 (U1 86 40).toNat))) ∧ (w32 ((w32 (16 * (U1 86 40))) + (U1 106 (U1 86 40).toNat))) < 32) ∧ (((¬ ((am_upd U5 109 (w32 ((w32 (16 * (U1 86 40))) + (U1 106 (U1 86 40).toNat))).toNat r5) 86 8) = 0 : Prop)) → R = (none, (am_sh, am_mm (am_upd U5 109 (w32 ((w32 (16 * (U1 86 40))) + (U1 106 (U1 86 40).toNat))).toNat r5)))) ∧ (¬ (¬ ((am_upd U5 109 (w32 ((w32 (16 * (U1 86 40))) + (U1 106 (U1 86 40).toNat))).toNat r5) 86 8) = 0) → (0 ≤ ((am_upd U5 109 (w32 ((w32 (16 * (U1 86 40))) + (U1 106 (U1 86 40).toNat))).toNat r5) 86 40) ∧ ((am_upd U5 109 (w32 ((w32 (16 * (U1 86 40))) + (U1 106 (U1 86 40).toNat))).toNat r5) 86 40) < 2) ∧ (0 ≤ ((am_upd U5 109 (w32 ((w32 (16 * (U1 86 40))) + (U1 106 (U1 86 40).toNat))).toNat r5) 86 40) ∧ ((am_upd U5 109 (w32 ((w32 (16 * (U1 86 40))) + (U1 106 (U1 86 40).toNat))).toNat r5) 86 40) < 2) ∧ R = (none, (am_sh, am_mm (am_upd (am_upd U5 109 (w32 ((w32 (16 * (U1 86 40))) + (U1 106 (U1 86 40).toNat))).toNat r5) 106 ((am_upd U5 109 (w32 ((w32 (16 * (U1 86 40))) + (U1 106 (U1 86 40).toNat))).toNat r5) 86 40).toNat (w32 (((am_upd U5 109 (w32 ((w32 (16 * (U1 86 40))) + (U1 106 (U1 86 40).toNat))).toNat r5) 106 ((am_upd U5 109 (w32 ((w32 (16 * (U1 86 40))) + (U1 106 (U1 86 40).toNat))).toNat r5) 86 40).toNat) + 1))))))) ∧ (¬ (((am_upd U3 108 (w32 ((w32 (16 * (U1 86 40))) + (U1 106 (U1 86 40).toNat))).toNat r3) 86 8) ≤ 0) → R = (none, (am_sh, am_mm (am_upd U3 108 (w32 ((w32 (16 * (U1 86 40))) + (U1 106 (U1 86 40).toNat))).toNat r3))))) ∧ (¬ (¬ ((am_upd U3 108 (w32 ((w32 (16 * (U1 86 40))) + (U1 106 (U1 86 40).toNat))).toNat r3) 86 8) = 0) → (0 ≤ (w32 ((w32 (16 * (U1 86 40))) + (U1 106 (U1 86 40).toNat))) ∧ (w32 ((w32 (16 * (U1 86 40))) + (U1 106 (U1 86 40).toNat))) < 32) ∧ (0 ≤ (w32 ((w32 (16 * (U1 86 40))) + (U1 106 (U1 86 40).toNat))) ∧ (w32 ((w32 (16 * (U1 86 40))) + (U1 106 (U1 86 40).toNat))) < 32) ∧ (((¬ ((am_upd U3 108 (w32 ((w32 (16 * (U1 86 40))) + (U1 106 (U1 86 40).toNat))).toNat r3) 107 (w32 ((w32 (16 * (U1 86 40))) + (U1 106 (U1 86 40).toNat))).toNat) = ((am_upd U3 108 (w32 ((w32 (16 * (U1 86 40))) + (U1 106 (U1 86 40).toNat))).toNat r3) 108 (w32 ((w32 (16 * (U1 86 40))) + (U1 106 (U1 86 40).toNat))).toNat) : Prop)) → (((((am_upd U3 108 (w32 ((w32 (16 * (U1 86 40))) + (U1 106 (U1 86 40).toNat))).toNat r3) 86 8) ≤ 0 : Prop)) → ∃ U6 : Nat → Nat → Int, Ev kz (d, 93, 0, [some (.inr (.inr 86)), none, none, none, none, none], [], (am_sh, am_mm (am_upd U3 108 (w32 ((w32 (16 * (U1 86 40))) + (U1 106 (U1 86 40).toNat))).toNat r3))) (none, (am_sh, am_mm U6)) ∧ ∃ (r7 : Int) (U7 : Nat → Nat → Int), Ev kz (d, 268, 0, [some (.inr (.inr 86)), some (.inl 1), some (.inl 9999), none], [], (am_sh, am_mm U6)) (some (.inl r7), (am_sh, am_mm U7)) ∧ (0 ≤ (w32 ((w32 (16 * (U1 86 40))) + (U1 106 (U1 86 40).toNat))) ∧ (w32 ((w32 (16 * (U1 86 40))) + (U1 106 (U1 86 40).toNat))) < 32) ∧ (((¬ ((am_upd U7 109 (w32 ((w32 (16 * (U1 86 40))) + (U1 106 (U1 86 40).toNat))).toNat r7) 86 8) = 0 : Prop)) → R = (none, (am_sh, am_mm (am_upd U7 109 (w32 ((w32 (16 * (U1 86 40))) + (U1 106 (U1 86 40).toNat))).toNat r7)))) ∧ (¬ (¬ ((am_upd U7 109 (w32 ((w32 (16 * (U1 86 40))) + (U1 106 (U1 86 40).toNat))).toNat r7) 86 8) = 0) → (0 ≤ ((am_upd U7 109 (w32 ((w32 (16 * (U1 86 40))) + (U1 106 (U1 86 40).toNat))).toNat r7) 86 40) ∧ ((am_upd U7 109 (w32 ((w32 (16 * (U1 86 40))) + (U1 106 (U1 86 40).toNat))).toNat r7) 86 40) < 2) ∧ (0 ≤ ((am_upd U7 109 (w32 ((w32 (16 * (U1 86 40))) + (U1 106 (U1 86 40).toNat))).toNat r7) 86 40) ∧ ((am_upd U7 109 (w32 ((w32 (16 * (U1 86 40))) + (U1 106 (U1 86 40).toNat))).toNat r7) 86 40) < 2) ∧ R = (none, (am_sh, am_mm (am_upd (am_upd U7 109 (w32 ((w32 (16 * (U1 86 40))) + (U1 106 (U1 86 40).toNat))).toNat r7) 106 ((am_upd U7 109 (w32 ((w32 (16 * (U1 86 40))) + (U1 106 (U1 86 40).toNat))).toNat r7) 86 40).toNat (w32 (((am_upd U7 109 (w32 ((w32 (16 * (U1 86 40))) + (U1 106 (U1 86 40).toNat))).toNat r7) 106 ((am_upd U7 109 (w32 ((w32 (16 * (U1 86 40))) + (U1 106 (U1 86 40).toNat))).toNat r7) 86 40).toNat) + 1))))))) ∧ (¬ (((am_upd U3 108 (w32 ((w32 (16 * (U1 86 40))) + (U1 106 (U1 86 40).toNat))).toNat r3) 86 8) ≤ 0) → R = (none, (am_sh, am_mm (am_upd U3 108 (w32 ((w32 (16 * (U1 86 40))) + (U1 106 (U1 86 40).toNat))).toNat r3))))) ∧ (¬ (¬ ((am_upd U3 108 (w32 ((w32 (16 * (U1 86 40))) + (U1 106 (U1 86 40).toNat))).toNat r3) 107 (w32 ((w32 (16 * (U1 86 40))) + (U1 106 (U1 86 40).toNat))).toNat) = ((am_upd U3 108 (w32 ((w32 (16 * (U1 86 40))) + (U1 106 (U1 86 40).toNat))).toNat r3) 108 (w32 ((w32 (16 * (U1 86 40))) + (U1 106 (U1 86 40).toNat))).toNat)) → ∃ U8 : Nat → Nat → Int, Ev kz (d, 196, 0, [some (.inr (.inr 86)), some (.inl 3), some (.inl ((am_upd U3 108 (w32 ((w32 (16 * (U1 86 40))) + (U1 106 (U1 86 40).toNat))).toNat r3) 86 4))], [], (am_sh, am_mm (am_upd U3 108 (w32 ((w32 (16 * (U1 86 40))) + (U1 106 (U1 86 40).toNat))).toNat r3))) (none, (am_sh, am_mm U8)) ∧ ((((U8 86 8) ≤ 0 : Prop)) → ∃ U9 : Nat → Nat → Int, Ev kz (d, 93, 0, [some (.inr (.inr 86)), none, none, none, none, none], [], (am_sh, am_mm U8)) (none, (am_sh, am_mm U9)) ∧ ∃ (r10 : Int) (U10 : Nat → Nat → Int), Ev kz (d, 268, 0, [some (.inr (.inr 86)), some (.inl 1), some (.inl 9999), none], [], (am_sh, am_mm U9)) (some (.inl r10), (am_sh, am_mm U10)) ∧ (0 ≤ (w32 ((w32 (16 * (U1 86 40))) + (U1 106 (U1 86 40).toNat))) ∧ (w32 ((w32 (16 * (U1 86 40))) + (U1 106 (U1 86 40).toNat))) < 32) ∧ (((¬ ((am_upd U10 109 (w32 ((w32 (16 * (U1 86 40))) + (U1 106 (U1 86 40).toNat))).toNat r10) 86 8) = 0 : Prop)) → R = (none, (am_sh, am_mm (am_upd U10 109 (w32 ((w32 (16 * (U1 86 40))) + (U1 106 (U1 86 40).toNat))).toNat r10)))) ∧ (¬ (¬ ((am_upd U10 109 (w32 ((w32 (16 * (U1 86 40))) + (U1 106 (U1 86 40).toNat))).toNat r10) 86 8) = 0) → (0 ≤ ((am_upd U10 109 (w32 ((w32 (16 * (U1 86 40))) + (U1 106 (U1 86 40).toNat))).toNat r10) 86 40) ∧ ((am_upd U10 109 (w32 ((w32 (16 * (U1 86 40))) + (U1 106 (U1 86 40).toNat))).toNat r10) 86 40) < 2) ∧ (0 ≤ ((am_upd U10 109 (w32 ((w32 (16 * (U1 86 40))) + (U1 106 (U1 86 40).toNat))).toNat r10) 86 40) ∧ ((am_upd U10 109 (w32 ((w32 (16 * (U1 86 40))) + (U1 106 (U1 86 40).toNat))).toNat r10) 86 40) < 2) ∧ R = (none, (am_sh, am_mm (am_upd (am_upd U10 109 (w32 ((w32 (16 * (U1 86 40))) + (U1 106 (U1 86 40).toNat))).toNat r10) 106 ((am_upd U10 109 (w32 ((w32 (16 * (U1 86 40))) + (U1 106 (U1 86 40).toNat))).toNat r10) 86 40).toNat (w32 (((am_upd U10 109 (w32 ((w32 (16 * (U1 86 40))) + (U1 106 (U1 86 40).toNat))).toNat r10) 106 ((am_upd U10 109 (w32 ((w32 (16 * (U1 86 40))) + (U1 106 (U1 86 40).toNat))).toNat r10) 86 40).toNat) + 1))))))) ∧ (¬ ((U8 86 8) ≤ 0) → R = (none, (am_sh, am_mm U8)))))) ∧ (¬ (¬ r1 = 0) → R = (none, (am_sh, am_mm U1)))) ∧ (¬ (¬ (U 106 (U 86 40).toNat) = 16) → ∃ (r11 : Int) (U11 : Nat → Nat → Int), Ev kz (d, 264, 0, [some (.inr (.inr 86)), some (.inl 1)], [], (am_sh, am_mm U)) (some (.inl r11), (am_sh, am_mm U11)) ∧ (((¬ r11 = 0 : Prop)) → (0 ≤ (U11 86 40) ∧ (U11 86 40) < 2) ∧ ∃ (r12 : Int) (U12 : Nat → Nat → Int), Ev kz (d, 267, 0, [some (.inr (.inr 86)), some (.inl 1), none], [], (am_sh, am_mm U11)) (some (.inl r12), (am_sh, am_mm U12)) ∧ (0 ≤ (w32 ((w32 (16 * (U11 86 40))) + (U11 106 (U11 86 40).toNat))) ∧ (w32 ((w32 (16 * (U11 86 40))) + (U11 106 (U11 86 40).toNat))) < 32) ∧ ∃ (r13 : Int) (U13 : Nat → Nat → Int), Ev kz (d, 269, 0, [some (.inr (.inr 86)), some (.inl 1), none], [], (am_sh, am_mm (am_upd U12 107 (w32 ((w32 (16 * (U11 86 40))) + (U11 106 (U11 86 40).toNat))).toNat r12))) (some (.inl r13), (am_sh, am_mm U13)) ∧ (0 ≤ (w32 ((w32 (16 * (U11 86 40))) + (U11 106 (U11 86 40).toNat))) ∧ (w32 ((w32 (16 * (U11 86 40))) + (U11 106 (U11 86 40).toNat))) < 32) ∧ (((¬ ((am_upd U13 108 (w32 ((w32 (16 * (U11 86 40))) + (U11 106 (U11 86 40).toNat))).toNat r13) 86 8) = 0 : Prop)) → (((((am_upd U13 108 (w32 ((w32 (16 * (U11 86 40))) + (U11 106 (U11 86 40).toNat))).toNat r13) 86 8) ≤ 0 : Prop)) → ∃ U14 : Nat → Nat → Int, Ev kz (d, 93, 0, [some (.inr (.inr 86)), none, none, none, none, none], [], (am_sh, am_mm (am_upd U13 108 (w32 ((w32 (16 * (U11 86 40))) + (U11 106 (U11 86 40).toNat))).toNat r13))) (none, (am_sh, am_mm U14)) ∧ ∃ (r15 : Int) (U15 : Nat → Nat → Int), Ev kz (d, 268, 0, [some (.inr (.inr 86)), some (.inl 1), some (.inl 9999), none], [], (am_sh, am_mm U14)) (some (.inl r15), (am_sh, am_mm U15)) ∧ (0 ≤ (w32 ((w32 (16 * (U11 86 40))) + (U11 106 (U11 86 40).toNat))) ∧ (w32 ((w32 (16 * (U11 86 40))) + (U11 106 (U11 86 40).toNat))) < 32) ∧ (((¬ ((am_upd U15 109 (w32 ((w32 (16 * (U11 86 40))) + (U11 106 (U11 86 40).toNat))).toNat r15) 86 8) = 0 : Prop)) → R = (none, (am_sh, am_mm (am_upd U15 109 (w32 ((w32 (16 * (U11 86 40))) + (U11 106 (U11 86 40).toNat))).toNat r15)))) ∧ (¬ (¬ ((am_upd U15 109 (w32 ((w32 (16 * (U11 86 40))) + (U11 106 (U11 86 40).toNat))).toNat r15) 86 8) = 0) → (0 ≤ ((am_upd U15 109 (w32 ((w32 (16 * (U11 86 40))) + (U11 106 (U11 86 40).toNat))).toNat r15) 86 40) ∧ ((am_upd U15 109 (w32 ((w32 (16 * (U11 86 40))) + (U11 106 (U11 86 40).toNat))).toNat r15) 86 40) < 2) ∧ (0 ≤ ((am_upd U15 109 (w32 ((w32 (16 * (U11 86 40))) + (U11 106 (U11 86 40).toNat))).toNat r15) 86 40) ∧ ((am_upd U15 109 (w32 ((w32 (16 * (U11 86 40))) + (U11 106 (U11 86 40).toNat))).toNat r15) 86 40) < 2) ∧ R = (none, (am_sh, am_mm (am_upd (am_upd U15 109 (w32 ((w32 (16 * (U11 86 40))) + (U11 106 (U11 86 40).toNat))).toNat r15) 106 ((am_upd U15 109 (w32 ((w32 (16 * (U11 86 40))) + (U11 106 (U11 86 40).toNat))).toNat r15) 86 40).toNat (w32 (((am_upd U15 109 (w32 ((w32 (16 * (U11 86 40))) + (U11 106 (U11 86 40).toNat))).toNat r15) 106 ((am_upd U15 109 (w32 ((w32 (16 * (U11 86 40))) + (U11 106 (U11 86 40).toNat))).toNat r15) 86 40).toNat) + 1))))))) ∧ (¬ (((am_upd U13 108 (w32 ((w32 (16 * (U11 86 40))) + (U11 106 (U11 86 40).toNat))).toNat r13) 86 8) ≤ 0) → R = (none, (am_sh, am_mm (am_upd U13 108 (w32 ((w32 (16 * (U11 86 40))) + (U11 106 (U11 86 40).toNat))).toNat r13))))) ∧ (¬ (¬ ((am_upd U13 108 (w32 ((w32 (16 * (U11 86 40))) + (U11 106 (U11 86 40).toNat))).toNat r13) 86 8) = 0) → (0 ≤ (w32 ((w32 (16 * (U11 86 40))) + (U11 106 (U11 86 40).toNat))) ∧ (w32 ((w32 (16 * (U11 86 40))) + (U11 106 (U11 86 40).toNat))) < 32) ∧ (0 ≤ (w32 ((w32 (16 * (U11 86 40))) + (U11 106 (U11 86 40).toNat))) ∧ (w32 ((w32 (16 * (U11 86 40))) + (U11 106 (U11 86 40).toNat))) < 32) ∧ (((¬ ((am_upd U13 108 (w32 ((w32 (16 * (U11 86 40))) + (U11 106 (U11 86 40).toNat))).toNat r13) 107 (w32 ((w32 (16 * (U11 86 40))) + (U11 106 (U11 86 40).toNat))).toNat) = ((am_upd U13 108 (w32 ((w32 (16 * (U11 86 40))) + (U11 106 (U11 86 40).toNat))).toNat r13) 108 (w32 ((w32 (16 * (U11 86 40))) + (U11 106 (U11 86 40).toNat))).toNat) : Prop)) → (((((am_upd U13 108 (w32 ((w32 (16 * (U11 86 40))) + (U11 106 (U11 86 40).toNat))).toNat r13) 86 8) ≤ 0 : Prop)) → ∃ U16 : Nat → Nat → Int, Ev kz (d, 93, 0, [some (.inr (.inr 86)), none, none, none, none, none], [], (am_sh, am_mm (am_upd U13 108 (w32 ((w32 (16 * (U11 86 40))) + (U11 106 (U11 86 40).toNat))).toNat r13))) (none, (am_sh, am_mm U16)) ∧ ∃ (r17 : Int) (U17 : Nat → Nat → Int), Ev kz (d, 268, 0, [some (.inr (.inr 86)), some (.inl 1), some (.inl 9999), none], [], (am_sh, am_mm U16)) (some (.inl r17), (am_sh, am_mm U17)) ∧ (0 ≤ (w32 ((w32 (16 * (U11 86 40))) + (U11 106 (U11 86 40).toNat))) ∧ (w32 ((w32 (16 * (U11 86 40))) + (U11 106 (U11 86 40).toNat))) < 32) ∧ (((¬ ((am_upd U17 109 (w32 ((w32 (16 * (U11 86 40))) + (U11 106 (U11 86 40).toNat))).toNat r17) 86 8) = 0 : Prop)) → R = (none, (am_sh, am_mm (am_upd U17 109 (w32 ((w32 (16 * (U11 86 40))) + (U11 106 (U11 86 40).toNat))).toNat r17)))) ∧ (¬ (¬ ((am_upd U17 109 (w32 ((w32 (16 * (U11 86 40))) + (U11 106 (U11 86 40).toNat))).toNat r17) 86 8) = 0) → (0 ≤ ((am_upd U17 109 (w32 ((w32 (16 * (U11 86 40))) + (U11 106 (U11 86 40).toNat))).toNat r17) 86 40) ∧ ((am_upd U17 109 (w32 ((w32 (16 * (U11 86 40))) + (U11 106 (U11 86 40).toNat))).toNat r17) 86 40) < 2) ∧ (0 ≤ ((am_upd U17 109 (w32 ((w32 (16 * (U11 86 40))) + (U11 106 (U11 86 40).toNat))).toNat r17) 86 40) ∧ ((am_upd U17 109 (w32 ((w32 (16 * (U11 86 40))) + (U11 106 (U11 86 40).toNat))).toNat r17) 86 40) < 2) ∧ R = (none, (am_sh, am_mm (am_upd (am_upd U17 109 (w32 ((w32 (16 * (U11 86 40))) + (U11 106 (U11 86 40).toNat))).toNat r17) 106 ((am_upd U17 109 (w32 ((w32 (16 * (U11 86 40))) + (U11 106 (U11 86 40).toNat))).toNat r17) 86 40).toNat (w32 (((am_upd U17 109 (w32 ((w32 (16 * (U11 86 40))) + (U11 106 (U11 86 40).toNat))).toNat r17) 106 ((am_upd U17 109 (w32 ((w32 (16 * (U11 86 40))) + (U11 106 (U11 86 40).toNat))).toNat r17) 86 40).toNat) + 1))))))) ∧ (¬ (((am_upd U13 108 (w32 ((w32 (16 * (U11 86 40))) + (U11 106 (U11 86 40).toNat))).toNat r13) 86 8) ≤ 0) → R = (none, (am_sh, am_mm (am_upd U13 108 (w32 ((w32 (16 * (U11 86 40))) + (U11 106 (U11 86 40).toNat))).toNat r13))))) ∧ (¬ (¬ ((am_upd U13 108 (w32 ((w32 (16 * (U11 86 40))) + (U11 106 (U11 86 40).toNat))).toNat r13) 107 (w32 ((w32 (16 * (U11 86 40))) + (U11 106 (U11 86 40).toNat))).toNat) = ((am_upd U13 108 (w32 ((w32 (16 * (U11 86 40))) + (U11 106 (U11 86 40).toNat))).toNat r13) 108 (w32 ((w32 (16 * (U11 86 40))) + (U11 106 (U11 86 40).toNat))).toNat)) → ∃ U18 : Nat → Nat → Int, Ev kz (d, 196, 0, [some (.inr (.inr 86)), some (.inl 3), some (.inl ((am_upd U13 108 (w32 ((w32 (16 * (U11 86 40))) + (U11 106 (U11 86 40).toNat))).toNat r13) 86 4))], [], (am_sh, am_mm (am_upd U13 108 (w32 ((w32 (16 * (U11 86 40))) + (U11 106 (U11 86 40).toNat))).toNat r13))) (none, (am_sh, am_mm U18)) ∧ ((((U18 86 8) ≤ 0 : Prop)) → ∃ U19 : Nat → Nat → Int, Ev kz (d, 93, 0, [some (.inr (.inr 86)), none, none, none, none, none], [], (am_sh, am_mm U18)) (none, (am_sh, am_mm U19)) ∧ ∃ (r20 : Int) (U20 : Nat → Nat → Int), Ev kz (d, 268, 0, [some (.inr (.inr 86)), some (.inl 1), some (.inl 9999), none], [], (am_sh, am_mm U19)) (some (.inl r20), (am_sh, am_mm U20)) ∧ (0 ≤ (w32 ((w32 (16 * (U11 86 40))) + (U11 106 (U11 86 40).toNat))) ∧ (w32 ((w32 (16 * (U11 86 40))) + (U11 106 (U11 86 40).toNat))) < 32) ∧ (((¬ ((am_upd U20 109 (w32 ((w32 (16 * (U11 86 40))) + (U11 106 (U11 86 40).toNat))).toNat r20) 86 8) = 0 : Prop)) → R = (none, (am_sh, am_mm (am_upd U20 109 (w32 ((w32 (16 * (U11 86 40))) + (U11 106 (U11 86 40).toNat))).toNat r20)))) ∧ (¬ (¬ ((am_upd U20 109 (w32 ((w32 (16 * (U11 86 40))) + (U11 106 (U11 86 40).toNat))).toNat r20) 86 8) = 0) → (0 ≤ ((am_upd U20 109 (w32 ((w32 (16 * (U11 86 40))) + (U11 106 (U11 86 40).toNat))).toNat r20) 86 40) ∧ ((am_upd U20 109 (w32 ((w32 (16 * (U11 86 40))) + (U11 106 (U11 86 40).toNat))).toNat r20) 86 40) < 2) ∧ (0 ≤ ((am_upd U20 109 (w32 ((w32 (16 * (U11 86 40))) + (U11 106 (U11 86 40).toNat))).toNat r20) 86 40) ∧ ((am_upd U20 109 (w32 ((w32 (16 * (U11 86 40))) + (U11 106 (U11 86 40).toNat))).toNat r20) 86 40) < 2) ∧ R = (none, (am_sh, am_mm (am_upd (am_upd U20 109 (w32 ((w32 (16 * (U11 86 40))) + (U11 106 (U11 86 40).toNat))).toNat r20) 106 ((am_upd U20 109 (w32 ((w32 (16 * (U11 86 40))) + (U11 106 (U11 86 40).toNat))).toNat r20) 86 40).toNat (w32 (((am_upd U20 109 (w32 ((w32 (16 * (U11 86 40))) + (U11 106 (U11 86 40).toNat))).toNat r20) 106 ((am_upd U20 109 (w32 ((w32 (16 * (U11 86 40))) + (U11 106 (U11 86 40).toNat))).toNat r20) 86 40).toNat) + 1))))))) ∧ (¬ ((U18 86 8) ≤ 0) → R = (none, (am_sh, am_mm U18)))))) ∧ (¬ (¬ r11 = 0) → R = (none, (am_sh, am_mm U11))))) : Ev kz ((d + 1), 194, 0, [some (.inr (.inr 86)), none], [], (am_sh, am_mm U)) R := by
  refine ev_seg (σ1 := ((d + 1), 194, 9, [some (.inr (.inr 86)), none], [.inl (U 86 40), .inr (.inr 106), .inr (.inr 86)], (am_sh, am_mm U))) 5 (fun _ => rfl) ?_
  refine eu_iald 106 (n := 2) rfl (by decide) rfl (fun _ => rfl) h.1 ?_
  have ha := h.2
  refine ev_br (P := ¬ (U 106 (U 86 40).toNat) = 16) (σ1 := ((d + 1), 194, 19, [some (.inr (.inr 86)), none], [.inr (.inr 86)], (am_sh, am_mm U))) (σ2 := ((d + 1), 194, 15, [some (.inr (.inr 86)), none], [.inr (.inr 86)], (am_sh, am_mm U))) 2 (fun _ => rfl) (fun hc => ?_) (fun hc => ?_)
  · have ha1 := ha.1 hc
    refine ev_seg (σ1 := ((d + 1), 194, 20, [some (.inr (.inr 86)), none], [.inl 0, .inr (.inr 86)], (am_sh, am_mm U))) 1 (fun _ => rfl) ?_
    obtain ⟨r1, U1, ha1c, ha1a⟩ := ha1
    refine ev_cal (σc := (d, 264, 0, [some (.inr (.inr 86)), some (.inl 0)], [], (am_sh, am_mm U))) (fun _ => rfl) ha1c ?_
    show Ev kz ((d + 1), 194, 23, [some (.inr (.inr 86)), none], [.inl r1], (am_sh, am_mm U1)) R
    refine ev_br (P := ¬ r1 = 0) (σ1 := ((d + 1), 194, 27, [some (.inr (.inr 86)), none], [], (am_sh, am_mm U1))) (σ2 := ((d + 1), 194, 26, [some (.inr (.inr 86)), none], [], (am_sh, am_mm U1))) 1 (fun _ => rfl) (fun hc => ?_) (fun hc => ?_)
    · have ha1a1 := ha1a.1 hc
      refine ev_seg (σ1 := ((d + 1), 194, 42, [some (.inr (.inr 86)), none], [.inl (U1 86 40), .inr (.inr 106), .inl (w32 (16 * (U1 86 40)))], (am_sh, am_mm U1))) 8 (fun _ => rfl) ?_
      refine eu_iald 106 (n := 2) rfl (by decide) rfl (fun _ => rfl) ha1a1.1 ?_
      have ha1a1a := ha1a1.2
      refine ev_seg (σ1 := ((d + 1), 194, 52, [some (.inr (.inr 86)), some (.inl (w32 ((w32 (16 * (U1 86 40))) + (U1 106 (U1 86 40).toNat))))], [.inl 1, .inr (.inr 86), .inl (w32 ((w32 (16 * (U1 86 40))) + (U1 106 (U1 86 40).toNat))), .inr (.inr 107)], (am_sh, am_mm U1))) 7 (fun _ => rfl) ?_
      obtain ⟨r2, U2, ha1a1ac, ha1a1aa⟩ := ha1a1a
      refine ev_cal (σc := (d, 267, 0, [some (.inr (.inr 86)), some (.inl 1), none], [], (am_sh, am_mm U1))) (fun _ => rfl) ha1a1ac ?_
      show Ev kz ((d + 1), 194, 55, [some (.inr (.inr 86)), some (.inl (w32 ((w32 (16 * (U1 86 40))) + (U1 106 (U1 86 40).toNat))))], [.inl r2, .inl (w32 ((w32 (16 * (U1 86 40))) + (U1 106 (U1 86 40).toNat))), .inr (.inr 107)], (am_sh, am_mm U2)) R
      refine eu_iast 107 (n := 32) rfl (by decide) rfl (fun _ => rfl) ha1a1aa.1 ?_
      have ha1a1aaa := ha1a1aa.2
      refine ev_seg (σ1 := ((d + 1), 194, 63, [some (.inr (.inr 86)), some (.inl (w32 ((w32 (16 * (U1 86 40))) + (U1 106 (U1 86 40).toNat))))], [.inl 1, .inr (.inr 86), .inl (w32 ((w32 (16 * (U1 86 40))) + (U1 106 (U1 86 40).toNat))), .inr (.inr 108)], (am_sh, am_mm (am_upd U2 107 (w32 ((w32 (16 * (U1 86 40))) + (U1 106 (U1 86 40).toNat))).toNat r2)))) 5 (fun _ => rfl) ?_
      obtain ⟨r3, U3, ha1a1aaac, ha1a1aaaa⟩ := ha1a1aaa
      refine ev_cal (σc := (d, 269, 0, [some (.inr (.inr 86)), some (.inl 1), none], [], (am_sh, am_mm (am_upd U2 107 (w32 ((w32 (16 * (U1 86 40))) + (U1 106 (U1 86 40).toNat))).toNat r2)))) (fun _ => rfl) ha1a1aaac ?_
      show Ev kz ((d + 1), 194, 66, [some (.inr (.inr 86)), some (.inl (w32 ((w32 (16 * (U1 86 40))) + (U1 106 (U1 86 40).toNat))))], [.inl r3, .inl (w32 ((w32 (16 * (U1 86 40))) + (U1 106 (U1 86 40).toNat))), .inr (.inr 108)], (am_sh, am_mm U3)) R
      refine eu_iast 108 (n := 32) rfl (by decide) rfl (fun _ => rfl) ha1a1aaaa.1 ?_
      have ha1a1aaaaa := ha1a1aaaa.2
      refine ev_br (P := ¬ ((am_upd U3 108 (w32 ((w32 (16 * (U1 86 40))) + (U1 106 (U1 86 40).toNat))).toNat r3) 86 8) = 0) (σ1 := ((d + 1), 194, 98, [some (.inr (.inr 86)), some (.inl (w32 ((w32 (16 * (U1 86 40))) + (U1 106 (U1 86 40).toNat))))], [], (am_sh, am_mm (am_upd U3 108 (w32 ((w32 (16 * (U1 86 40))) + (U1 106 (U1 86 40).toNat))).toNat r3)))) (σ2 := ((d + 1), 194, 74, [some (.inr (.inr 86)), some (.inl (w32 ((w32 (16 * (U1 86 40))) + (U1 106 (U1 86 40).toNat))))], [], (am_sh, am_mm (am_upd U3 108 (w32 ((w32 (16 * (U1 86 40))) + (U1 106 (U1 86 40).toNat))).toNat r3)))) 3 (fun _ => rfl) (fun hc => ?_) (fun hc => ?_)
      · have ha1a1aaaaa1 := ha1a1aaaaa.1 hc
        refine ev_br (P := ((am_upd U3 108 (w32 ((w32 (16 * (U1 86 40))) + (U1 106 (U1 86 40).toNat))).toNat r3) 86 8) ≤ 0) (σ1 := ((d + 1), 194, 106, [some (.inr (.inr 86)), some (.inl (w32 ((w32 (16 * (U1 86 40))) + (U1 106 (U1 86 40).toNat))))], [], (am_sh, am_mm (am_upd U3 108 (w32 ((w32 (16 * (U1 86 40))) + (U1 106 (U1 86 40).toNat))).toNat r3)))) (σ2 := ((d + 1), 194, 105, [some (.inr (.inr 86)), some (.inl (w32 ((w32 (16 * (U1 86 40))) + (U1 106 (U1 86 40).toNat))))], [], (am_sh, am_mm (am_upd U3 108 (w32 ((w32 (16 * (U1 86 40))) + (U1 106 (U1 86 40).toNat))).toNat r3)))) 3 (fun _ => rfl) (fun hc => ?_) (fun hc => ?_)
        · have ha1a1aaaaa11 := ha1a1aaaaa1.1 hc
          refine ev_seg (σ1 := ((d + 1), 194, 107, [some (.inr (.inr 86)), some (.inl (w32 ((w32 (16 * (U1 86 40))) + (U1 106 (U1 86 40).toNat))))], [.inr (.inr 86)], (am_sh, am_mm (am_upd U3 108 (w32 ((w32 (16 * (U1 86 40))) + (U1 106 (U1 86 40).toNat))).toNat r3)))) 1 (fun _ => rfl) ?_
          obtain ⟨U4, ha1a1aaaaa11c, ha1a1aaaaa11a⟩ := ha1a1aaaaa11
          refine ev_cal (σc := (d, 93, 0, [some (.inr (.inr 86)), none, none, none, none, none], [], (am_sh, am_mm (am_upd U3 108 (w32 ((w32 (16 * (U1 86 40))) + (U1 106 (U1 86 40).toNat))).toNat r3)))) (fun _ => rfl) ha1a1aaaaa11c ?_
          show Ev kz ((d + 1), 194, 110, [some (.inr (.inr 86)), some (.inl (w32 ((w32 (16 * (U1 86 40))) + (U1 106 (U1 86 40).toNat))))], [], (am_sh, am_mm U4)) R
          refine ev_seg (σ1 := ((d + 1), 194, 120, [some (.inr (.inr 86)), some (.inl (w32 ((w32 (16 * (U1 86 40))) + (U1 106 (U1 86 40).toNat))))], [.inl 9999, .inl 1, .inr (.inr 86), .inl (w32 ((w32 (16 * (U1 86 40))) + (U1 106 (U1 86 40).toNat))), .inr (.inr 109)], (am_sh, am_mm U4))) 6 (fun _ => rfl) ?_
          obtain ⟨r5, U5, ha1a1aaaaa11ac, ha1a1aaaaa11aa⟩ := ha1a1aaaaa11a
          refine ev_cal (σc := (d, 268, 0, [some (.inr (.inr 86)), some (.inl 1), some (.inl 9999), none], [], (am_sh, am_mm U4))) (fun _ => rfl) ha1a1aaaaa11ac ?_
          show Ev kz ((d + 1), 194, 123, [some (.inr (.inr 86)), some (.inl (w32 ((w32 (16 * (U1 86 40))) + (U1 106 (U1 86 40).toNat))))], [.inl r5, .inl (w32 ((w32 (16 * (U1 86 40))) + (U1 106 (U1 86 40).toNat))), .inr (.inr 109)], (am_sh, am_mm U5)) R
          refine eu_iast 109 (n := 32) rfl (by decide) rfl (fun _ => rfl) ha1a1aaaaa11aa.1 ?_
          have ha1a1aaaaa11aaa := ha1a1aaaaa11aa.2
          refine ev_br (P := ¬ ((am_upd U5 109 (w32 ((w32 (16 * (U1 86 40))) + (U1 106 (U1 86 40).toNat))).toNat r5) 86 8) = 0) (σ1 := ((d + 1), 194, 144, [some (.inr (.inr 86)), some (.inl (w32 ((w32 (16 * (U1 86 40))) + (U1 106 (U1 86 40).toNat))))], [], (am_sh, am_mm (am_upd U5 109 (w32 ((w32 (16 * (U1 86 40))) + (U1 106 (U1 86 40).toNat))).toNat r5)))) (σ2 := ((d + 1), 194, 131, [some (.inr (.inr 86)), some (.inl (w32 ((w32 (16 * (U1 86 40))) + (U1 106 (U1 86 40).toNat))))], [], (am_sh, am_mm (am_upd U5 109 (w32 ((w32 (16 * (U1 86 40))) + (U1 106 (U1 86 40).toNat))).toNat r5)))) 3 (fun _ => rfl) (fun hc => ?_) (fun hc => ?_)
          · have ha1a1aaaaa11aaa1 := ha1a1aaaaa11aaa.1 hc
            subst ha1a1aaaaa11aaa1
            exact ev_end 1 (fun _ => rfl)
          · have ha1a1aaaaa11aaa2 := ha1a1aaaaa11aaa.2 hc
            refine ev_seg (σ1 := ((d + 1), 194, 140, [some (.inr (.inr 86)), some (.inl (w32 ((w32 (16 * (U1 86 40))) + (U1 106 (U1 86 40).toNat))))], [.inl ((am_upd U5 109 (w32 ((w32 (16 * (U1 86 40))) + (U1 106 (U1 86 40).toNat))).toNat r5) 86 40), .inr (.inr 106), .inl ((am_upd U5 109 (w32 ((w32 (16 * (U1 86 40))) + (U1 106 (U1 86 40).toNat))).toNat r5) 86 40), .inr (.inr 106)], (am_sh, am_mm (am_upd U5 109 (w32 ((w32 (16 * (U1 86 40))) + (U1 106 (U1 86 40).toNat))).toNat r5)))) 5 (fun _ => rfl) ?_
            refine eu_iald 106 (n := 2) rfl (by decide) rfl (fun _ => rfl) ha1a1aaaaa11aaa2.1 ?_
            have ha1a1aaaaa11aaa2a := ha1a1aaaaa11aaa2.2
            refine ev_seg (σ1 := ((d + 1), 194, 143, [some (.inr (.inr 86)), some (.inl (w32 ((w32 (16 * (U1 86 40))) + (U1 106 (U1 86 40).toNat))))], [.inl (w32 (((am_upd U5 109 (w32 ((w32 (16 * (U1 86 40))) + (U1 106 (U1 86 40).toNat))).toNat r5) 106 ((am_upd U5 109 (w32 ((w32 (16 * (U1 86 40))) + (U1 106 (U1 86 40).toNat))).toNat r5) 86 40).toNat) + 1)), .inl ((am_upd U5 109 (w32 ((w32 (16 * (U1 86 40))) + (U1 106 (U1 86 40).toNat))).toNat r5) 86 40), .inr (.inr 106)], (am_sh, am_mm (am_upd U5 109 (w32 ((w32 (16 * (U1 86 40))) + (U1 106 (U1 86 40).toNat))).toNat r5)))) 2 (fun _ => rfl) ?_
            refine eu_iast 106 (n := 2) rfl (by decide) rfl (fun _ => rfl) ha1a1aaaaa11aaa2a.1 ?_
            have ha1a1aaaaa11aaa2aa := ha1a1aaaaa11aaa2a.2
            subst ha1a1aaaaa11aaa2aa
            exact ev_end 1 (fun _ => rfl)
        · have ha1a1aaaaa12 := ha1a1aaaaa1.2 hc
          subst ha1a1aaaaa12
          exact ev_end 1 (fun _ => rfl)
      · have ha1a1aaaaa2 := ha1a1aaaaa.2 hc
        refine ev_seg (σ1 := ((d + 1), 194, 79, [some (.inr (.inr 86)), some (.inl (w32 ((w32 (16 * (U1 86 40))) + (U1 106 (U1 86 40).toNat))))], [.inl (w32 ((w32 (16 * (U1 86 40))) + (U1 106 (U1 86 40).toNat))), .inr (.inr 107)], (am_sh, am_mm (am_upd U3 108 (w32 ((w32 (16 * (U1 86 40))) + (U1 106 (U1 86 40).toNat))).toNat r3)))) 3 (fun _ => rfl) ?_
        refine eu_iald 107 (n := 32) rfl (by decide) rfl (fun _ => rfl) ha1a1aaaaa2.1 ?_
        have ha1a1aaaaa2a := ha1a1aaaaa2.2
        refine ev_seg (σ1 := ((d + 1), 194, 85, [some (.inr (.inr 86)), some (.inl (w32 ((w32 (16 * (U1 86 40))) + (U1 106 (U1 86 40).toNat))))], [.inl (w32 ((w32 (16 * (U1 86 40))) + (U1 106 (U1 86 40).toNat))), .inr (.inr 108), .inl ((am_upd U3 108 (w32 ((w32 (16 * (U1 86 40))) + (U1 106 (U1 86 40).toNat))).toNat r3) 107 (w32 ((w32 (16 * (U1 86 40))) + (U1 106 (U1 86 40).toNat))).toNat)], (am_sh, am_mm (am_upd U3 108 (w32 ((w32 (16 * (U1 86 40))) + (U1 106 (U1 86 40).toNat))).toNat r3)))) 3 (fun _ => rfl) ?_
        refine eu_iald 108 (n := 32) rfl (by decide) rfl (fun _ => rfl) ha1a1aaaaa2a.1 ?_
        have ha1a1aaaaa2aa := ha1a1aaaaa2a.2
        refine ev_br (P := ¬ ((am_upd U3 108 (w32 ((w32 (16 * (U1 86 40))) + (U1 106 (U1 86 40).toNat))).toNat r3) 107 (w32 ((w32 (16 * (U1 86 40))) + (U1 106 (U1 86 40).toNat))).toNat) = ((am_upd U3 108 (w32 ((w32 (16 * (U1 86 40))) + (U1 106 (U1 86 40).toNat))).toNat r3) 108 (w32 ((w32 (16 * (U1 86 40))) + (U1 106 (U1 86 40).toNat))).toNat)) (σ1 := ((d + 1), 194, 98, [some (.inr (.inr 86)), some (.inl (w32 ((w32 (16 * (U1 86 40))) + (U1 106 (U1 86 40).toNat))))], [], (am_sh, am_mm (am_upd U3 108 (w32 ((w32 (16 * (U1 86 40))) + (U1 106 (U1 86 40).toNat))).toNat r3)))) (σ2 := ((d + 1), 194, 89, [some (.inr (.inr 86)), some (.inl (w32 ((w32 (16 * (U1 86 40))) + (U1 106 (U1 86 40).toNat))))], [], (am_sh, am_mm (am_upd U3 108 (w32 ((w32 (16 * (U1 86 40))) + (U1 106 (U1 86 40).toNat))).toNat r3)))) 1 (fun _ => rfl) (fun hc => ?_) (fun hc => ?_)
        · have ha1a1aaaaa2aa1 := ha1a1aaaaa2aa.1 hc
          refine ev_br (P := ((am_upd U3 108 (w32 ((w32 (16 * (U1 86 40))) + (U1 106 (U1 86 40).toNat))).toNat r3) 86 8) ≤ 0) (σ1 := ((d + 1), 194, 106, [some (.inr (.inr 86)), some (.inl (w32 ((w32 (16 * (U1 86 40))) + (U1 106 (U1 86 40).toNat))))], [], (am_sh, am_mm (am_upd U3 108 (w32 ((w32 (16 * (U1 86 40))) + (U1 106 (U1 86 40).toNat))).toNat r3)))) (σ2 := ((d + 1), 194, 105, [some (.inr (.inr 86)), some (.inl (w32 ((w32 (16 * (U1 86 40))) + (U1 106 (U1 86 40).toNat))))], [], (am_sh, am_mm (am_upd U3 108 (w32 ((w32 (16 * (U1 86 40))) + (U1 106 (U1 86 40).toNat))).toNat r3)))) 3 (fun _ => rfl) (fun hc => ?_) (fun hc => ?_)
          · have ha1a1aaaaa2aa11 := ha1a1aaaaa2aa1.1 hc
            refine ev_seg (σ1 := ((d + 1), 194, 107, [some (.inr (.inr 86)), some (.inl (w32 ((w32 (16 * (U1 86 40))) + (U1 106 (U1 86 40).toNat))))], [.inr (.inr 86)], (am_sh, am_mm (am_upd U3 108 (w32 ((w32 (16 * (U1 86 40))) + (U1 106 (U1 86 40).toNat))).toNat r3)))) 1 (fun _ => rfl) ?_
            obtain ⟨U6, ha1a1aaaaa2aa11c, ha1a1aaaaa2aa11a⟩ := ha1a1aaaaa2aa11
            refine ev_cal (σc := (d, 93, 0, [some (.inr (.inr 86)), none, none, none, none, none], [], (am_sh, am_mm (am_upd U3 108 (w32 ((w32 (16 * (U1 86 40))) + (U1 106 (U1 86 40).toNat))).toNat r3)))) (fun _ => rfl) ha1a1aaaaa2aa11c ?_
            show Ev kz ((d + 1), 194, 110, [some (.inr (.inr 86)), some (.inl (w32 ((w32 (16 * (U1 86 40))) + (U1 106 (U1 86 40).toNat))))], [], (am_sh, am_mm U6)) R
            refine ev_seg (σ1 := ((d + 1), 194, 120, [some (.inr (.inr 86)), some (.inl (w32 ((w32 (16 * (U1 86 40))) + (U1 106 (U1 86 40).toNat))))], [.inl 9999, .inl 1, .inr (.inr 86), .inl (w32 ((w32 (16 * (U1 86 40))) + (U1 106 (U1 86 40).toNat))), .inr (.inr 109)], (am_sh, am_mm U6))) 6 (fun _ => rfl) ?_
            obtain ⟨r7, U7, ha1a1aaaaa2aa11ac, ha1a1aaaaa2aa11aa⟩ := ha1a1aaaaa2aa11a
            refine ev_cal (σc := (d, 268, 0, [some (.inr (.inr 86)), some (.inl 1), some (.inl 9999), none], [], (am_sh, am_mm U6))) (fun _ => rfl) ha1a1aaaaa2aa11ac ?_
            show Ev kz ((d + 1), 194, 123, [some (.inr (.inr 86)), some (.inl (w32 ((w32 (16 * (U1 86 40))) + (U1 106 (U1 86 40).toNat))))], [.inl r7, .inl (w32 ((w32 (16 * (U1 86 40))) + (U1 106 (U1 86 40).toNat))), .inr (.inr 109)], (am_sh, am_mm U7)) R
            refine eu_iast 109 (n := 32) rfl (by decide) rfl (fun _ => rfl) ha1a1aaaaa2aa11aa.1 ?_
            have ha1a1aaaaa2aa11aaa := ha1a1aaaaa2aa11aa.2
            refine ev_br (P := ¬ ((am_upd U7 109 (w32 ((w32 (16 * (U1 86 40))) + (U1 106 (U1 86 40).toNat))).toNat r7) 86 8) = 0) (σ1 := ((d + 1), 194, 144, [some (.inr (.inr 86)), some (.inl (w32 ((w32 (16 * (U1 86 40))) + (U1 106 (U1 86 40).toNat))))], [], (am_sh, am_mm (am_upd U7 109 (w32 ((w32 (16 * (U1 86 40))) + (U1 106 (U1 86 40).toNat))).toNat r7)))) (σ2 := ((d + 1), 194, 131, [some (.inr (.inr 86)), some (.inl (w32 ((w32 (16 * (U1 86 40))) + (U1 106 (U1 86 40).toNat))))], [], (am_sh, am_mm (am_upd U7 109 (w32 ((w32 (16 * (U1 86 40))) + (U1 106 (U1 86 40).toNat))).toNat r7)))) 3 (fun _ => rfl) (fun hc => ?_) (fun hc => ?_)
            · have ha1a1aaaaa2aa11aaa1 := ha1a1aaaaa2aa11aaa.1 hc
              subst ha1a1aaaaa2aa11aaa1
              exact ev_end 1 (fun _ => rfl)
            · have ha1a1aaaaa2aa11aaa2 := ha1a1aaaaa2aa11aaa.2 hc
              refine ev_seg (σ1 := ((d + 1), 194, 140, [some (.inr (.inr 86)), some (.inl (w32 ((w32 (16 * (U1 86 40))) + (U1 106 (U1 86 40).toNat))))], [.inl ((am_upd U7 109 (w32 ((w32 (16 * (U1 86 40))) + (U1 106 (U1 86 40).toNat))).toNat r7) 86 40), .inr (.inr 106), .inl ((am_upd U7 109 (w32 ((w32 (16 * (U1 86 40))) + (U1 106 (U1 86 40).toNat))).toNat r7) 86 40), .inr (.inr 106)], (am_sh, am_mm (am_upd U7 109 (w32 ((w32 (16 * (U1 86 40))) + (U1 106 (U1 86 40).toNat))).toNat r7)))) 5 (fun _ => rfl) ?_
              refine eu_iald 106 (n := 2) rfl (by decide) rfl (fun _ => rfl) ha1a1aaaaa2aa11aaa2.1 ?_
              have ha1a1aaaaa2aa11aaa2a := ha1a1aaaaa2aa11aaa2.2
              refine ev_seg (σ1 := ((d + 1), 194, 143, [some (.inr (.inr 86)), some (.inl (w32 ((w32 (16 * (U1 86 40))) + (U1 106 (U1 86 40).toNat))))], [.inl (w32 (((am_upd U7 109 (w32 ((w32 (16 * (U1 86 40))) + (U1 106 (U1 86 40).toNat))).toNat r7) 106 ((am_upd U7 109 (w32 ((w32 (16 * (U1 86 40))) + (U1 106 (U1 86 40).toNat))).toNat r7) 86 40).toNat) + 1)), .inl ((am_upd U7 109 (w32 ((w32 (16 * (U1 86 40))) + (U1 106 (U1 86 40).toNat))).toNat r7) 86 40), .inr (.inr 106)], (am_sh, am_mm (am_upd U7 109 (w32 ((w32 (16 * (U1 86 40))) + (U1 106 (U1 86 40).toNat))).toNat r7)))) 2 (fun _ => rfl) ?_
              refine eu_iast 106 (n := 2) rfl (by decide) rfl (fun _ => rfl) ha1a1aaaaa2aa11aaa2a.1 ?_
              have ha1a1aaaaa2aa11aaa2aa := ha1a1aaaaa2aa11aaa2a.2
              subst ha1a1aaaaa2aa11aaa2aa
              exact ev_end 1 (fun _ => rfl)
          · have ha1a1aaaaa2aa12 := ha1a1aaaaa2aa1.2 hc
            subst ha1a1aaaaa2aa12
            exact ev_end 1 (fun _ => rfl)
        · have ha1a1aaaaa2aa2 := ha1a1aaaaa2aa.2 hc
          refine ev_seg (σ1 := ((d + 1), 194, 95, [some (.inr (.inr 86)), some (.inl (w32 ((w32 (16 * (U1 86 40))) + (U1 106 (U1 86 40).toNat))))], [.inl ((am_upd U3 108 (w32 ((w32 (16 * (U1 86 40))) + (U1 106 (U1 86 40).toNat))).toNat r3) 86 4), .inl 3, .inr (.inr 86)], (am_sh, am_mm (am_upd U3 108 (w32 ((w32 (16 * (U1 86 40))) + (U1 106 (U1 86 40).toNat))).toNat r3)))) 4 (fun _ => rfl) ?_
          obtain ⟨U8, ha1a1aaaaa2aa2c, ha1a1aaaaa2aa2a⟩ := ha1a1aaaaa2aa2
          refine ev_cal (σc := (d, 196, 0, [some (.inr (.inr 86)), some (.inl 3), some (.inl ((am_upd U3 108 (w32 ((w32 (16 * (U1 86 40))) + (U1 106 (U1 86 40).toNat))).toNat r3) 86 4))], [], (am_sh, am_mm (am_upd U3 108 (w32 ((w32 (16 * (U1 86 40))) + (U1 106 (U1 86 40).toNat))).toNat r3)))) (fun _ => rfl) ha1a1aaaaa2aa2c ?_
          show Ev kz ((d + 1), 194, 98, [some (.inr (.inr 86)), some (.inl (w32 ((w32 (16 * (U1 86 40))) + (U1 106 (U1 86 40).toNat))))], [], (am_sh, am_mm U8)) R
          refine ev_br (P := (U8 86 8) ≤ 0) (σ1 := ((d + 1), 194, 106, [some (.inr (.inr 86)), some (.inl (w32 ((w32 (16 * (U1 86 40))) + (U1 106 (U1 86 40).toNat))))], [], (am_sh, am_mm U8))) (σ2 := ((d + 1), 194, 105, [some (.inr (.inr 86)), some (.inl (w32 ((w32 (16 * (U1 86 40))) + (U1 106 (U1 86 40).toNat))))], [], (am_sh, am_mm U8))) 3 (fun _ => rfl) (fun hc => ?_) (fun hc => ?_)
          · have ha1a1aaaaa2aa2a1 := ha1a1aaaaa2aa2a.1 hc
            refine ev_seg (σ1 := ((d + 1), 194, 107, [some (.inr (.inr 86)), some (.inl (w32 ((w32 (16 * (U1 86 40))) + (U1 106 (U1 86 40).toNat))))], [.inr (.inr 86)], (am_sh, am_mm U8))) 1 (fun _ => rfl) ?_
            obtain ⟨U9, ha1a1aaaaa2aa2a1c, ha1a1aaaaa2aa2a1a⟩ := ha1a1aaaaa2aa2a1
            refine ev_cal (σc := (d, 93, 0, [some (.inr (.inr 86)), none, none, none, none, none], [], (am_sh, am_mm U8))) (fun _ => rfl) ha1a1aaaaa2aa2a1c ?_
            show Ev kz ((d + 1), 194, 110, [some (.inr (.inr 86)), some (.inl (w32 ((w32 (16 * (U1 86 40))) + (U1 106 (U1 86 40).toNat))))], [], (am_sh, am_mm U9)) R
            refine ev_seg (σ1 := ((d + 1), 194, 120, [some (.inr (.inr 86)), some (.inl (w32 ((w32 (16 * (U1 86 40))) + (U1 106 (U1 86 40).toNat))))], [.inl 9999, .inl 1, .inr (.inr 86), .inl (w32 ((w32 (16 * (U1 86 40))) + (U1 106 (U1 86 40).toNat))), .inr (.inr 109)], (am_sh, am_mm U9))) 6 (fun _ => rfl) ?_
            obtain ⟨r10, U10, ha1a1aaaaa2aa2a1ac, ha1a1aaaaa2aa2a1aa⟩ := ha1a1aaaaa2aa2a1a
            refine ev_cal (σc := (d, 268, 0, [some (.inr (.inr 86)), some (.inl 1), some (.inl 9999), none], [], (am_sh, am_mm U9))) (fun _ => rfl) ha1a1aaaaa2aa2a1ac ?_
            show Ev kz ((d + 1), 194, 123, [some (.inr (.inr 86)), some (.inl (w32 ((w32 (16 * (U1 86 40))) + (U1 106 (U1 86 40).toNat))))], [.inl r10, .inl (w32 ((w32 (16 * (U1 86 40))) + (U1 106 (U1 86 40).toNat))), .inr (.inr 109)], (am_sh, am_mm U10)) R
            refine eu_iast 109 (n := 32) rfl (by decide) rfl (fun _ => rfl) ha1a1aaaaa2aa2a1aa.1 ?_
            have ha1a1aaaaa2aa2a1aaa := ha1a1aaaaa2aa2a1aa.2
            refine ev_br (P := ¬ ((am_upd U10 109 (w32 ((w32 (16 * (U1 86 40))) + (U1 106 (U1 86 40).toNat))).toNat r10) 86 8) = 0) (σ1 := ((d + 1), 194, 144, [some (.inr (.inr 86)), some (.inl (w32 ((w32 (16 * (U1 86 40))) + (U1 106 (U1 86 40).toNat))))], [], (am_sh, am_mm (am_upd U10 109 (w32 ((w32 (16 * (U1 86 40))) + (U1 106 (U1 86 40).toNat))).toNat r10)))) (σ2 := ((d + 1), 194, 131, [some (.inr (.inr 86)), some (.inl (w32 ((w32 (16 * (U1 86 40))) + (U1 106 (U1 86 40).toNat))))], [], (am_sh, am_mm (am_upd U10 109 (w32 ((w32 (16 * (U1 86 40))) + (U1 106 (U1 86 40).toNat))).toNat r10)))) 3 (fun _ => rfl) (fun hc => ?_) (fun hc => ?_)
            · have ha1a1aaaaa2aa2a1aaa1 := ha1a1aaaaa2aa2a1aaa.1 hc
              subst ha1a1aaaaa2aa2a1aaa1
              exact ev_end 1 (fun _ => rfl)
            · have ha1a1aaaaa2aa2a1aaa2 := ha1a1aaaaa2aa2a1aaa.2 hc
              refine ev_seg (σ1 := ((d + 1), 194, 140, [some (.inr (.inr 86)), some (.inl (w32 ((w32 (16 * (U1 86 40))) + (U1 106 (U1 86 40).toNat))))], [.inl ((am_upd U10 109 (w32 ((w32 (16 * (U1 86 40))) + (U1 106 (U1 86 40).toNat))).toNat r10) 86 40), .inr (.inr 106), .inl ((am_upd U10 109 (w32 ((w32 (16 * (U1 86 40))) + (U1 106 (U1 86 40).toNat))).toNat r10) 86 40), .inr (.inr 106)], (am_sh, am_mm (am_upd U10 109 (w32 ((w32 (16 * (U1 86 40))) + (U1 106 (U1 86 40).toNat))).toNat r10)))) 5 (fun _ => rfl) ?_
              refine eu_iald 106 (n := 2) rfl (by decide) rfl (fun _ => rfl) ha1a1aaaaa2aa2a1aaa2.1 ?_
              have ha1a1aaaaa2aa2a1aaa2a := ha1a1aaaaa2aa2a1aaa2.2
              refine ev_seg (σ1 := ((d + 1), 194, 143, [some (.inr (.inr 86)), some (.inl (w32 ((w32 (16 * (U1 86 40))) + (U1 106 (U1 86 40).toNat))))], [.inl (w32 (((am_upd U10 109 (w32 ((w32 (16 * (U1 86 40))) + (U1 106 (U1 86 40).toNat))).toNat r10) 106 ((am_upd U10 109 (w32 ((w32 (16 * (U1 86 40))) + (U1 106 (U1 86 40).toNat))).toNat r10) 86 40).toNat) + 1)), .inl ((am_upd U10 109 (w32 ((w32 (16 * (U1 86 40))) + (U1 106 (U1 86 40).toNat))).toNat r10) 86 40), .inr (.inr 106)], (am_sh, am_mm (am_upd U10 109 (w32 ((w32 (16 * (U1 86 40))) + (U1 106 (U1 86 40).toNat))).toNat r10)))) 2 (fun _ => rfl) ?_
              refine eu_iast 106 (n := 2) rfl (by decide) rfl (fun _ => rfl) ha1a1aaaaa2aa2a1aaa2a.1 ?_
              have ha1a1aaaaa2aa2a1aaa2aa := ha1a1aaaaa2aa2a1aaa2a.2
              subst ha1a1aaaaa2aa2a1aaa2aa
              exact ev_end 1 (fun _ => rfl)
          · have ha1a1aaaaa2aa2a2 := ha1a1aaaaa2aa2a.2 hc
            subst ha1a1aaaaa2aa2a2
            exact ev_end 1 (fun _ => rfl)
    · have ha1a2 := ha1a.2 hc
      subst ha1a2
      exact ev_end 1 (fun _ => rfl)
  · have ha2 := ha.2 hc
    refine ev_seg (σ1 := ((d + 1), 194, 20, [some (.inr (.inr 86)), none], [.inl 1, .inr (.inr 86)], (am_sh, am_mm U))) 2 (fun _ => rfl) ?_
    obtain ⟨r11, U11, ha2c, ha2a⟩ := ha2
    refine ev_cal (σc := (d, 264, 0, [some (.inr (.inr 86)), some (.inl 1)], [], (am_sh, am_mm U))) (fun _ => rfl) ha2c ?_
    show Ev kz ((d + 1), 194, 23, [some (.inr (.inr 86)), none], [.inl r11], (am_sh, am_mm U11)) R
    refine ev_br (P := ¬ r11 = 0) (σ1 := ((d + 1), 194, 27, [some (.inr (.inr 86)), none], [], (am_sh, am_mm U11))) (σ2 := ((d + 1), 194, 26, [some (.inr (.inr 86)), none], [], (am_sh, am_mm U11))) 1 (fun _ => rfl) (fun hc => ?_) (fun hc => ?_)
    · have ha2a1 := ha2a.1 hc
      refine ev_seg (σ1 := ((d + 1), 194, 42, [some (.inr (.inr 86)), none], [.inl (U11 86 40), .inr (.inr 106), .inl (w32 (16 * (U11 86 40)))], (am_sh, am_mm U11))) 8 (fun _ => rfl) ?_
      refine eu_iald 106 (n := 2) rfl (by decide) rfl (fun _ => rfl) ha2a1.1 ?_
      have ha2a1a := ha2a1.2
      refine ev_seg (σ1 := ((d + 1), 194, 52, [some (.inr (.inr 86)), some (.inl (w32 ((w32 (16 * (U11 86 40))) + (U11 106 (U11 86 40).toNat))))], [.inl 1, .inr (.inr 86), .inl (w32 ((w32 (16 * (U11 86 40))) + (U11 106 (U11 86 40).toNat))), .inr (.inr 107)], (am_sh, am_mm U11))) 7 (fun _ => rfl) ?_
      obtain ⟨r12, U12, ha2a1ac, ha2a1aa⟩ := ha2a1a
      refine ev_cal (σc := (d, 267, 0, [some (.inr (.inr 86)), some (.inl 1), none], [], (am_sh, am_mm U11))) (fun _ => rfl) ha2a1ac ?_
      show Ev kz ((d + 1), 194, 55, [some (.inr (.inr 86)), some (.inl (w32 ((w32 (16 * (U11 86 40))) + (U11 106 (U11 86 40).toNat))))], [.inl r12, .inl (w32 ((w32 (16 * (U11 86 40))) + (U11 106 (U11 86 40).toNat))), .inr (.inr 107)], (am_sh, am_mm U12)) R
      refine eu_iast 107 (n := 32) rfl (by decide) rfl (fun _ => rfl) ha2a1aa.1 ?_
      have ha2a1aaa := ha2a1aa.2
      refine ev_seg (σ1 := ((d + 1), 194, 63, [some (.inr (.inr 86)), some (.inl (w32 ((w32 (16 * (U11 86 40))) + (U11 106 (U11 86 40).toNat))))], [.inl 1, .inr (.inr 86), .inl (w32 ((w32 (16 * (U11 86 40))) + (U11 106 (U11 86 40).toNat))), .inr (.inr 108)], (am_sh, am_mm (am_upd U12 107 (w32 ((w32 (16 * (U11 86 40))) + (U11 106 (U11 86 40).toNat))).toNat r12)))) 5 (fun _ => rfl) ?_
      obtain ⟨r13, U13, ha2a1aaac, ha2a1aaaa⟩ := ha2a1aaa
      refine ev_cal (σc := (d, 269, 0, [some (.inr (.inr 86)), some (.inl 1), none], [], (am_sh, am_mm (am_upd U12 107 (w32 ((w32 (16 * (U11 86 40))) + (U11 106 (U11 86 40).toNat))).toNat r12)))) (fun _ => rfl) ha2a1aaac ?_
      show Ev kz ((d + 1), 194, 66, [some (.inr (.inr 86)), some (.inl (w32 ((w32 (16 * (U11 86 40))) + (U11 106 (U11 86 40).toNat))))], [.inl r13, .inl (w32 ((w32 (16 * (U11 86 40))) + (U11 106 (U11 86 40).toNat))), .inr (.inr 108)], (am_sh, am_mm U13)) R
      refine eu_iast 108 (n := 32) rfl (by decide) rfl (fun _ => rfl) ha2a1aaaa.1 ?_
      have ha2a1aaaaa := ha2a1aaaa.2
      refine ev_br (P := ¬ ((am_upd U13 108 (w32 ((w32 (16 * (U11 86 40))) + (U11 106 (U11 86 40).toNat))).toNat r13) 86 8) = 0) (σ1 := ((d + 1), 194, 98, [some (.inr (.inr 86)), some (.inl (w32 ((w32 (16 * (U11 86 40))) + (U11 106 (U11 86 40).toNat))))], [], (am_sh, am_mm (am_upd U13 108 (w32 ((w32 (16 * (U11 86 40))) + (U11 106 (U11 86 40).toNat))).toNat r13)))) (σ2 := ((d + 1), 194, 74, [some (.inr (.inr 86)), some (.inl (w32 ((w32 (16 * (U11 86 40))) + (U11 106 (U11 86 40).toNat))))], [], (am_sh, am_mm (am_upd U13 108 (w32 ((w32 (16 * (U11 86 40))) + (U11 106 (U11 86 40).toNat))).toNat r13)))) 3 (fun _ => rfl) (fun hc => ?_) (fun hc => ?_)
      · have ha2a1aaaaa1 := ha2a1aaaaa.1 hc
        refine ev_br (P := ((am_upd U13 108 (w32 ((w32 (16 * (U11 86 40))) + (U11 106 (U11 86 40).toNat))).toNat r13) 86 8) ≤ 0) (σ1 := ((d + 1), 194, 106, [some (.inr (.inr 86)), some (.inl (w32 ((w32 (16 * (U11 86 40))) + (U11 106 (U11 86 40).toNat))))], [], (am_sh, am_mm (am_upd U13 108 (w32 ((w32 (16 * (U11 86 40))) + (U11 106 (U11 86 40).toNat))).toNat r13)))) (σ2 := ((d + 1), 194, 105, [some (.inr (.inr 86)), some (.inl (w32 ((w32 (16 * (U11 86 40))) + (U11 106 (U11 86 40).toNat))))], [], (am_sh, am_mm (am_upd U13 108 (w32 ((w32 (16 * (U11 86 40))) + (U11 106 (U11 86 40).toNat))).toNat r13)))) 3 (fun _ => rfl) (fun hc => ?_) (fun hc => ?_)
        · have ha2a1aaaaa11 := ha2a1aaaaa1.1 hc
          refine ev_seg (σ1 := ((d + 1), 194, 107, [some (.inr (.inr 86)), some (.inl (w32 ((w32 (16 * (U11 86 40))) + (U11 106 (U11 86 40).toNat))))], [.inr (.inr 86)], (am_sh, am_mm (am_upd U13 108 (w32 ((w32 (16 * (U11 86 40))) + (U11 106 (U11 86 40).toNat))).toNat r13)))) 1 (fun _ => rfl) ?_
          obtain ⟨U14, ha2a1aaaaa11c, ha2a1aaaaa11a⟩ := ha2a1aaaaa11
          refine ev_cal (σc := (d, 93, 0, [some (.inr (.inr 86)), none, none, none, none, none], [], (am_sh, am_mm (am_upd U13 108 (w32 ((w32 (16 * (U11 86 40))) + (U11 106 (U11 86 40).toNat))).toNat r13)))) (fun _ => rfl) ha2a1aaaaa11c ?_
          show Ev kz ((d + 1), 194, 110, [some (.inr (.inr 86)), some (.inl (w32 ((w32 (16 * (U11 86 40))) + (U11 106 (U11 86 40).toNat))))], [], (am_sh, am_mm U14)) R
          refine ev_seg (σ1 := ((d + 1), 194, 120, [some (.inr (.inr 86)), some (.inl (w32 ((w32 (16 * (U11 86 40))) + (U11 106 (U11 86 40).toNat))))], [.inl 9999, .inl 1, .inr (.inr 86), .inl (w32 ((w32 (16 * (U11 86 40))) + (U11 106 (U11 86 40).toNat))), .inr (.inr 109)], (am_sh, am_mm U14))) 6 (fun _ => rfl) ?_
          obtain ⟨r15, U15, ha2a1aaaaa11ac, ha2a1aaaaa11aa⟩ := ha2a1aaaaa11a
          refine ev_cal (σc := (d, 268, 0, [some (.inr (.inr 86)), some (.inl 1), some (.inl 9999), none], [], (am_sh, am_mm U14))) (fun _ => rfl) ha2a1aaaaa11ac ?_
          show Ev kz ((d + 1), 194, 123, [some (.inr (.inr 86)), some (.inl (w32 ((w32 (16 * (U11 86 40))) + (U11 106 (U11 86 40).toNat))))], [.inl r15, .inl (w32 ((w32 (16 * (U11 86 40))) + (U11 106 (U11 86 40).toNat))), .inr (.inr 109)], (am_sh, am_mm U15)) R
          refine eu_iast 109 (n := 32) rfl (by decide) rfl (fun _ => rfl) ha2a1aaaaa11aa.1 ?_
          have ha2a1aaaaa11aaa := ha2a1aaaaa11aa.2
          refine ev_br (P := ¬ ((am_upd U15 109 (w32 ((w32 (16 * (U11 86 40))) + (U11 106 (U11 86 40).toNat))).toNat r15) 86 8) = 0) (σ1 := ((d + 1), 194, 144, [some (.inr (.inr 86)), some (.inl (w32 ((w32 (16 * (U11 86 40))) + (U11 106 (U11 86 40).toNat))))], [], (am_sh, am_mm (am_upd U15 109 (w32 ((w32 (16 * (U11 86 40))) + (U11 106 (U11 86 40).toNat))).toNat r15)))) (σ2 := ((d + 1), 194, 131, [some (.inr (.inr 86)), some (.inl (w32 ((w32 (16 * (U11 86 40))) + (U11 106 (U11 86 40).toNat))))], [], (am_sh, am_mm (am_upd U15 109 (w32 ((w32 (16 * (U11 86 40))) + (U11 106 (U11 86 40).toNat))).toNat r15)))) 3 (fun _ => rfl) (fun hc => ?_) (fun hc => ?_)
          · have ha2a1aaaaa11aaa1 := ha2a1aaaaa11aaa.1 hc
            subst ha2a1aaaaa11aaa1
            exact ev_end 1 (fun _ => rfl)
          · have ha2a1aaaaa11aaa2 := ha2a1aaaaa11aaa.2 hc
            refine ev_seg (σ1 := ((d + 1), 194, 140, [some (.inr (.inr 86)), some (.inl (w32 ((w32 (16 * (U11 86 40))) + (U11 106 (U11 86 40).toNat))))], [.inl ((am_upd U15 109 (w32 ((w32 (16 * (U11 86 40))) + (U11 106 (U11 86 40).toNat))).toNat r15) 86 40), .inr (.inr 106), .inl ((am_upd U15 109 (w32 ((w32 (16 * (U11 86 40))) + (U11 106 (U11 86 40).toNat))).toNat r15) 86 40), .inr (.inr 106)], (am_sh, am_mm (am_upd U15 109 (w32 ((w32 (16 * (U11 86 40))) + (U11 106 (U11 86 40).toNat))).toNat r15)))) 5 (fun _ => rfl) ?_
            refine eu_iald 106 (n := 2) rfl (by decide) rfl (fun _ => rfl) ha2a1aaaaa11aaa2.1 ?_
            have ha2a1aaaaa11aaa2a := ha2a1aaaaa11aaa2.2
            refine ev_seg (σ1 := ((d + 1), 194, 143, [some (.inr (.inr 86)), some (.inl (w32 ((w32 (16 * (U11 86 40))) + (U11 106 (U11 86 40).toNat))))], [.inl (w32 (((am_upd U15 109 (w32 ((w32 (16 * (U11 86 40))) + (U11 106 (U11 86 40).toNat))).toNat r15) 106 ((am_upd U15 109 (w32 ((w32 (16 * (U11 86 40))) + (U11 106 (U11 86 40).toNat))).toNat r15) 86 40).toNat) + 1)), .inl ((am_upd U15 109 (w32 ((w32 (16 * (U11 86 40))) + (U11 106 (U11 86 40).toNat))).toNat r15) 86 40), .inr (.inr 106)], (am_sh, am_mm (am_upd U15 109 (w32 ((w32 (16 * (U11 86 40))) + (U11 106 (U11 86 40).toNat))).toNat r15)))) 2 (fun _ => rfl) ?_
            refine eu_iast 106 (n := 2) rfl (by decide) rfl (fun _ => rfl) ha2a1aaaaa11aaa2a.1 ?_
            have ha2a1aaaaa11aaa2aa := ha2a1aaaaa11aaa2a.2
            subst ha2a1aaaaa11aaa2aa
            exact ev_end 1 (fun _ => rfl)
        · have ha2a1aaaaa12 := ha2a1aaaaa1.2 hc
          subst ha2a1aaaaa12
          exact ev_end 1 (fun _ => rfl)
      · have ha2a1aaaaa2 := ha2a1aaaaa.2 hc
        refine ev_seg (σ1 := ((d + 1), 194, 79, [some (.inr (.inr 86)), some (.inl (w32 ((w32 (16 * (U11 86 40))) + (U11 106 (U11 86 40).toNat))))], [.inl (w32 ((w32 (16 * (U11 86 40))) + (U11 106 (U11 86 40).toNat))), .inr (.inr 107)], (am_sh, am_mm (am_upd U13 108 (w32 ((w32 (16 * (U11 86 40))) + (U11 106 (U11 86 40).toNat))).toNat r13)))) 3 (fun _ => rfl) ?_
        refine eu_iald 107 (n := 32) rfl (by decide) rfl (fun _ => rfl) ha2a1aaaaa2.1 ?_
        have ha2a1aaaaa2a := ha2a1aaaaa2.2
        refine ev_seg (σ1 := ((d + 1), 194, 85, [some (.inr (.inr 86)), some (.inl (w32 ((w32 (16 * (U11 86 40))) + (U11 106 (U11 86 40).toNat))))], [.inl (w32 ((w32 (16 * (U11 86 40))) + (U11 106 (U11 86 40).toNat))), .inr (.inr 108), .inl ((am_upd U13 108 (w32 ((w32 (16 * (U11 86 40))) + (U11 106 (U11 86 40).toNat))).toNat r13) 107 (w32 ((w32 (16 * (U11 86 40))) + (U11 106 (U11 86 40).toNat))).toNat)], (am_sh, am_mm (am_upd U13 108 (w32 ((w32 (16 * (U11 86 40))) + (U11 106 (U11 86 40).toNat))).toNat r13)))) 3 (fun _ => rfl) ?_
        refine eu_iald 108 (n := 32) rfl (by decide) rfl (fun _ => rfl) ha2a1aaaaa2a.1 ?_
        have ha2a1aaaaa2aa := ha2a1aaaaa2a.2
        refine ev_br (P := ¬ ((am_upd U13 108 (w32 ((w32 (16 * (U11 86 40))) + (U11 106 (U11 86 40).toNat))).toNat r13) 107 (w32 ((w32 (16 * (U11 86 40))) + (U11 106 (U11 86 40).toNat))).toNat) = ((am_upd U13 108 (w32 ((w32 (16 * (U11 86 40))) + (U11 106 (U11 86 40).toNat))).toNat r13) 108 (w32 ((w32 (16 * (U11 86 40))) + (U11 106 (U11 86 40).toNat))).toNat)) (σ1 := ((d + 1), 194, 98, [some (.inr (.inr 86)), some (.inl (w32 ((w32 (16 * (U11 86 40))) + (U11 106 (U11 86 40).toNat))))], [], (am_sh, am_mm (am_upd U13 108 (w32 ((w32 (16 * (U11 86 40))) + (U11 106 (U11 86 40).toNat))).toNat r13)))) (σ2 := ((d + 1), 194, 89, [some (.inr (.inr 86)), some (.inl (w32 ((w32 (16 * (U11 86 40))) + (U11 106 (U11 86 40).toNat))))], [], (am_sh, am_mm (am_upd U13 108 (w32 ((w32 (16 * (U11 86 40))) + (U11 106 (U11 86 40).toNat))).toNat r13)))) 1 (fun _ => rfl) (fun hc => ?_) (fun hc => ?_)
        · have ha2a1aaaaa2aa1 := ha2a1aaaaa2aa.1 hc
          refine ev_br (P := ((am_upd U13 108 (w32 ((w32 (16 * (U11 86 40))) + (U11 106 (U11 86 40).toNat))).toNat r13) 86 8) ≤ 0) (σ1 := ((d + 1), 194, 106, [some (.inr (.inr 86)), some (.inl (w32 ((w32 (16 * (U11 86 40))) + (U11 106 (U11 86 40).toNat))))], [], (am_sh, am_mm (am_upd U13 108 (w32 ((w32 (16 * (U11 86 40))) + (U11 106 (U11 86 40).toNat))).toNat r13)))) (σ2 := ((d + 1), 194, 105, [some (.inr (.inr 86)), some (.inl (w32 ((w32 (16 * (U11 86 40))) + (U11 106 (U11 86 40).toNat))))], [], (am_sh, am_mm (am_upd U13 108 (w32 ((w32 (16 * (U11 86 40))) + (U11 106 (U11 86 40).toNat))).toNat r13)))) 3 (fun _ => rfl) (fun hc => ?_) (fun hc => ?_)
          · have ha2a1aaaaa2aa11 := ha2a1aaaaa2aa1.1 hc
            refine ev_seg (σ1 := ((d + 1), 194, 107, [some (.inr (.inr 86)), some (.inl (w32 ((w32 (16 * (U11 86 40))) + (U11 106 (U11 86 40).toNat))))], [.inr (.inr 86)], (am_sh, am_mm (am_upd U13 108 (w32 ((w32 (16 * (U11 86 40))) + (U11 106 (U11 86 40).toNat))).toNat r13)))) 1 (fun _ => rfl) ?_
            obtain ⟨U16, ha2a1aaaaa2aa11c, ha2a1aaaaa2aa11a⟩ := ha2a1aaaaa2aa11
            refine ev_cal (σc := (d, 93, 0, [some (.inr (.inr 86)), none, none, none, none, none], [], (am_sh, am_mm (am_upd U13 108 (w32 ((w32 (16 * (U11 86 40))) + (U11 106 (U11 86 40).toNat))).toNat r13)))) (fun _ => rfl) ha2a1aaaaa2aa11c ?_
            show Ev kz ((d + 1), 194, 110, [some (.inr (.inr 86)), some (.inl (w32 ((w32 (16 * (U11 86 40))) + (U11 106 (U11 86 40).toNat))))], [], (am_sh, am_mm U16)) R
            refine ev_seg (σ1 := ((d + 1), 194, 120, [some (.inr (.inr 86)), some (.inl (w32 ((w32 (16 * (U11 86 40))) + (U11 106 (U11 86 40).toNat))))], [.inl 9999, .inl 1, .inr (.inr 86), .inl (w32 ((w32 (16 * (U11 86 40))) + (U11 106 (U11 86 40).toNat))), .inr (.inr 109)], (am_sh, am_mm U16))) 6 (fun _ => rfl) ?_
            obtain ⟨r17, U17, ha2a1aaaaa2aa11ac, ha2a1aaaaa2aa11aa⟩ := ha2a1aaaaa2aa11a
            refine ev_cal (σc := (d, 268, 0, [some (.inr (.inr 86)), some (.inl 1), some (.inl 9999), none], [], (am_sh, am_mm U16))) (fun _ => rfl) ha2a1aaaaa2aa11ac ?_
            show Ev kz ((d + 1), 194, 123, [some (.inr (.inr 86)), some (.inl (w32 ((w32 (16 * (U11 86 40))) + (U11 106 (U11 86 40).toNat))))], [.inl r17, .inl (w32 ((w32 (16 * (U11 86 40))) + (U11 106 (U11 86 40).toNat))), .inr (.inr 109)], (am_sh, am_mm U17)) R
            refine eu_iast 109 (n := 32) rfl (by decide) rfl (fun _ => rfl) ha2a1aaaaa2aa11aa.1 ?_
            have ha2a1aaaaa2aa11aaa := ha2a1aaaaa2aa11aa.2
            refine ev_br (P := ¬ ((am_upd U17 109 (w32 ((w32 (16 * (U11 86 40))) + (U11 106 (U11 86 40).toNat))).toNat r17) 86 8) = 0) (σ1 := ((d + 1), 194, 144, [some (.inr (.inr 86)), some (.inl (w32 ((w32 (16 * (U11 86 40))) + (U11 106 (U11 86 40).toNat))))], [], (am_sh, am_mm (am_upd U17 109 (w32 ((w32 (16 * (U11 86 40))) + (U11 106 (U11 86 40).toNat))).toNat r17)))) (σ2 := ((d + 1), 194, 131, [some (.inr (.inr 86)), some (.inl (w32 ((w32 (16 * (U11 86 40))) + (U11 106 (U11 86 40).toNat))))], [], (am_sh, am_mm (am_upd U17 109 (w32 ((w32 (16 * (U11 86 40))) + (U11 106 (U11 86 40).toNat))).toNat r17)))) 3 (fun _ => rfl) (fun hc => ?_) (fun hc => ?_)
            · have ha2a1aaaaa2aa11aaa1 := ha2a1aaaaa2aa11aaa.1 hc
              subst ha2a1aaaaa2aa11aaa1
              exact ev_end 1 (fun _ => rfl)
            · have ha2a1aaaaa2aa11aaa2 := ha2a1aaaaa2aa11aaa.2 hc
              refine ev_seg (σ1 := ((d + 1), 194, 140, [some (.inr (.inr 86)), some (.inl (w32 ((w32 (16 * (U11 86 40))) + (U11 106 (U11 86 40).toNat))))], [.inl ((am_upd U17 109 (w32 ((w32 (16 * (U11 86 40))) + (U11 106 (U11 86 40).toNat))).toNat r17) 86 40), .inr (.inr 106), .inl ((am_upd U17 109 (w32 ((w32 (16 * (U11 86 40))) + (U11 106 (U11 86 40).toNat))).toNat r17) 86 40), .inr (.inr 106)], (am_sh, am_mm (am_upd U17 109 (w32 ((w32 (16 * (U11 86 40))) + (U11 106 (U11 86 40).toNat))).toNat r17)))) 5 (fun _ => rfl) ?_
              refine eu_iald 106 (n := 2) rfl (by decide) rfl (fun _ => rfl) ha2a1aaaaa2aa11aaa2.1 ?_
              have ha2a1aaaaa2aa11aaa2a := ha2a1aaaaa2aa11aaa2.2
              refine ev_seg (σ1 := ((d + 1), 194, 143, [some (.inr (.inr 86)), some (.inl (w32 ((w32 (16 * (U11 86 40))) + (U11 106 (U11 86 40).toNat))))], [.inl (w32 (((am_upd U17 109 (w32 ((w32 (16 * (U11 86 40))) + (U11 106 (U11 86 40).toNat))).toNat r17) 106 ((am_upd U17 109 (w32 ((w32 (16 * (U11 86 40))) + (U11 106 (U11 86 40).toNat))).toNat r17) 86 40).toNat) + 1)), .inl ((am_upd U17 109 (w32 ((w32 (16 * (U11 86 40))) + (U11 106 (U11 86 40).toNat))).toNat r17) 86 40), .inr (.inr 106)], (am_sh, am_mm (am_upd U17 109 (w32 ((w32 (16 * (U11 86 40))) + (U11 106 (U11 86 40).toNat))).toNat r17)))) 2 (fun _ => rfl) ?_
              refine eu_iast 106 (n := 2) rfl (by decide) rfl (fun _ => rfl) ha2a1aaaaa2aa11aaa2a.1 ?_
              have ha2a1aaaaa2aa11aaa2aa := ha2a1aaaaa2aa11aaa2a.2
              subst ha2a1aaaaa2aa11aaa2aa
              exact ev_end 1 (fun _ => rfl)
          · have ha2a1aaaaa2aa12 := ha2a1aaaaa2aa1.2 hc
            subst ha2a1aaaaa2aa12
            exact ev_end 1 (fun _ => rfl)
        · have ha2a1aaaaa2aa2 := ha2a1aaaaa2aa.2 hc
          refine ev_seg (σ1 := ((d + 1), 194, 95, [some (.inr (.inr 86)), some (.inl (w32 ((w32 (16 * (U11 86 40))) + (U11 106 (U11 86 40).toNat))))], [.inl ((am_upd U13 108 (w32 ((w32 (16 * (U11 86 40))) + (U11 106 (U11 86 40).toNat))).toNat r13) 86 4), .inl 3, .inr (.inr 86)], (am_sh, am_mm (am_upd U13 108 (w32 ((w32 (16 * (U11 86 40))) + (U11 106 (U11 86 40).toNat))).toNat r13)))) 4 (fun _ => rfl) ?_
          obtain ⟨U18, ha2a1aaaaa2aa2c, ha2a1aaaaa2aa2a⟩ := ha2a1aaaaa2aa2
          refine ev_cal (σc := (d, 196, 0, [some (.inr (.inr 86)), some (.inl 3), some (.inl ((am_upd U13 108 (w32 ((w32 (16 * (U11 86 40))) + (U11 106 (U11 86 40).toNat))).toNat r13) 86 4))], [], (am_sh, am_mm (am_upd U13 108 (w32 ((w32 (16 * (U11 86 40))) + (U11 106 (U11 86 40).toNat))).toNat r13)))) (fun _ => rfl) ha2a1aaaaa2aa2c ?_
          show Ev kz ((d + 1), 194, 98, [some (.inr (.inr 86)), some (.inl (w32 ((w32 (16 * (U11 86 40))) + (U11 106 (U11 86 40).toNat))))], [], (am_sh, am_mm U18)) R
          refine ev_br (P := (U18 86 8) ≤ 0) (σ1 := ((d + 1), 194, 106, [some (.inr (.inr 86)), some (.inl (w32 ((w32 (16 * (U11 86 40))) + (U11 106 (U11 86 40).toNat))))], [], (am_sh, am_mm U18))) (σ2 := ((d + 1), 194, 105, [some (.inr (.inr 86)), some (.inl (w32 ((w32 (16 * (U11 86 40))) + (U11 106 (U11 86 40).toNat))))], [], (am_sh, am_mm U18))) 3 (fun _ => rfl) (fun hc => ?_) (fun hc => ?_)
          · have ha2a1aaaaa2aa2a1 := ha2a1aaaaa2aa2a.1 hc
            refine ev_seg (σ1 := ((d + 1), 194, 107, [some (.inr (.inr 86)), some (.inl (w32 ((w32 (16 * (U11 86 40))) + (U11 106 (U11 86 40).toNat))))], [.inr (.inr 86)], (am_sh, am_mm U18))) 1 (fun _ => rfl) ?_
            obtain ⟨U19, ha2a1aaaaa2aa2a1c, ha2a1aaaaa2aa2a1a⟩ := ha2a1aaaaa2aa2a1
            refine ev_cal (σc := (d, 93, 0, [some (.inr (.inr 86)), none, none, none, none, none], [], (am_sh, am_mm U18))) (fun _ => rfl) ha2a1aaaaa2aa2a1c ?_
            show Ev kz ((d + 1), 194, 110, [some (.inr (.inr 86)), some (.inl (w32 ((w32 (16 * (U11 86 40))) + (U11 106 (U11 86 40).toNat))))], [], (am_sh, am_mm U19)) R
            refine ev_seg (σ1 := ((d + 1), 194, 120, [some (.inr (.inr 86)), some (.inl (w32 ((w32 (16 * (U11 86 40))) + (U11 106 (U11 86 40).toNat))))], [.inl 9999, .inl 1, .inr (.inr 86), .inl (w32 ((w32 (16 * (U11 86 40))) + (U11 106 (U11 86 40).toNat))), .inr (.inr 109)], (am_sh, am_mm U19))) 6 (fun _ => rfl) ?_
            obtain ⟨r20, U20, ha2a1aaaaa2aa2a1ac, ha2a1aaaaa2aa2a1aa⟩ := ha2a1aaaaa2aa2a1a
            refine ev_cal (σc := (d, 268, 0, [some (.inr (.inr 86)), some (.inl 1), some (.inl 9999), none], [], (am_sh, am_mm U19))) (fun _ => rfl) ha2a1aaaaa2aa2a1ac ?_
            show Ev kz ((d + 1), 194, 123, [some (.inr (.inr 86)), some (.inl (w32 ((w32 (16 * (U11 86 40))) + (U11 106 (U11 86 40).toNat))))], [.inl r20, .inl (w32 ((w32 (16 * (U11 86 40))) + (U11 106 (U11 86 40).toNat))), .inr (.inr 109)], (am_sh, am_mm U20)) R
            refine eu_iast 109 (n := 32) rfl (by decide) rfl (fun _ => rfl) ha2a1aaaaa2aa2a1aa.1 ?_
            have ha2a1aaaaa2aa2a1aaa := ha2a1aaaaa2aa2a1aa.2
            refine ev_br (P := ¬ ((am_upd U20 109 (w32 ((w32 (16 * (U11 86 40))) + (U11 106 (U11 86 40).toNat))).toNat r20) 86 8) = 0) (σ1 := ((d + 1), 194, 144, [some (.inr (.inr 86)), some (.inl (w32 ((w32 (16 * (U11 86 40))) + (U11 106 (U11 86 40).toNat))))], [], (am_sh, am_mm (am_upd U20 109 (w32 ((w32 (16 * (U11 86 40))) + (U11 106 (U11 86 40).toNat))).toNat r20)))) (σ2 := ((d + 1), 194, 131, [some (.inr (.inr 86)), some (.inl (w32 ((w32 (16 * (U11 86 40))) + (U11 106 (U11 86 40).toNat))))], [], (am_sh, am_mm (am_upd U20 109 (w32 ((w32 (16 * (U11 86 40))) + (U11 106 (U11 86 40).toNat))).toNat r20)))) 3 (fun _ => rfl) (fun hc => ?_) (fun hc => ?_)
            · have ha2a1aaaaa2aa2a1aaa1 := ha2a1aaaaa2aa2a1aaa.1 hc
              subst ha2a1aaaaa2aa2a1aaa1
              exact ev_end 1 (fun _ => rfl)
            · have ha2a1aaaaa2aa2a1aaa2 := ha2a1aaaaa2aa2a1aaa.2 hc
              refine ev_seg (σ1 := ((d + 1), 194, 140, [some (.inr (.inr 86)), some (.inl (w32 ((w32 (16 * (U11 86 40))) + (U11 106 (U11 86 40).toNat))))], [.inl ((am_upd U20 109 (w32 ((w32 (16 * (U11 86 40))) + (U11 106 (U11 86 40).toNat))).toNat r20) 86 40), .inr (.inr 106), .inl ((am_upd U20 109 (w32 ((w32 (16 * (U11 86 40))) + (U11 106 (U11 86 40).toNat))).toNat r20) 86 40), .inr (.inr 106)], (am_sh, am_mm (am_upd U20 109 (w32 ((w32 (16 * (U11 86 40))) + (U11 106 (U11 86 40).toNat))).toNat r20)))) 5 (fun _ => rfl) ?_
              refine eu_iald 106 (n := 2) rfl (by decide) rfl (fun _ => rfl) ha2a1aaaaa2aa2a1aaa2.1 ?_
              have ha2a1aaaaa2aa2a1aaa2a := ha2a1aaaaa2aa2a1aaa2.2
              refine ev_seg (σ1 := ((d + 1), 194, 143, [some (.inr (.inr 86)), some (.inl (w32 ((w32 (16 * (U11 86 40))) + (U11 106 (U11 86 40).toNat))))], [.inl (w32 (((am_upd U20 109 (w32 ((w32 (16 * (U11 86 40))) + (U11 106 (U11 86 40).toNat))).toNat r20) 106 ((am_upd U20 109 (w32 ((w32 (16 * (U11 86 40))) + (U11 106 (U11 86 40).toNat))).toNat r20) 86 40).toNat) + 1)), .inl ((am_upd U20 109 (w32 ((w32 (16 * (U11 86 40))) + (U11 106 (U11 86 40).toNat))).toNat r20) 86 40), .inr (.inr 106)], (am_sh, am_mm (am_upd U20 109 (w32 ((w32 (16 * (U11 86 40))) + (U11 106 (U11 86 40).toNat))).toNat r20)))) 2 (fun _ => rfl) ?_
              refine eu_iast 106 (n := 2) rfl (by decide) rfl (fun _ => rfl) ha2a1aaaaa2aa2a1aaa2a.1 ?_
              have ha2a1aaaaa2aa2a1aaa2aa := ha2a1aaaaa2aa2a1aaa2a.2
              subst ha2a1aaaaa2aa2a1aaa2aa
              exact ev_end 1 (fun _ => rfl)
          · have ha2a1aaaaa2aa2a2 := ha2a1aaaaa2aa2a.2 hc
            subst ha2a1aaaaa2aa2a2
            exact ev_end 1 (fun _ => rfl)
    · have ha2a2 := ha2a.2 hc
      subst ha2a2
      exact ev_end 1 (fun _ => rfl)
theorem st192_86_0 (kz : am_Z) (d : Nat) (U : Nat → Nat → Int) (R : Option am_V × am_M) (h : (0 ≤ (U 86 40) ∧ (U 86 40) < 2) ∧ (((¬ (U 100 (U 86 40).toNat) = 8 : Prop)) → ∃ (r1 : Int) (U1 : Nat → Nat → Int), Ev kz (d, 264, 0, [some (.inr (.inr 86)), some (.inl 0)], [], (am_sh, am_mm U)) (some (.inl r1), (am_sh, am_mm U1)) ∧ (((¬ r1 = 0 : Prop)) → (0 ≤ (U1 86 40) ∧ (U1 86 40) < 2) ∧ ∃ U2 : Nat → Nat → Int, Ev kz (d, 186, 0, [some (.inr (.inr 86))], [], (am_sh, am_mm U1)) (none, (am_sh, am_mm U2)) ∧ ((((U2 86 8) ≤ 0 : Prop)) → ∃ (r3 : Int) (U3 : Nat → Nat → Int), Ev kz (d, 187, 0, [some (.inr (.inr 86)), some (.inr (.inl 1700881256)), none], [], (am_sh, am_mm U2)) (some (.inl r3), (am_sh, am_mm U3)) ∧ (((r3 = 0 : Prop)) → ∃ (r4 : Int) (U4 : Nat → Nat → Int), Ev kz (d, 187, 0, [some (.inr (.inr 86)), some (.inr (.inl 108187867505765)), none], [], (am_sh, am_mm U3)) (some (.inl r4), (am_sh, am_mm U4)) ∧ (((r4 = 0 : Prop)) → ∃ (r5 : Int) (U5 : Nat → Nat → Int), Ev kz (d, 187, 0, [some (.inr (.inr 86)), some (.inr (.inl 131294808271214)), none], [], (am_sh, am_mm U4)) (some (.inl r5), (am_sh, am_mm U5)) ∧ (((r5 = 0 : Prop)) → Ev kz ((d + 1), 192, 105, [some (.inr (.inr 86)), some (.inl (w32 ((w32 (8 * (U1 86 40))) + (U1 100 (U1 86 40).toNat))))], [.inl (-1), .inl (w32 ((w32 (8 * (U1 86 40))) + (U1 100 (U1 86 40).toNat))), .inr (.inr 101)], (am_sh, am_mm U5)) R) ∧ (¬ (r5 = 0) → Ev kz ((d + 1), 192, 105, [some (.inr (.inr 86)), some (.inl (w32 ((w32 (8 * (U1 86 40))) + (U1 100 (U1 86 40).toNat))))], [.inl 2, .inl (w32 ((w32 (8 * (U1 86 40))) + (U1 100 (U1 86 40).toNat))), .inr (.inr 101)], (am_sh, am_mm U5)) R)) ∧ (¬ (r4 = 0) → Ev kz ((d + 1), 192, 105, [some (.inr (.inr 86)), some (.inl (w32 ((w32 (8 * (U1 86 40))) + (U1 100 (U1 86 40).toNat))))], [.inl 1, .inl (w32 ((w32 (8 * (U1 86 40))) + (U1 100 (U1 86 40).toNat))), .inr (.inr 101)], (am_sh, am_mm U4)) R)) ∧ (¬ (r3 = 0) → Ev kz ((d + 1), 192, 105, [some (.inr (.inr 86)), some (.inl (w32 ((w32 (8 * (U1 86 40))) + (U1 100 (U1 86 40).toNat))))], [.inl 0, .inl (w32 ((w32 (8 * (U1 86 40))) + (U1 100 (U1 86 40).toNat))), .inr (.inr 101)], (am_sh, am_mm U3)) R)) ∧ (¬ ((U2 86 8) ≤ 0) → R = (none, (am_sh, am_mm U2)))) ∧ (¬ (¬ r1 = 0) → R = (none, (am_sh, am_mm U1)))) ∧ (¬ (¬ (U 100 (U 86 40).toNat) = 8) → ∃ (r6 : Int) (U6 : Nat → Nat → Int), Ev kz (d, 264, 0, [some (.inr (.inr 86)), some (.inl 1)], [], (am_sh, am_mm U)) (some (.inl r6), (am_sh, am_mm U6)) ∧ (((¬ r6 = 0 : Prop)) → (0 ≤ (U6 86 40) ∧ (U6 86 40) < 2) ∧ ∃ U7 : Nat → Nat → Int, Ev kz (d, 186, 0, [some (.inr (.inr 86))], [], (am_sh, am_mm U6)) (none, (am_sh, am_mm U7)) ∧ ((((U7 86 8) ≤ 0 : Prop)) → ∃ (r8 : Int) (U8 : Nat → Nat → Int), Ev kz (d, 187, 0, [some (.inr (.inr 86)), some (.inr (.inl 1700881256)), none], [], (am_sh, am_mm U7)) (some (.inl r8), (am_sh, am_mm U8)) ∧ (((r8 = 0 : Prop)) → ∃ (r9 : Int) (U9 : Nat → Nat → Int), Ev kz (d, 187, 0, [some (.inr (.inr 86)), some (.inr (.inl 108187867505765)), none], [], (am_sh, am_mm U8)) (some (.inl r9), (am_sh, am_mm U9)) ∧ (((r9 = 0 : Prop)) → ∃ (r10 : Int) (U10 : Nat → Nat → Int), Ev kz (d, 187, 0, [some (.inr (.inr 86)), some (.inr (.inl 131294808271214)), none], [], (am_sh, am_mm U9)) (some (.inl r10), (am_sh, am_mm U10)) ∧ (((r10 = 0 : Prop)) → Ev kz ((d + 1), 192, 105, [some (.inr (.inr 86)), some (.inl (w32 ((w32 (8 * (U6 86 40))) + (U6 100 (U6 86 40).toNat))))], [.inl (-1), .inl (w32 ((w32 (8 * (U6 86 40))) + (U6 100 (U6 86 40).toNat))), .inr (.inr 101)], (am_sh, am_mm U10)) R) ∧ (¬ (r10 = 0) → Ev kz ((d + 1), 192, 105, [some (.inr (.inr 86)), some (.inl (w32 ((w32 (8 * (U6 86 40))) + (U6 100 (U6 86 40).toNat))))], [.inl 2, .inl (w32 ((w32 (8 * (U6 86 40))) + (U6 100 (U6 86 40).toNat))), .inr (.inr 101)], (am_sh, am_mm U10)) R)) ∧ (¬ (r9 = 0) → Ev kz ((d + 1), 192, 105, [some (.inr (.inr 86)), some (.inl (w32 ((w32 (8 * (U6 86 40))) + (U6 100 (U6 86 40).toNat))))], [.inl 1, .inl (w32 ((w32 (8 * (U6 86 40))) + (U6 100 (U6 86 40).toNat))), .inr (.inr 101)], (am_sh, am_mm U9)) R)) ∧ (¬ (r8 = 0) → Ev kz ((d + 1), 192, 105, [some (.inr (.inr 86)), some (.inl (w32 ((w32 (8 * (U6 86 40))) + (U6 100 (U6 86 40).toNat))))], [.inl 0, .inl (w32 ((w32 (8 * (U6 86 40))) + (U6 100 (U6 86 40).toNat))), .inr (.inr 101)], (am_sh, am_mm U8)) R)) ∧ (¬ ((U7 86 8) ≤ 0) → R = (none, (am_sh, am_mm U7)))) ∧ (¬ (¬ r6 = 0) → R = (none, (am_sh, am_mm U6))))) : Ev kz ((d + 1), 192, 0, [some (.inr (.inr 86)), none], [], (am_sh, am_mm U)) R := by
  refine ev_seg (σ1 := ((d + 1), 192, 9, [some (.inr (.inr 86)), none], [.inl (U 86 40), .inr (.inr 100), .inr (.inr 86)], (am_sh, am_mm U))) 5 (fun _ => rfl) ?_
  refine eu_iald 100 (n := 2) rfl (by decide) rfl (fun _ => rfl) h.1 ?_
  have ha := h.2
  refine ev_br (P := ¬ (U 100 (U 86 40).toNat) = 8) (σ1 := ((d + 1), 192, 19, [some (.inr (.inr 86)), none], [.inr (.inr 86)], (am_sh, am_mm U))) (σ2 := ((d + 1), 192, 15, [some (.inr (.inr 86)), none], [.inr (.inr 86)], (am_sh, am_mm U))) 2 (fun _ => rfl) (fun hc => ?_) (fun hc => ?_)
  · have ha1 := ha.1 hc
    refine ev_seg (σ1 := ((d + 1), 192, 20, [some (.inr (.inr 86)), none], [.inl 0, .inr (.inr 86)], (am_sh, am_mm U))) 1 (fun _ => rfl) ?_
    obtain ⟨r1, U1, ha1c, ha1a⟩ := ha1
    refine ev_cal (σc := (d, 264, 0, [some (.inr (.inr 86)), some (.inl 0)], [], (am_sh, am_mm U))) (fun _ => rfl) ha1c ?_
    show Ev kz ((d + 1), 192, 23, [some (.inr (.inr 86)), none], [.inl r1], (am_sh, am_mm U1)) R
    refine ev_br (P := ¬ r1 = 0) (σ1 := ((d + 1), 192, 27, [some (.inr (.inr 86)), none], [], (am_sh, am_mm U1))) (σ2 := ((d + 1), 192, 26, [some (.inr (.inr 86)), none], [], (am_sh, am_mm U1))) 1 (fun _ => rfl) (fun hc => ?_) (fun hc => ?_)
    · have ha1a1 := ha1a.1 hc
      refine ev_seg (σ1 := ((d + 1), 192, 42, [some (.inr (.inr 86)), none], [.inl (U1 86 40), .inr (.inr 100), .inl (w32 (8 * (U1 86 40)))], (am_sh, am_mm U1))) 8 (fun _ => rfl) ?_
      refine eu_iald 100 (n := 2) rfl (by decide) rfl (fun _ => rfl) ha1a1.1 ?_
      have ha1a1a := ha1a1.2
      refine ev_seg (σ1 := ((d + 1), 192, 46, [some (.inr (.inr 86)), some (.inl (w32 ((w32 (8 * (U1 86 40))) + (U1 100 (U1 86 40).toNat))))], [.inr (.inr 86)], (am_sh, am_mm U1))) 3 (fun _ => rfl) ?_
      obtain ⟨U2, ha1a1ac, ha1a1aa⟩ := ha1a1a
      refine ev_cal (σc := (d, 186, 0, [some (.inr (.inr 86))], [], (am_sh, am_mm U1))) (fun _ => rfl) ha1a1ac ?_
      show Ev kz ((d + 1), 192, 49, [some (.inr (.inr 86)), some (.inl (w32 ((w32 (8 * (U1 86 40))) + (U1 100 (U1 86 40).toNat))))], [], (am_sh, am_mm U2)) R
      refine ev_br (P := (U2 86 8) ≤ 0) (σ1 := ((d + 1), 192, 57, [some (.inr (.inr 86)), some (.inl (w32 ((w32 (8 * (U1 86 40))) + (U1 100 (U1 86 40).toNat))))], [], (am_sh, am_mm U2))) (σ2 := ((d + 1), 192, 56, [some (.inr (.inr 86)), some (.inl (w32 ((w32 (8 * (U1 86 40))) + (U1 100 (U1 86 40).toNat))))], [], (am_sh, am_mm U2))) 3 (fun _ => rfl) (fun hc => ?_) (fun hc => ?_)
      · have ha1a1aa1 := ha1a1aa.1 hc
        refine ev_seg (σ1 := ((d + 1), 192, 66, [some (.inr (.inr 86)), some (.inl (w32 ((w32 (8 * (U1 86 40))) + (U1 100 (U1 86 40).toNat))))], [.inr (.inl 1700881256), .inr (.inr 86), .inl (w32 ((w32 (8 * (U1 86 40))) + (U1 100 (U1 86 40).toNat))), .inr (.inr 101)], (am_sh, am_mm U2))) 5 (fun _ => rfl) ?_
        obtain ⟨r3, U3, ha1a1aa1c, ha1a1aa1a⟩ := ha1a1aa1
        refine ev_cal (σc := (d, 187, 0, [some (.inr (.inr 86)), some (.inr (.inl 1700881256)), none], [], (am_sh, am_mm U2))) (fun _ => rfl) ha1a1aa1c ?_
        show Ev kz ((d + 1), 192, 69, [some (.inr (.inr 86)), some (.inl (w32 ((w32 (8 * (U1 86 40))) + (U1 100 (U1 86 40).toNat))))], [.inl r3, .inl (w32 ((w32 (8 * (U1 86 40))) + (U1 100 (U1 86 40).toNat))), .inr (.inr 101)], (am_sh, am_mm U3)) R
        refine ev_br (P := r3 = 0) (σ1 := ((d + 1), 192, 76, [some (.inr (.inr 86)), some (.inl (w32 ((w32 (8 * (U1 86 40))) + (U1 100 (U1 86 40).toNat))))], [.inl (w32 ((w32 (8 * (U1 86 40))) + (U1 100 (U1 86 40).toNat))), .inr (.inr 101)], (am_sh, am_mm U3))) (σ2 := ((d + 1), 192, 72, [some (.inr (.inr 86)), some (.inl (w32 ((w32 (8 * (U1 86 40))) + (U1 100 (U1 86 40).toNat))))], [.inl (w32 ((w32 (8 * (U1 86 40))) + (U1 100 (U1 86 40).toNat))), .inr (.inr 101)], (am_sh, am_mm U3))) 1 (fun _ => rfl) (fun hc => ?_) (fun hc => ?_)
        · have ha1a1aa1a1 := ha1a1aa1a.1 hc
          refine ev_seg (σ1 := ((d + 1), 192, 80, [some (.inr (.inr 86)), some (.inl (w32 ((w32 (8 * (U1 86 40))) + (U1 100 (U1 86 40).toNat))))], [.inr (.inl 108187867505765), .inr (.inr 86), .inl (w32 ((w32 (8 * (U1 86 40))) + (U1 100 (U1 86 40).toNat))), .inr (.inr 101)], (am_sh, am_mm U3))) 2 (fun _ => rfl) ?_
          obtain ⟨r4, U4, ha1a1aa1a1c, ha1a1aa1a1a⟩ := ha1a1aa1a1
          refine ev_cal (σc := (d, 187, 0, [some (.inr (.inr 86)), some (.inr (.inl 108187867505765)), none], [], (am_sh, am_mm U3))) (fun _ => rfl) ha1a1aa1a1c ?_
          show Ev kz ((d + 1), 192, 83, [some (.inr (.inr 86)), some (.inl (w32 ((w32 (8 * (U1 86 40))) + (U1 100 (U1 86 40).toNat))))], [.inl r4, .inl (w32 ((w32 (8 * (U1 86 40))) + (U1 100 (U1 86 40).toNat))), .inr (.inr 101)], (am_sh, am_mm U4)) R
          refine ev_br (P := r4 = 0) (σ1 := ((d + 1), 192, 90, [some (.inr (.inr 86)), some (.inl (w32 ((w32 (8 * (U1 86 40))) + (U1 100 (U1 86 40).toNat))))], [.inl (w32 ((w32 (8 * (U1 86 40))) + (U1 100 (U1 86 40).toNat))), .inr (.inr 101)], (am_sh, am_mm U4))) (σ2 := ((d + 1), 192, 86, [some (.inr (.inr 86)), some (.inl (w32 ((w32 (8 * (U1 86 40))) + (U1 100 (U1 86 40).toNat))))], [.inl (w32 ((w32 (8 * (U1 86 40))) + (U1 100 (U1 86 40).toNat))), .inr (.inr 101)], (am_sh, am_mm U4))) 1 (fun _ => rfl) (fun hc => ?_) (fun hc => ?_)
          · have ha1a1aa1a1a1 := ha1a1aa1a1a.1 hc
            refine ev_seg (σ1 := ((d + 1), 192, 94, [some (.inr (.inr 86)), some (.inl (w32 ((w32 (8 * (U1 86 40))) + (U1 100 (U1 86 40).toNat))))], [.inr (.inl 131294808271214), .inr (.inr 86), .inl (w32 ((w32 (8 * (U1 86 40))) + (U1 100 (U1 86 40).toNat))), .inr (.inr 101)], (am_sh, am_mm U4))) 2 (fun _ => rfl) ?_
            obtain ⟨r5, U5, ha1a1aa1a1a1c, ha1a1aa1a1a1a⟩ := ha1a1aa1a1a1
            refine ev_cal (σc := (d, 187, 0, [some (.inr (.inr 86)), some (.inr (.inl 131294808271214)), none], [], (am_sh, am_mm U4))) (fun _ => rfl) ha1a1aa1a1a1c ?_
            show Ev kz ((d + 1), 192, 97, [some (.inr (.inr 86)), some (.inl (w32 ((w32 (8 * (U1 86 40))) + (U1 100 (U1 86 40).toNat))))], [.inl r5, .inl (w32 ((w32 (8 * (U1 86 40))) + (U1 100 (U1 86 40).toNat))), .inr (.inr 101)], (am_sh, am_mm U5)) R
            refine ev_br (P := r5 = 0) (σ1 := ((d + 1), 192, 104, [some (.inr (.inr 86)), some (.inl (w32 ((w32 (8 * (U1 86 40))) + (U1 100 (U1 86 40).toNat))))], [.inl (w32 ((w32 (8 * (U1 86 40))) + (U1 100 (U1 86 40).toNat))), .inr (.inr 101)], (am_sh, am_mm U5))) (σ2 := ((d + 1), 192, 100, [some (.inr (.inr 86)), some (.inl (w32 ((w32 (8 * (U1 86 40))) + (U1 100 (U1 86 40).toNat))))], [.inl (w32 ((w32 (8 * (U1 86 40))) + (U1 100 (U1 86 40).toNat))), .inr (.inr 101)], (am_sh, am_mm U5))) 1 (fun _ => rfl) (fun hc => ?_) (fun hc => ?_)
            · have ha1a1aa1a1a1a1 := ha1a1aa1a1a1a.1 hc
              refine ev_seg (σ1 := ((d + 1), 192, 105, [some (.inr (.inr 86)), some (.inl (w32 ((w32 (8 * (U1 86 40))) + (U1 100 (U1 86 40).toNat))))], [.inl (-1), .inl (w32 ((w32 (8 * (U1 86 40))) + (U1 100 (U1 86 40).toNat))), .inr (.inr 101)], (am_sh, am_mm U5))) 1 (fun _ => rfl) ?_
              exact ha1a1aa1a1a1a1
            · have ha1a1aa1a1a1a2 := ha1a1aa1a1a1a.2 hc
              refine ev_seg (σ1 := ((d + 1), 192, 105, [some (.inr (.inr 86)), some (.inl (w32 ((w32 (8 * (U1 86 40))) + (U1 100 (U1 86 40).toNat))))], [.inl 2, .inl (w32 ((w32 (8 * (U1 86 40))) + (U1 100 (U1 86 40).toNat))), .inr (.inr 101)], (am_sh, am_mm U5))) 2 (fun _ => rfl) ?_
              exact ha1a1aa1a1a1a2
          · have ha1a1aa1a1a2 := ha1a1aa1a1a.2 hc
            refine ev_seg (σ1 := ((d + 1), 192, 105, [some (.inr (.inr 86)), some (.inl (w32 ((w32 (8 * (U1 86 40))) + (U1 100 (U1 86 40).toNat))))], [.inl 1, .inl (w32 ((w32 (8 * (U1 86 40))) + (U1 100 (U1 86 40).toNat))), .inr (.inr 101)], (am_sh, am_mm U4))) 2 (fun _ => rfl) ?_
            exact ha1a1aa1a1a2
        · have ha1a1aa1a2 := ha1a1aa1a.2 hc
          refine ev_seg (σ1 := ((d + 1), 192, 105, [some (.inr (.inr 86)), some (.inl (w32 ((w32 (8 * (U1 86 40))) + (U1 100 (U1 86 40).toNat))))], [.inl 0, .inl (w32 ((w32 (8 * (U1 86 40))) + (U1 100 (U1 86 40).toNat))), .inr (.inr 101)], (am_sh, am_mm U3))) 2 (fun _ => rfl) ?_
          exact ha1a1aa1a2
      · have ha1a1aa2 := ha1a1aa.2 hc
        subst ha1a1aa2
        exact ev_end 1 (fun _ => rfl)
    · have ha1a2 := ha1a.2 hc
      subst ha1a2
      exact ev_end 1 (fun _ => rfl)
  · have ha2 := ha.2 hc
    refine ev_seg (σ1 := ((d + 1), 192, 20, [some (.inr (.inr 86)), none], [.inl 1, .inr (.inr 86)], (am_sh, am_mm U))) 2 (fun _ => rfl) ?_
    obtain ⟨r6, U6, ha2c, ha2a⟩ := ha2
    refine ev_cal (σc := (d, 264, 0, [some (.inr (.inr 86)), some (.inl 1)], [], (am_sh, am_mm U))) (fun _ => rfl) ha2c ?_
    show Ev kz ((d + 1), 192, 23, [some (.inr (.inr 86)), none], [.inl r6], (am_sh, am_mm U6)) R
    refine ev_br (P := ¬ r6 = 0) (σ1 := ((d + 1), 192, 27, [some (.inr (.inr 86)), none], [], (am_sh, am_mm U6))) (σ2 := ((d + 1), 192, 26, [some (.inr (.inr 86)), none], [], (am_sh, am_mm U6))) 1 (fun _ => rfl) (fun hc => ?_) (fun hc => ?_)
    · have ha2a1 := ha2a.1 hc
      refine ev_seg (σ1 := ((d + 1), 192, 42, [some (.inr (.inr 86)), none], [.inl (U6 86 40), .inr (.inr 100), .inl (w32 (8 * (U6 86 40)))], (am_sh, am_mm U6))) 8 (fun _ => rfl) ?_
      refine eu_iald 100 (n := 2) rfl (by decide) rfl (fun _ => rfl) ha2a1.1 ?_
      have ha2a1a := ha2a1.2
      refine ev_seg (σ1 := ((d + 1), 192, 46, [some (.inr (.inr 86)), some (.inl (w32 ((w32 (8 * (U6 86 40))) + (U6 100 (U6 86 40).toNat))))], [.inr (.inr 86)], (am_sh, am_mm U6))) 3 (fun _ => rfl) ?_
      obtain ⟨U7, ha2a1ac, ha2a1aa⟩ := ha2a1a
      refine ev_cal (σc := (d, 186, 0, [some (.inr (.inr 86))], [], (am_sh, am_mm U6))) (fun _ => rfl) ha2a1ac ?_
      show Ev kz ((d + 1), 192, 49, [some (.inr (.inr 86)), some (.inl (w32 ((w32 (8 * (U6 86 40))) + (U6 100 (U6 86 40).toNat))))], [], (am_sh, am_mm U7)) R
      refine ev_br (P := (U7 86 8) ≤ 0) (σ1 := ((d + 1), 192, 57, [some (.inr (.inr 86)), some (.inl (w32 ((w32 (8 * (U6 86 40))) + (U6 100 (U6 86 40).toNat))))], [], (am_sh, am_mm U7))) (σ2 := ((d + 1), 192, 56, [some (.inr (.inr 86)), some (.inl (w32 ((w32 (8 * (U6 86 40))) + (U6 100 (U6 86 40).toNat))))], [], (am_sh, am_mm U7))) 3 (fun _ => rfl) (fun hc => ?_) (fun hc => ?_)
      · have ha2a1aa1 := ha2a1aa.1 hc
        refine ev_seg (σ1 := ((d + 1), 192, 66, [some (.inr (.inr 86)), some (.inl (w32 ((w32 (8 * (U6 86 40))) + (U6 100 (U6 86 40).toNat))))], [.inr (.inl 1700881256), .inr (.inr 86), .inl (w32 ((w32 (8 * (U6 86 40))) + (U6 100 (U6 86 40).toNat))), .inr (.inr 101)], (am_sh, am_mm U7))) 5 (fun _ => rfl) ?_
        obtain ⟨r8, U8, ha2a1aa1c, ha2a1aa1a⟩ := ha2a1aa1
        refine ev_cal (σc := (d, 187, 0, [some (.inr (.inr 86)), some (.inr (.inl 1700881256)), none], [], (am_sh, am_mm U7))) (fun _ => rfl) ha2a1aa1c ?_
        show Ev kz ((d + 1), 192, 69, [some (.inr (.inr 86)), some (.inl (w32 ((w32 (8 * (U6 86 40))) + (U6 100 (U6 86 40).toNat))))], [.inl r8, .inl (w32 ((w32 (8 * (U6 86 40))) + (U6 100 (U6 86 40).toNat))), .inr (.inr 101)], (am_sh, am_mm U8)) R
        refine ev_br (P := r8 = 0) (σ1 := ((d + 1), 192, 76, [some (.inr (.inr 86)), some (.inl (w32 ((w32 (8 * (U6 86 40))) + (U6 100 (U6 86 40).toNat))))], [.inl (w32 ((w32 (8 * (U6 86 40))) + (U6 100 (U6 86 40).toNat))), .inr (.inr 101)], (am_sh, am_mm U8))) (σ2 := ((d + 1), 192, 72, [some (.inr (.inr 86)), some (.inl (w32 ((w32 (8 * (U6 86 40))) + (U6 100 (U6 86 40).toNat))))], [.inl (w32 ((w32 (8 * (U6 86 40))) + (U6 100 (U6 86 40).toNat))), .inr (.inr 101)], (am_sh, am_mm U8))) 1 (fun _ => rfl) (fun hc => ?_) (fun hc => ?_)
        · have ha2a1aa1a1 := ha2a1aa1a.1 hc
          refine ev_seg (σ1 := ((d + 1), 192, 80, [some (.inr (.inr 86)), some (.inl (w32 ((w32 (8 * (U6 86 40))) + (U6 100 (U6 86 40).toNat))))], [.inr (.inl 108187867505765), .inr (.inr 86), .inl (w32 ((w32 (8 * (U6 86 40))) + (U6 100 (U6 86 40).toNat))), .inr (.inr 101)], (am_sh, am_mm U8))) 2 (fun _ => rfl) ?_
          obtain ⟨r9, U9, ha2a1aa1a1c, ha2a1aa1a1a⟩ := ha2a1aa1a1
          refine ev_cal (σc := (d, 187, 0, [some (.inr (.inr 86)), some (.inr (.inl 108187867505765)), none], [], (am_sh, am_mm U8))) (fun _ => rfl) ha2a1aa1a1c ?_
          show Ev kz ((d + 1), 192, 83, [some (.inr (.inr 86)), some (.inl (w32 ((w32 (8 * (U6 86 40))) + (U6 100 (U6 86 40).toNat))))], [.inl r9, .inl (w32 ((w32 (8 * (U6 86 40))) + (U6 100 (U6 86 40).toNat))), .inr (.inr 101)], (am_sh, am_mm U9)) R
          refine ev_br (P := r9 = 0) (σ1 := ((d + 1), 192, 90, [some (.inr (.inr 86)), some (.inl (w32 ((w32 (8 * (U6 86 40))) + (U6 100 (U6 86 40).toNat))))], [.inl (w32 ((w32 (8 * (U6 86 40))) + (U6 100 (U6 86 40).toNat))), .inr (.inr 101)], (am_sh, am_mm U9))) (σ2 := ((d + 1), 192, 86, [some (.inr (.inr 86)), some (.inl (w32 ((w32 (8 * (U6 86 40))) + (U6 100 (U6 86 40).toNat))))], [.inl (w32 ((w32 (8 * (U6 86 40))) + (U6 100 (U6 86 40).toNat))), .inr (.inr 101)], (am_sh, am_mm U9))) 1 (fun _ => rfl) (fun hc => ?_) (fun hc => ?_)
          · have ha2a1aa1a1a1 := ha2a1aa1a1a.1 hc
            refine ev_seg (σ1 := ((d + 1), 192, 94, [some (.inr (.inr 86)), some (.inl (w32 ((w32 (8 * (U6 86 40))) + (U6 100 (U6 86 40).toNat))))], [.inr (.inl 131294808271214), .inr (.inr 86), .inl (w32 ((w32 (8 * (U6 86 40))) + (U6 100 (U6 86 40).toNat))), .inr (.inr 101)], (am_sh, am_mm U9))) 2 (fun _ => rfl) ?_
            obtain ⟨r10, U10, ha2a1aa1a1a1c, ha2a1aa1a1a1a⟩ := ha2a1aa1a1a1
            refine ev_cal (σc := (d, 187, 0, [some (.inr (.inr 86)), some (.inr (.inl 131294808271214)), none], [], (am_sh, am_mm U9))) (fun _ => rfl) ha2a1aa1a1a1c ?_
            show Ev kz ((d + 1), 192, 97, [some (.inr (.inr 86)), some (.inl (w32 ((w32 (8 * (U6 86 40))) + (U6 100 (U6 86 40).toNat))))], [.inl r10, .inl (w32 ((w32 (8 * (U6 86 40))) + (U6 100 (U6 86 40).toNat))), .inr (.inr 101)], (am_sh, am_mm U10)) R
            refine ev_br (P := r10 = 0) (σ1 := ((d + 1), 192, 104, [some (.inr (.inr 86)), some (.inl (w32 ((w32 (8 * (U6 86 40))) + (U6 100 (U6 86 40).toNat))))], [.inl (w32 ((w32 (8 * (U6 86 40))) + (U6 100 (U6 86 40).toNat))), .inr (.inr 101)], (am_sh, am_mm U10))) (σ2 := ((d + 1), 192, 100, [some (.inr (.inr 86)), some (.inl (w32 ((w32 (8 * (U6 86 40))) + (U6 100 (U6 86 40).toNat))))], [.inl (w32 ((w32 (8 * (U6 86 40))) + (U6 100 (U6 86 40).toNat))), .inr (.inr 101)], (am_sh, am_mm U10))) 1 (fun _ => rfl) (fun hc => ?_) (fun hc => ?_)
            · have ha2a1aa1a1a1a1 := ha2a1aa1a1a1a.1 hc
              refine ev_seg (σ1 := ((d + 1), 192, 105, [some (.inr (.inr 86)), some (.inl (w32 ((w32 (8 * (U6 86 40))) + (U6 100 (U6 86 40).toNat))))], [.inl (-1), .inl (w32 ((w32 (8 * (U6 86 40))) + (U6 100 (U6 86 40).toNat))), .inr (.inr 101)], (am_sh, am_mm U10))) 1 (fun _ => rfl) ?_
              exact ha2a1aa1a1a1a1
            · have ha2a1aa1a1a1a2 := ha2a1aa1a1a1a.2 hc
              refine ev_seg (σ1 := ((d + 1), 192, 105, [some (.inr (.inr 86)), some (.inl (w32 ((w32 (8 * (U6 86 40))) + (U6 100 (U6 86 40).toNat))))], [.inl 2, .inl (w32 ((w32 (8 * (U6 86 40))) + (U6 100 (U6 86 40).toNat))), .inr (.inr 101)], (am_sh, am_mm U10))) 2 (fun _ => rfl) ?_
              exact ha2a1aa1a1a1a2
          · have ha2a1aa1a1a2 := ha2a1aa1a1a.2 hc
            refine ev_seg (σ1 := ((d + 1), 192, 105, [some (.inr (.inr 86)), some (.inl (w32 ((w32 (8 * (U6 86 40))) + (U6 100 (U6 86 40).toNat))))], [.inl 1, .inl (w32 ((w32 (8 * (U6 86 40))) + (U6 100 (U6 86 40).toNat))), .inr (.inr 101)], (am_sh, am_mm U9))) 2 (fun _ => rfl) ?_
            exact ha2a1aa1a1a2
        · have ha2a1aa1a2 := ha2a1aa1a.2 hc
          refine ev_seg (σ1 := ((d + 1), 192, 105, [some (.inr (.inr 86)), some (.inl (w32 ((w32 (8 * (U6 86 40))) + (U6 100 (U6 86 40).toNat))))], [.inl 0, .inl (w32 ((w32 (8 * (U6 86 40))) + (U6 100 (U6 86 40).toNat))), .inr (.inr 101)], (am_sh, am_mm U8))) 2 (fun _ => rfl) ?_
          exact ha2a1aa1a2
      · have ha2a1aa2 := ha2a1aa.2 hc
        subst ha2a1aa2
        exact ev_end 1 (fun _ => rfl)
    · have ha2a2 := ha2a.2 hc
      subst ha2a2
      exact ev_end 1 (fun _ => rfl)
theorem st192_86_105 (kz : am_Z) (d : Nat) (x1 s1 s2 : Int) (U : Nat → Nat → Int) (R : Option am_V × am_M) (h : (0 ≤ s1 ∧ s1 < 16) ∧ (0 ≤ x1 ∧ x1 < 16) ∧ (((¬ ((am_upd U 101 s1.toNat s2) 101 x1.toNat) = (-1) : Prop)) → (((((am_upd U 101 s1.toNat s2) 86 8) ≤ 0 : Prop)) → ∃ U1 : Nat → Nat → Int, Ev kz (d, 93, 0, [some (.inr (.inr 86)), none, none, none, none, none], [], (am_sh, am_mm (am_upd U 101 s1.toNat s2))) (none, (am_sh, am_mm U1)) ∧ (0 ≤ x1 ∧ x1 < 16) ∧ ∃ U2 : Nat → Nat → Int, Ev kz (d, 271, 0, [some (.inr (.inr 86)), some (.inl 1), none], [], (am_sh, am_mm (am_upd U1 102 x1.toNat (U1 86 39)))) (none, (am_sh, am_mm U2)) ∧ (0 ≤ x1 ∧ x1 < 16) ∧ (((¬ ((am_upd U2 103 x1.toNat (U2 86 39)) 86 8) = 0 : Prop)) → R = (none, (am_sh, am_mm (am_upd U2 103 x1.toNat (U2 86 39))))) ∧ (¬ (¬ ((am_upd U2 103 x1.toNat (U2 86 39)) 86 8) = 0) → (0 ≤ ((am_upd U2 103 x1.toNat (U2 86 39)) 86 40) ∧ ((am_upd U2 103 x1.toNat (U2 86 39)) 86 40) < 2) ∧ (0 ≤ ((am_upd U2 103 x1.toNat (U2 86 39)) 86 40) ∧ ((am_upd U2 103 x1.toNat (U2 86 39)) 86 40) < 2) ∧ R = (none, (am_sh, am_mm (am_upd (am_upd U2 103 x1.toNat (U2 86 39)) 100 ((am_upd U2 103 x1.toNat (U2 86 39)) 86 40).toNat (w32 (((am_upd U2 103 x1.toNat (U2 86 39)) 100 ((am_upd U2 103 x1.toNat (U2 86 39)) 86 40).toNat) + 1))))))) ∧ (¬ (((am_upd U 101 s1.toNat s2) 86 8) ≤ 0) → R = (none, (am_sh, am_mm (am_upd U 101 s1.toNat s2))))) ∧ (¬ (¬ ((am_upd U 101 s1.toNat s2) 101 x1.toNat) = (-1)) → ∃ U3 : Nat → Nat → Int, Ev kz (d, 196, 0, [some (.inr (.inr 86)), some (.inl 1), some (.inl ((am_upd U 101 s1.toNat s2) 86 4))], [], (am_sh, am_mm (am_upd U 101 s1.toNat s2))) (none, (am_sh, am_mm U3)) ∧ ((((U3 86 8) ≤ 0 : Prop)) → ∃ U4 : Nat → Nat → Int, Ev kz (d, 93, 0, [some (.inr (.inr 86)), none, none, none, none, none], [], (am_sh, am_mm U3)) (none, (am_sh, am_mm U4)) ∧ (0 ≤ x1 ∧ x1 < 16) ∧ ∃ U5 : Nat → Nat → Int, Ev kz (d, 271, 0, [some (.inr (.inr 86)), some (.inl 1), none], [], (am_sh, am_mm (am_upd U4 102 x1.toNat (U4 86 39)))) (none, (am_sh, am_mm U5)) ∧ (0 ≤ x1 ∧ x1 < 16) ∧ (((¬ ((am_upd U5 103 x1.toNat (U5 86 39)) 86 8) = 0 : Prop)) → R = (none, (am_sh, am_mm (am_upd U5 103 x1.toNat (U5 86 39))))) ∧ (¬ (¬ ((am_upd U5 103 x1.toNat (U5 86 39)) 86 8) = 0) → (0 ≤ ((am_upd U5 103 x1.toNat (U5 86 39)) 86 40) ∧ ((am_upd U5 103 x1.toNat (U5 86 39)) 86 40) < 2) ∧ (0 ≤ ((am_upd U5 103 x1.toNat (U5 86 39)) 86 40) ∧ ((am_upd U5 103 x1.toNat (U5 86 39)) 86 40) < 2) ∧ R = (none, (am_sh, am_mm (am_upd (am_upd U5 103 x1.toNat (U5 86 39)) 100 ((am_upd U5 103 x1.toNat (U5 86 39)) 86 40).toNat (w32 (((am_upd U5 103 x1.toNat (U5 86 39)) 100 ((am_upd U5 103 x1.toNat (U5 86 39)) 86 40).toNat) + 1))))))) ∧ (¬ ((U3 86 8) ≤ 0) → R = (none, (am_sh, am_mm U3))))) : Ev kz ((d + 1), 192, 105, [some (.inr (.inr 86)), some (.inl x1)], [.inl s2, .inl s1, .inr (.inr 101)], (am_sh, am_mm U)) R := by
  refine eu_iast 101 (n := 16) rfl (by decide) rfl (fun _ => rfl) h.1 ?_
  have ha := h.2
  refine ev_seg (σ1 := ((d + 1), 192, 111, [some (.inr (.inr 86)), some (.inl x1)], [.inl x1, .inr (.inr 101)], (am_sh, am_mm (am_upd U 101 s1.toNat s2)))) 3 (fun _ => rfl) ?_
  refine eu_iald 101 (n := 16) rfl (by decide) rfl (fun _ => rfl) ha.1 ?_
  have haa := ha.2
  refine ev_br (P := ¬ ((am_upd U 101 s1.toNat s2) 101 x1.toNat) = (-1)) (σ1 := ((d + 1), 192, 125, [some (.inr (.inr 86)), some (.inl x1)], [], (am_sh, am_mm (am_upd U 101 s1.toNat s2)))) (σ2 := ((d + 1), 192, 116, [some (.inr (.inr 86)), some (.inl x1)], [], (am_sh, am_mm (am_upd U 101 s1.toNat s2)))) 2 (fun _ => rfl) (fun hc => ?_) (fun hc => ?_)
  · have haa1 := haa.1 hc
    refine ev_br (P := ((am_upd U 101 s1.toNat s2) 86 8) ≤ 0) (σ1 := ((d + 1), 192, 133, [some (.inr (.inr 86)), some (.inl x1)], [], (am_sh, am_mm (am_upd U 101 s1.toNat s2)))) (σ2 := ((d + 1), 192, 132, [some (.inr (.inr 86)), some (.inl x1)], [], (am_sh, am_mm (am_upd U 101 s1.toNat s2)))) 3 (fun _ => rfl) (fun hc => ?_) (fun hc => ?_)
    · have haa11 := haa1.1 hc
      refine ev_seg (σ1 := ((d + 1), 192, 134, [some (.inr (.inr 86)), some (.inl x1)], [.inr (.inr 86)], (am_sh, am_mm (am_upd U 101 s1.toNat s2)))) 1 (fun _ => rfl) ?_
      obtain ⟨U1, haa11c, haa11a⟩ := haa11
      refine ev_cal (σc := (d, 93, 0, [some (.inr (.inr 86)), none, none, none, none, none], [], (am_sh, am_mm (am_upd U 101 s1.toNat s2)))) (fun _ => rfl) haa11c ?_
      show Ev kz ((d + 1), 192, 137, [some (.inr (.inr 86)), some (.inl x1)], [], (am_sh, am_mm U1)) R
      refine ev_seg (σ1 := ((d + 1), 192, 146, [some (.inr (.inr 86)), some (.inl x1)], [.inl (U1 86 39), .inl x1, .inr (.inr 102)], (am_sh, am_mm U1))) 5 (fun _ => rfl) ?_
      refine eu_iast 102 (n := 16) rfl (by decide) rfl (fun _ => rfl) haa11a.1 ?_
      have haa11aa := haa11a.2
      refine ev_seg (σ1 := ((d + 1), 192, 149, [some (.inr (.inr 86)), some (.inl x1)], [.inl 1, .inr (.inr 86)], (am_sh, am_mm (am_upd U1 102 x1.toNat (U1 86 39))))) 2 (fun _ => rfl) ?_
      obtain ⟨U2, haa11aac, haa11aaa⟩ := haa11aa
      refine ev_cal (σc := (d, 271, 0, [some (.inr (.inr 86)), some (.inl 1), none], [], (am_sh, am_mm (am_upd U1 102 x1.toNat (U1 86 39))))) (fun _ => rfl) haa11aac ?_
      show Ev kz ((d + 1), 192, 152, [some (.inr (.inr 86)), some (.inl x1)], [], (am_sh, am_mm U2)) R
      refine ev_seg (σ1 := ((d + 1), 192, 161, [some (.inr (.inr 86)), some (.inl x1)], [.inl (U2 86 39), .inl x1, .inr (.inr 103)], (am_sh, am_mm U2))) 5 (fun _ => rfl) ?_
      refine eu_iast 103 (n := 16) rfl (by decide) rfl (fun _ => rfl) haa11aaa.1 ?_
      have haa11aaaa := haa11aaa.2
      refine ev_br (P := ¬ ((am_upd U2 103 x1.toNat (U2 86 39)) 86 8) = 0) (σ1 := ((d + 1), 192, 182, [some (.inr (.inr 86)), some (.inl x1)], [], (am_sh, am_mm (am_upd U2 103 x1.toNat (U2 86 39))))) (σ2 := ((d + 1), 192, 169, [some (.inr (.inr 86)), some (.inl x1)], [], (am_sh, am_mm (am_upd U2 103 x1.toNat (U2 86 39))))) 3 (fun _ => rfl) (fun hc => ?_) (fun hc => ?_)
      · have haa11aaaa1 := haa11aaaa.1 hc
        subst haa11aaaa1
        exact ev_end 1 (fun _ => rfl)
      · have haa11aaaa2 := haa11aaaa.2 hc
        refine ev_seg (σ1 := ((d + 1), 192, 178, [some (.inr (.inr 86)), some (.inl x1)], [.inl ((am_upd U2 103 x1.toNat (U2 86 39)) 86 40), .inr (.inr 100), .inl ((am_upd U2 103 x1.toNat (U2 86 39)) 86 40), .inr (.inr 100)], (am_sh, am_mm (am_upd U2 103 x1.toNat (U2 86 39))))) 5 (fun _ => rfl) ?_
        refine eu_iald 100 (n := 2) rfl (by decide) rfl (fun _ => rfl) haa11aaaa2.1 ?_
        have haa11aaaa2a := haa11aaaa2.2
        refine ev_seg (σ1 := ((d + 1), 192, 181, [some (.inr (.inr 86)), some (.inl x1)], [.inl (w32 (((am_upd U2 103 x1.toNat (U2 86 39)) 100 ((am_upd U2 103 x1.toNat (U2 86 39)) 86 40).toNat) + 1)), .inl ((am_upd U2 103 x1.toNat (U2 86 39)) 86 40), .inr (.inr 100)], (am_sh, am_mm (am_upd U2 103 x1.toNat (U2 86 39))))) 2 (fun _ => rfl) ?_
        refine eu_iast 100 (n := 2) rfl (by decide) rfl (fun _ => rfl) haa11aaaa2a.1 ?_
        have haa11aaaa2aa := haa11aaaa2a.2
        subst haa11aaaa2aa
        exact ev_end 1 (fun _ => rfl)
    · have haa12 := haa1.2 hc
      subst haa12
      exact ev_end 1 (fun _ => rfl)
  · have haa2 := haa.2 hc
    refine ev_seg (σ1 := ((d + 1), 192, 122, [some (.inr (.inr 86)), some (.inl x1)], [.inl ((am_upd U 101 s1.toNat s2) 86 4), .inl 1, .inr (.inr 86)], (am_sh, am_mm (am_upd U 101 s1.toNat s2)))) 4 (fun _ => rfl) ?_
    obtain ⟨U3, haa2c, haa2a⟩ := haa2
    refine ev_cal (σc := (d, 196, 0, [some (.inr (.inr 86)), some (.inl 1), some (.inl ((am_upd U 101 s1.toNat s2) 86 4))], [], (am_sh, am_mm (am_upd U 101 s1.toNat s2)))) (fun _ => rfl) haa2c ?_
    show Ev kz ((d + 1), 192, 125, [some (.inr (.inr 86)), some (.inl x1)], [], (am_sh, am_mm U3)) R
    refine ev_br (P := (U3 86 8) ≤ 0) (σ1 := ((d + 1), 192, 133, [some (.inr (.inr 86)), some (.inl x1)], [], (am_sh, am_mm U3))) (σ2 := ((d + 1), 192, 132, [some (.inr (.inr 86)), some (.inl x1)], [], (am_sh, am_mm U3))) 3 (fun _ => rfl) (fun hc => ?_) (fun hc => ?_)
    · have haa2a1 := haa2a.1 hc
      refine ev_seg (σ1 := ((d + 1), 192, 134, [some (.inr (.inr 86)), some (.inl x1)], [.inr (.inr 86)], (am_sh, am_mm U3))) 1 (fun _ => rfl) ?_
      obtain ⟨U4, haa2a1c, haa2a1a⟩ := haa2a1
      refine ev_cal (σc := (d, 93, 0, [some (.inr (.inr 86)), none, none, none, none, none], [], (am_sh, am_mm U3))) (fun _ => rfl) haa2a1c ?_
      show Ev kz ((d + 1), 192, 137, [some (.inr (.inr 86)), some (.inl x1)], [], (am_sh, am_mm U4)) R
      refine ev_seg (σ1 := ((d + 1), 192, 146, [some (.inr (.inr 86)), some (.inl x1)], [.inl (U4 86 39), .inl x1, .inr (.inr 102)], (am_sh, am_mm U4))) 5 (fun _ => rfl) ?_
      refine eu_iast 102 (n := 16) rfl (by decide) rfl (fun _ => rfl) haa2a1a.1 ?_
      have haa2a1aa := haa2a1a.2
      refine ev_seg (σ1 := ((d + 1), 192, 149, [some (.inr (.inr 86)), some (.inl x1)], [.inl 1, .inr (.inr 86)], (am_sh, am_mm (am_upd U4 102 x1.toNat (U4 86 39))))) 2 (fun _ => rfl) ?_
      obtain ⟨U5, haa2a1aac, haa2a1aaa⟩ := haa2a1aa
      refine ev_cal (σc := (d, 271, 0, [some (.inr (.inr 86)), some (.inl 1), none], [], (am_sh, am_mm (am_upd U4 102 x1.toNat (U4 86 39))))) (fun _ => rfl) haa2a1aac ?_
      show Ev kz ((d + 1), 192, 152, [some (.inr (.inr 86)), some (.inl x1)], [], (am_sh, am_mm U5)) R
      refine ev_seg (σ1 := ((d + 1), 192, 161, [some (.inr (.inr 86)), some (.inl x1)], [.inl (U5 86 39), .inl x1, .inr (.inr 103)], (am_sh, am_mm U5))) 5 (fun _ => rfl) ?_
      refine eu_iast 103 (n := 16) rfl (by decide) rfl (fun _ => rfl) haa2a1aaa.1 ?_
      have haa2a1aaaa := haa2a1aaa.2
      refine ev_br (P := ¬ ((am_upd U5 103 x1.toNat (U5 86 39)) 86 8) = 0) (σ1 := ((d + 1), 192, 182, [some (.inr (.inr 86)), some (.inl x1)], [], (am_sh, am_mm (am_upd U5 103 x1.toNat (U5 86 39))))) (σ2 := ((d + 1), 192, 169, [some (.inr (.inr 86)), some (.inl x1)], [], (am_sh, am_mm (am_upd U5 103 x1.toNat (U5 86 39))))) 3 (fun _ => rfl) (fun hc => ?_) (fun hc => ?_)
      · have haa2a1aaaa1 := haa2a1aaaa.1 hc
        subst haa2a1aaaa1
        exact ev_end 1 (fun _ => rfl)
      · have haa2a1aaaa2 := haa2a1aaaa.2 hc
        refine ev_seg (σ1 := ((d + 1), 192, 178, [some (.inr (.inr 86)), some (.inl x1)], [.inl ((am_upd U5 103 x1.toNat (U5 86 39)) 86 40), .inr (.inr 100), .inl ((am_upd U5 103 x1.toNat (U5 86 39)) 86 40), .inr (.inr 100)], (am_sh, am_mm (am_upd U5 103 x1.toNat (U5 86 39))))) 5 (fun _ => rfl) ?_
        refine eu_iald 100 (n := 2) rfl (by decide) rfl (fun _ => rfl) haa2a1aaaa2.1 ?_
        have haa2a1aaaa2a := haa2a1aaaa2.2
        refine ev_seg (σ1 := ((d + 1), 192, 181, [some (.inr (.inr 86)), some (.inl x1)], [.inl (w32 (((am_upd U5 103 x1.toNat (U5 86 39)) 100 ((am_upd U5 103 x1.toNat (U5 86 39)) 86 40).toNat) + 1)), .inl ((am_upd U5 103 x1.toNat (U5 86 39)) 86 40), .inr (.inr 100)], (am_sh, am_mm (am_upd U5 103 x1.toNat (U5 86 39))))) 2 (fun _ => rfl) ?_
        refine eu_iast 100 (n := 2) rfl (by decide) rfl (fun _ => rfl) haa2a1aaaa2a.1 ?_
        have haa2a1aaaa2aa := haa2a1aaaa2a.2
        subst haa2a1aaaa2aa
        exact ev_end 1 (fun _ => rfl)
    · have haa2a2 := haa2a.2 hc
      subst haa2a2
      exact ev_end 1 (fun _ => rfl)
theorem st190_86_0 (kz : am_Z) (d : Nat) (U : Nat → Nat → Int) (R : Option am_V × am_M) (h : (0 ≤ (U 86 40) ∧ (U 86 40) < 2) ∧ (((¬ (U 94 (U 86 40).toNat) = 10 : Prop)) → ∃ (r1 : Int) (U1 : Nat → Nat → Int), Ev kz (d, 264, 0, [some (.inr (.inr 86)), some (.inl 0)], [], (am_sh, am_mm U)) (some (.inl r1), (am_sh, am_mm U1)) ∧ (((¬ r1 = 0 : Prop)) → (0 ≤ (U1 86 40) ∧ (U1 86 40) < 2) ∧ ∃ (r2 : Int) (U2 : Nat → Nat → Int), Ev kz (d, 267, 0, [some (.inr (.inr 86)), some (.inl 1), none], [], (am_sh, am_mm U1)) (some (.inl r2), (am_sh, am_mm U2)) ∧ ∃ (r3 : Int) (U3 : Nat → Nat → Int), Ev kz (d, 269, 0, [some (.inr (.inr 86)), some (.inl 1), none], [], (am_sh, am_mm U2)) (some (.inl r3), (am_sh, am_mm U3)) ∧ (((¬ (U3 86 8) = 0 : Prop)) → ((((U3 86 8) ≤ 0 : Prop)) → ∃ U4 : Nat → Nat → Int, Ev kz (d, 93, 0, [some (.inr (.inr 86)), none, none, none, none, none], [], (am_sh, am_mm U3)) (none, (am_sh, am_mm U4)) ∧ (0 ≤ (w32 ((w32 (10 * (U1 86 40))) + (U1 94 (U1 86 40).toNat))) ∧ (w32 ((w32 (10 * (U1 86 40))) + (U1 94 (U1 86 40).toNat))) < 20) ∧ (0 ≤ (w32 ((w32 (10 * (U1 86 40))) + (U1 94 (U1 86 40).toNat))) ∧ (w32 ((w32 (10 * (U1 86 40))) + (U1 94 (U1 86 40).toNat))) < 20) ∧ (0 ≤ ((am_upd (am_upd U4 95 (w32 ((w32 (10 * (U1 86 40))) + (U1 94 (U1 86 40).toNat))).toNat r2) 96 (w32 ((w32 (10 * (U1 86 40))) + (U1 94 (U1 86 40).toNat))).toNat r3) 86 40) ∧ ((am_upd (am_upd U4 95 (w32 ((w32 (10 * (U1 86 40))) + (U1 94 (U1 86 40).toNat))).toNat r2) 96 (w32 ((w32 (10 * (U1 86 40))) + (U1 94 (U1 86 40).toNat))).toNat r3) 86 40) < 2) ∧ (0 ≤ ((am_upd (am_upd U4 95 (w32 ((w32 (10 * (U1 86 40))) + (U1 94 (U1 86 40).toNat))).toNat r2) 96 (w32 ((w32 (10 * (U1 86 40))) + (U1 94 (U1 86 40).toNat))).toNat r3) 86 40) ∧ ((am_upd (am_upd U4 95 (w32 ((w32 (10 * (U1 86 40))) + (U1 94 (U1 86 40).toNat))).toNat r2) 96 (w32 ((w32 (10 * (U1 86 40))) + (U1 94 (U1 86 40).toNat))).toNat r3) 86 40) < 2) ∧ R = (none, (am_sh, am_mm (am_upd (am_upd (am_upd U4 95 (w32 ((w32 (10 * (U1 86 40))) + (U1 94 (U1 86 40).toNat))).toNat r2) 96 (w32 ((w32 (10 * (U1 86 40))) + (U1 94 (U1 86 40).toNat))).toNat r3) 94 ((am_upd (am_upd U4 95 (w32 ((w32 (10 * (U1 86 40))) + (U1 94 (U1 86 40).toNat))).toNat r2) 96 (w32 ((w32 (10 * (U1 86 40))) + (U1 94 (U1 86 40).toNat))).toNat r3) 86 40).toNat (w32 (((am_upd (am_upd U4 95 (w32 ((w32 (10 * (U1 86 40))) + (U1 94 (U1 86 40).toNat))).toNat r2) 96 (w32 ((w32 (10 * (U1 86 40))) + (U1 94 (U1 86 40).toNat))).toNat r3) 94 ((am_upd (am_upd U4 95 (w32 ((w32 (10 * (U1 86 40))) + (U1 94 (U1 86 40).toNat))).toNat r2) 96 (w32 ((w32 (10 * (U1 86 40))) + (U1 94 (U1 86 40).toNat))).toNat r3) 86 40).toNat) + 1)))))) ∧ (¬ ((U3 86 8) ≤ 0) → R = (none, (am_sh, am_mm U3)))) ∧ (¬ (¬ (U3 86 8) = 0) → (((r2 = r3 : Prop)) → ∃ U5 : Nat → Nat → Int, Ev kz (d, 196, 0, [some (.inr (.inr 86)), some (.inl 3), some (.inl (U3 86 4))], [], (am_sh, am_mm U3)) (none, (am_sh, am_mm U5)) ∧ ((((U5 86 8) ≤ 0 : Prop)) → ∃ U6 : Nat → Nat → Int, Ev kz (d, 93, 0, [some (.inr (.inr 86)), none, none, none, none, none], [], (am_sh, am_mm U5)) (none, (am_sh, am_mm U6)) ∧ (0 ≤ (w32 ((w32 (10 * (U1 86 40))) + (U1 94 (U1 86 40).toNat))) ∧ (w32 ((w32 (10 * (U1 86 40))) + (U1 94 (U1 86 40).toNat))) < 20) ∧ (0 ≤ (w32 ((w32 (10 * (U1 86 40))) + (U1 94 (U1 86 40).toNat))) ∧ (w32 ((w32 (10 * (U1 86 40))) + (U1 94 (U1 86 40).toNat))) < 20) ∧ (0 ≤ ((am_upd (am_upd U6 95 (w32 ((w32 (10 * (U1 86 40))) + (U1 94 (U1 86 40).toNat))).toNat r2) 96 (w32 ((w32 (10 * (U1 86 40))) + (U1 94 (U1 86 40).toNat))).toNat r3) 86 40) ∧ ((am_upd (am_upd U6 95 (w32 ((w32 (10 * (U1 86 40))) + (U1 94 (U1 86 40).toNat))).toNat r2) 96 (w32 ((w32 (10 * (U1 86 40))) + (U1 94 (U1 86 40).toNat))).toNat r3) 86 40) < 2) ∧ (0 ≤ ((am_upd (am_upd U6 95 (w32 ((w32 (10 * (U1 86 40))) + (U1 94 (U1 86 40).toNat))).toNat r2) 96 (w32 ((w32 (10 * (U1 86 40))) + (U1 94 (U1 86 40).toNat))).toNat r3) 86 40) ∧ ((am_upd (am_upd U6 95 (w32 ((w32 (10 * (U1 86 40))) + (U1 94 (U1 86 40).toNat))).toNat r2) 96 (w32 ((w32 (10 * (U1 86 40))) + (U1 94 (U1 86 40).toNat))).toNat r3) 86 40) < 2) ∧ R = (none, (am_sh, am_mm (am_upd (am_upd (am_upd U6 95 (w32 ((w32 (10 * (U1 86 40))) + (U1 94 (U1 86 40).toNat))).toNat r2) 96 (w32 ((w32 (10 * (U1 86 40))) + (U1 94 (U1 86 40).toNat))).toNat r3) 94 ((am_upd (am_upd U6 95 (w32 ((w32 (10 * (U1 86 40))) + (U1 94 (U1 86 40).toNat))).toNat r2) 96 (w32 ((w32 (10 * (U1 86 40))) + (U1 94 (U1 86 40).toNat))).toNat r3) 86 40).toNat (w32 (((am_upd (am_upd U6 95 (w32 ((w32 (10 * (U1 86 40))) + (U1 94 (U1 86 40).toNat))).toNat r2) 96 (w32 ((w32 (10 * (U1 86 40))) + (U1 94 (U1 86 40).toNat))).toNat r3) 94 ((am_upd (am_upd U6 95 (w32 ((w32 (10 * (U1 86 40))) + (U1 94 (U1 86 40).toNat))).toNat r2) 96 (w32 ((w32 (10 * (U1 86 40))) + (U1 94 (U1 86 40).toNat))).toNat r3) 86 40).toNat) + 1)))))) ∧ (¬ ((U5 86 8) ≤ 0) → R = (none, (am_sh, am_mm U5)))) ∧ (¬ (r2 = r3) → ∃ (r7 : Int) (U7 : Nat → Nat → Int), Ev kz (d, 113, 0, [some (.inr (.inr 86)), some (.inl (U3 86 40)), some (.inl r2), some (.inl r3), none, none], [], (am_sh, am_mm U3)) (some (.inl r7), (am_sh, am_mm U7)) ∧ (((r7 = 0 : Prop)) → ((((U7 86 8) ≤ 0 : Prop)) → ∃ U8 : Nat → Nat → Int, Ev kz (d, 93, 0, [some (.inr (.inr 86)), none, none, none, none, none], [], (am_sh, am_mm U7)) (none, (am_sh, am_mm U8)) ∧ (0 ≤ (w32 ((w32 (10 * (U1 86 40))) + (U1 94 (U1 86 40).toNat))) ∧ (w32 ((w32 (10 * (U1 86 40))) + (U1 94 (U1 86 40).toNat))) < 20) ∧ (0 ≤ (w32 ((w32 (10 * (U1 86 40))) + (U1 94 (U1 86 40).toNat))) ∧ (w32 ((w32 (10 * (U1 86 40))) + (U1 94 (U1 86 40).toNat))) < 20) ∧ (0 ≤ ((am_upd (am_upd U8 95 (w32 ((w32 (10 * (U1 86 40))) + (U1 94 (U1 86 40).toNat))).toNat r2) 96 (w32 ((w32 (10 * (U1 86 40))) + (U1 94 (U1 86 40).toNat))).toNat r3) 86 40) ∧ ((am_upd (am_upd U8 95 (w32 ((w32 (10 * (U1 86 40))) + (U1 94 (U1 86 40).toNat))).toNat r2) 96 (w32 ((w32 (10 * (U1 86 40))) + (U1 94 (U1 86 40).toNat))).toNat r3) 86 40) < 2) ∧ (0 ≤ ((am_upd (am_upd U8 95 (w32 ((w32 (10 * (U1 86 40))) + (U1 94 (U1 86 40).toNat))).toNat r2) 96 (w32 ((w32 (10 * (U1 86 40))) + (U1 94 (U1 86 40).toNat))).toNat r3) 86 40) ∧ ((am_upd (am_upd U8 95 (w32 ((w32 (10 * (U1 86 40))) + (U1 94 (U1 86 40).toNat))).toNat r2) 96 (w32 ((w32 (10 * (U1 86 40))) + (U1 94 (U1 86 40).toNat))).toNat r3) 86 40) < 2) ∧ R = (none, (am_sh, am_mm (am_upd (am_upd (am_upd U8 95 (w32 ((w32 (10 * (U1 86 40))) + (U1 94 (U1 86 40).toNat))).toNat r2) 96 (w32 ((w32 (10 * (U1 86 40))) + (U1 94 (U1 86 40).toNat))).toNat r3) 94 ((am_upd (am_upd U8 95 (w32 ((w32 (10 * (U1 86 40))) + (U1 94 (U1 86 40).toNat))).toNat r2) 96 (w32 ((w32 (10 * (U1 86 40))) + (U1 94 (U1 86 40).toNat))).toNat r3) 86 40).toNat (w32 (((am_upd (am_upd U8 95 (w32 ((w32 (10 * (U1 86 40))) + (U1 94 (U1 86 40).toNat))).toNat r2) 96 (w32 ((w32 (10 * (U1 86 40))) + (U1 94 (U1 86 40).toNat))).toNat r3) 94 ((am_upd (am_upd U8 95 (w32 ((w32 (10 * (U1 86 40))) + (U1 94 (U1 86 40).toNat))).toNat r2) 96 (w32 ((w32 (10 * (U1 86 40))) + (U1 94 (U1 86 40).toNat))).toNat r3) 86 40).toNat) + 1)))))) ∧ (¬ ((U7 86 8) ≤ 0) → R = (none, (am_sh, am_mm U7)))) ∧ (¬ (r7 = 0) → ∃ U9 : Nat → Nat → Int, Ev kz (d, 196, 0, [some (.inr (.inr 86)), some (.inl 3), some (.inl (U7 86 4))], [], (am_sh, am_mm U7)) (none, (am_sh, am_mm U9)) ∧ ((((U9 86 8) ≤ 0 : Prop)) → ∃ U10 : Nat → Nat → Int, Ev kz (d, 93, 0, [some (.inr (.inr 86)), none, none, none, none, none], [], (am_sh, am_mm U9)) (none, (am_sh, am_mm U10)) ∧ (0 ≤ (w32 ((w32 (10 * (U1 86 40))) + (U1 94 (U1 86 40).toNat))) ∧ (w32 ((w32 (10 * (U1 86 40))) + (U1 94 (U1 86 40).toNat))) < 20) ∧ (0 ≤ (w32 ((w32 (10 * (U1 86 40))) + (U1 94 (U1 86 40).toNat))) ∧ (w32 ((w32 (10 * (U1 86 40))) + (U1 94 (U1 86 40).toNat))) < 20) ∧ (0 ≤ ((am_upd (am_upd U10 95 (w32 ((w32 (10 * (U1 86 40))) + (U1 94 (U1 86 40).toNat))).toNat r2) 96 (w32 ((w32 (10 * (U1 86 40))) + (U1 94 (U1 86 40).toNat))).toNat r3) 86 40) ∧ ((am_upd (am_upd U10 95 (w32 ((w32 (10 * (U1 86 40))) + (U1 94 (U1 86 40).toNat))).toNat r2) 96 (w32 ((w32 (10 * (U1 86 40))) + (U1 94 (U1 86 40).toNat))).toNat r3) 86 40) < 2) ∧ (0 ≤ ((am_upd (am_upd U10 95 (w32 ((w32 (10 * (U1 86 40))) + (U1 94 (U1 86 40).toNat))).toNat r2) 96 (w32 ((w32 (10 * (U1 86 40))) + (U1 94 (U1 86 40).toNat))).toNat r3) 86 40) ∧ ((am_upd (am_upd U10 95 (w32 ((w32 (10 * (U1 86 40))) + (U1 94 (U1 86 40).toNat))).toNat r2) 96 (w32 ((w32 (10 * (U1 86 40))) + (U1 94 (U1 86 40).toNat))).toNat r3) 86 40) < 2) ∧ R = (none, (am_sh, am_mm (am_upd (am_upd (am_upd U10 95 (w32 ((w32 (10 * (U1 86 40))) + (U1 94 (U1 86 40).toNat))).toNat r2) 96 (w32 ((w32 (10 * (U1 86 40))) + (U1 94 (U1 86 40).toNat))).toNat r3) 94 ((am_upd (am_upd U10 95 (w32 ((w32 (10 * (U1 86 40))) + (U1 94 (U1 86 40).toNat))).toNat r2) 96 (w32 ((w32 (10 * (U1 86 40))) + (U1 94 (U1 86 40).toNat))).toNat r3) 86 40).toNat (w32 (((am_upd (am_upd U10 95 (w32 ((w32 (10 * (U1 86 40))) + (U1 94 (U1 86 40).toNat))).toNat r2) 96 (w32 ((w32 (10 * (U1 86 40))) + (U1 94 (U1 86 40).toNat))).toNat r3) 94 ((am_upd (am_upd U10 95 (w32 ((w32 (10 * (U1 86 40))) + (U1 94 (U1 86 40).toNat))).toNat r2) 96 (w32 ((w32 (10 * (U1 86 40))) + (U1 94 (U1 86 40).toNat))).toNat r3) 86 40).toNat) + 1)))))) ∧ (¬ ((U9 86 8) ≤ 0) → R = (none, (am_sh, am_mm U9))))))) ∧ (¬ (¬ r1 = 0) → R = (none, (am_sh, am_mm U1)))) ∧ (¬ (¬ (U 94 (U 86 40).toNat) = 10) → ∃ (r11 : Int) (U11 : Nat → Nat → Int), Ev kz (d, 264, 0, [some (.inr (.inr 86)), some (.inl 1)], [], (am_sh, am_mm U)) (some (.inl r11), (am_sh, am_mm U11)) ∧ (((¬ r11 = 0 : Prop)) → (0 ≤ (U11 86 40) ∧ (U11 86 40) < 2) ∧ ∃ (r12 : Int) (U12 : Nat → Nat → Int), Ev kz (d, 267, 0, [some (.inr (.inr 86)), some (.inl 1), none], [], (am_sh, am_mm U11)) (some (.inl r12), (am_sh, am_mm U12)) ∧ ∃ (r13 : Int) (U13 : Nat → Nat → Int), Ev kz (d, 269, 0, [some (.inr (.inr 86)), some (.inl 1), none], [], (am_sh, am_mm U12)) (some (.inl r13), (am_sh, am_mm U13)) ∧ (((¬ (U13 86 8) = 0 : Prop)) → ((((U13 86 8) ≤ 0 : Prop)) → ∃ U14 : Nat → Nat → Int, Ev kz (d, 93, 0, [some (.inr (.inr 86)), none, none, none, none, none], [], (am_sh, am_mm U13)) (none, (am_sh, am_mm U14)) ∧ (0 ≤ (w32 ((w32 (10 * (U11 86 40))) + (U11 94 (U11 86 40).toNat))) ∧ (w32 ((w32 (10 * (U11 86 40))) + (U11 94 (U11 86 40).toNat))) < 20) ∧ (0 ≤ (w32 ((w32 (10 * (U11 86 40))) + (U11 94 (U11 86 40).toNat))) ∧ (w32 ((w32 (10 * (U11 86 40))) + (U11 94 (U11 86 40).toNat))) < 20) ∧ (0 ≤ ((am_upd (am_upd U14 95 (w32 ((w32 (10 * (U11 86 40))) + (U11 94 (U11 86 40).toNat))).toNat r12) 96 (w32 ((w32 (10 * (U11 86 40))) + (U11 94 (U11 86 40).toNat))).toNat r13) 86 40) ∧ ((am_upd (am_upd U14 95 (w32 ((w32 (10 * (U11 86 40))) + (U11 94 (U11 86 40).toNat))).toNat r12) 96 (w32 ((w32 (10 * (U11 86 40))) + (U11 94 (U11 86 40).toNat))).toNat r13) 86 40) < 2) ∧ (0 ≤ ((am_upd (am_upd U14 95 (w32 ((w32 (10 * (U11 86 40))) + (U11 94 (U11 86 40).toNat))).toNat r12) 96 (w32 ((w32 (10 * (U11 86 40))) + (U11 94 (U11 86 40).toNat))).toNat r13) 86 40) ∧ ((am_upd (am_upd U14 95 (w32 ((w32 (10 * (U11 86 40))) + (U11 94 (U11 86 40).toNat))).toNat r12) 96 (w32 ((w32 (10 * (U11 86 40))) + (U11 94 (U11 86 40).toNat))).toNat r13) 86 40) < 2) ∧ R = (none, (am_sh, am_mm (am_upd (am_upd (am_upd U14 95 (w32 ((w32 (10 * (U11 86 40))) + (U11 94 (U11 86 40).toNat))).toNat r12) 96 (w32 ((w32 (10 * (U11 86 40))) + (U11 94 (U11 86 40).toNat))).toNat r13) 94 ((am_upd (am_upd U14 95 (w32 ((w32 (10 * (U11 86 40))) + (U11 94 (U11 86 40).toNat))).toNat r12) 96 (w32 ((w32 (10 * (U11 86 40))) + (U11 94 (U11 86 40).toNat))).toNat r13) 86 40).toNat (w32 (((am_upd (am_upd U14 95 (w32 ((w32 (10 * (U11 86 40))) + (U11 94 (U11 86 40).toNat))).toNat r12) 96 (w32 ((w32 (10 * (U11 86 40))) + (U11 94 (U11 86 40).toNat))).toNat r13) 94 ((am_upd (am_upd U14 95 (w32 ((w32 (10 * (U11 86 40))) + (U11 94 (U11 86 40).toNat))).toNat r12) 96 (w32 ((w32 (10 * (U11 86 40))) + (U11 94 (U11 86 40).toNat))).toNat r13) 86 40).toNat) + 1)))))) ∧ (¬ ((U13 86 8) ≤ 0) → R = (none, (am_sh, am_mm U13)))) ∧ (¬ (¬ (U13 86 8) = 0) → (((r12 = r13 : Prop)) → ∃ U15 : Nat → Nat → Int, Ev kz (d, 196, 0, [some (.inr (.inr 86)), some (.inl 3), some (.inl (U13 86 4))], [], (am_sh, am_mm U13)) (none, (am_sh, am_mm U15)) ∧ ((((U15 86 8) ≤ 0 : Prop)) → ∃ U16 : Nat → Nat → Int, Ev kz (d, 93, 0, [some (.inr (.inr 86)), none, none, none, none, none], [], (am_sh, am_mm U15)) (none, (am_sh, am_mm U16)) ∧ (0 ≤ (w32 ((w32 (10 * (U11 86 40))) + (U11 94 (U11 86 40).toNat))) ∧ (w32 ((w32 (10 * (U11 86 40))) + (U11 94 (U11 86 40).toNat))) < 20) ∧ (0 ≤ (w32 ((w32 (10 * (U11 86 40))) + (U11 94 (U11 86 40).toNat))) ∧ (w32 ((w32 (10 * (U11 86 40))) + (U11 94 (U11 86 40).toNat))) < 20) ∧ (0 ≤ ((am_upd (am_upd U16 95 (w32 ((w32 (10 * (U11 86 40))) + (U11 94 (U11 86 40).toNat))).toNat r12) 96 (w32 ((w32 (10 * (U11 86 40))) + (U11 94 (U11 86 40).toNat))).toNat r13) 86 40) ∧ ((am_upd (am_upd U16 95 (w32 ((w32 (10 * (U11 86 40))) + (U11 94 (U11 86 40).toNat))).toNat r12) 96 (w32 ((w32 (10 * (U11 86 40))) + (U11 94 (U11 86 40).toNat))).toNat r13) 86 40) < 2) ∧ (0 ≤ ((am_upd (am_upd U16 95 (w32 ((w32 (10 * (U11 86 40))) + (U11 94 (U11 86 40).toNat))).toNat r12) 96 (w32 ((w32 (10 * (U11 86 40))) + (U11 94 (U11 86 40).toNat))).toNat r13) 86 40) ∧ ((am_upd (am_upd U16 95 (w32 ((w32 (10 * (U11 86 40))) + (U11 94 (U11 86 40).toNat))).toNat r12) 96 (w32 ((w32 (10 * (U11 86 40))) + (U11 94 (U11 86 40).toNat))).toNat r13) 86 40) < 2) ∧ R = (none, (am_sh, am_mm (am_upd (am_upd (am_upd U16 95 (w32 ((w32 (10 * (U11 86 40))) + (U11 94 (U11 86 40).toNat))).toNat r12) 96 (w32 ((w32 (10 * (U11 86 40))) + (U11 94 (U11 86 40).toNat))).toNat r13) 94 ((am_upd (am_upd U16 95 (w32 ((w32 (10 * (U11 86 40))) + (U11 94 (U11 86 40).toNat))).toNat r12) 96 (w32 ((w32 (10 * (U11 86 40))) + (U11 94 (U11 86 40).toNat))).toNat r13) 86 40).toNat (w32 (((am_upd (am_upd U16 95 (w32 ((w32 (10 * (U11 86 40))) + (U11 94 (U11 86 40).toNat))).toNat r12) 96 (w32 ((w32 (10 * (U11 86 40))) + (U11 94 (U11 86 40).toNat))).toNat r13) 94 ((am_upd (am_upd U16 95 (w32 ((w32 (10 * (U11 86 40))) + (U11 94 (U11 86 40).toNat))).toNat r12) 96 (w32 ((w32 (10 * (U11 86 40))) + (U11 94 (U11 86 40).toNat))).toNat r13) 86 40).toNat) + 1)))))) ∧ (¬ ((U15 86 8) ≤ 0) → R = (none, (am_sh, am_mm U15)))) ∧ (¬ (r12 = r13) → ∃ (r17 : Int) (U17 : Nat → Nat → Int), Ev kz (d, 113, 0, [some (.inr (.inr 86)), some (.inl (U13 86 40)), some (.inl r12), some (.inl r13), none, none], [], (am_sh, am_mm U13)) (some (.inl r17), (am_sh, am_mm U17)) ∧ (((r17 = 0 : Prop)) → ((((U17 86 8) ≤ 0 : Prop)) → ∃ U18 : Nat → Nat → Int, Ev kz (d, 93, 0, [some (.inr (.inr 86)), none, none, none, none, none], [], (am_sh, am_mm U17)) (none, (am_sh, am_mm U18)) ∧ (0 ≤ (w32 ((w32 (10 * (U11 86 40))) + (U11 94 (U11 86 40).toNat))) ∧ (w32 ((w32 (10 * (U11 86 40))) + (U11 94 (U11 86 40).toNat))) < 20) ∧ (0 ≤ (w32 ((w32 (10 * (U11 86 40))) + (U11 94 (U11 86 40).toNat))) ∧ (w32 ((w32 (10 * (U11 86 40))) + (U11 94 (U11 86 40).toNat))) < 20) ∧ (0 ≤ ((am_upd (am_upd U18 95 (w32 ((w32 (10 * (U11 86 40))) + (U11 94 (U11 86 40).toNat))).toNat r12) 96 (w32 ((w32 (10 * (U11 86 40))) + (U11 94 (U11 86 40).toNat))).toNat r13) 86 40) ∧ ((am_upd (am_upd U18 95 (w32 ((w32 (10 * (U11 86 40))) + (U11 94 (U11 86 40).toNat))).toNat r12) 96 (w32 ((w32 (10 * (U11 86 40))) + (U11 94 (U11 86 40).toNat))).toNat r13) 86 40) < 2) ∧ (0 ≤ ((am_upd (am_upd U18 95 (w32 ((w32 (10 * (U11 86 40))) + (U11 94 (U11 86 40).toNat))).toNat r12) 96 (w32 ((w32 (10 * (U11 86 40))) + (U11 94 (U11 86 40).toNat))).toNat r13) 86 40) ∧ ((am_upd (am_upd U18 95 (w32 ((w32 (10 * (U11 86 40))) + (U11 94 (U11 86 40).toNat))).toNat r12) 96 (w32 ((w32 (10 * (U11 86 40))) + (U11 94 (U11 86 40).toNat))).toNat r13) 86 40) < 2) ∧ R = (none, (am_sh, am_mm (am_upd (am_upd (am_upd U18 95 (w32 ((w32 (10 * (U11 86 40))) + (U11 94 (U11 86 40).toNat))).toNat r12) 96 (w32 ((w32 (10 * (U11 86 40))) + (U11 94 (U11 86 40).toNat))).toNat r13) 94 ((am_upd (am_upd U18 95 (w32 ((w32 (10 * (U11 86 40))) + (U11 94 (U11 86 40).toNat))).toNat r12) 96 (w32 ((w32 (10 * (U11 86 40))) + (U11 94 (U11 86 40).toNat))).toNat r13) 86 40).toNat (w32 (((am_upd (am_upd U18 95 (w32 ((w32 (10 * (U11 86 40))) + (U11 94 (U11 86 40).toNat))).toNat r12) 96 (w32 ((w32 (10 * (U11 86 40))) + (U11 94 (U11 86 40).toNat))).toNat r13) 94 ((am_upd (am_upd U18 95 (w32 ((w32 (10 * (U11 86 40))) + (U11 94 (U11 86 40).toNat))).toNat r12) 96 (w32 ((w32 (10 * (U11 86 40))) + (U11 94 (U11 86 40).toNat))).toNat r13) 86 40).toNat) + 1)))))) ∧ (¬ ((U17 86 8) ≤ 0) → R = (none, (am_sh, am_mm U17)))) ∧ (¬ (r17 = 0) → ∃ U19 : Nat → Nat → Int, Ev kz (d, 196, 0, [some (.inr (.inr 86)), some (.inl 3), some (.inl (U17 86 4))], [], (am_sh, am_mm U17)) (none, (am_sh, am_mm U19)) ∧ ((((U19 86 8) ≤ 0 : Prop)) → ∃ U20 : Nat → Nat → Int, Ev kz (d, 93, 0, [some (.inr (.inr 86)), none, none, none, none, none], [], (am_sh, am_mm U19)) (none, (am_sh, am_mm U20)) ∧ (0 ≤ (w32 ((w32 (10 * (U11 86 40))) + (U11 94 (U11 86 40).toNat))) ∧ (w32 ((w32 (10 * (U11 86 40))) + (U11 94 (U11 86 40).toNat))) < 20) ∧ (0 ≤ (w32 ((w32 (10 * (U11 86 40))) + (U11 94 (U11 86 40).toNat))) ∧ (w32 ((w32 (10 * (U11 86 40))) + (U11 94 (U11 86 40).toNat))) < 20) ∧ (0 ≤ ((am_upd (am_upd U20 95 (w32 ((w32 (10 * (U11 86 40))) + (U11 94 (U11 86 40).toNat))).toNat r12) 96 (w32 ((w32 (10 * (U11 86 40))) + (U11 94 (U11 86 40).toNat))).toNat r13) 86 40) ∧ ((am_upd (am_upd U20 95 (w32 ((w32 (10 * (U11 86 40))) + (U11 94 (U11 86 40).toNat))).toNat r12) 96 (w32 ((w32 (10 * (U11 86 40))) + (U11 94 (U11 86 40).toNat))).toNat r13) 86 40) < 2) ∧ (0 ≤ ((am_upd (am_upd U20 95 (w32 ((w32 (10 * (U11 86 40))) + (U11 94 (U11 86 40).toNat))).toNat r12) 96 (w32 ((w32 (10 * (U11 86 40))) + (U11 94 (U11 86 40).toNat))).toNat r13) 86 40) ∧ ((am_upd (am_upd U20 95 (w32 ((w32 (10 * (U11 86 40))) + (U11 94 (U11 86 40).toNat))).toNat r12) 96 (w32 ((w32 (10 * (U11 86 40))) + (U11 94 (U11 86 40).toNat))).toNat r13) 86 40) < 2) ∧ R = (none, (am_sh, am_mm (am_upd (am_upd (am_upd U20 95 (w32 ((w32 (10 * (U11 86 40))) + (U11 94 (U11 86 40).toNat))).toNat r12) 96 (w32 ((w32 (10 * (U11 86 40))) + (U11 94 (U11 86 40).toNat))).toNat r13) 94 ((am_upd (am_upd U20 95 (w32 ((w32 (10 * (U11 86 40))) + (U11 94 (U11 86 40).toNat))).toNat r12) 96 (w32 ((w32 (10 * (U11 86 40))) + (U11 94 (U11 86 40).toNat))).toNat r13) 86 40).toNat (w32 (((am_upd (am_upd U20 95 (w32 ((w32 (10 * (U11 86 40))) + (U11 94 (U11 86 40).toNat))).toNat r12) 96 (w32 ((w32 (10 * (U11 86 40))) + (U11 94 (U11 86 40).toNat))).toNat r13) 94 ((am_upd (am_upd U20 95 (w32 ((w32 (10 * (U11 86 40))) + (U11 94 (U11 86 40).toNat))).toNat r12) 96 (w32 ((w32 (10 * (U11 86 40))) + (U11 94 (U11 86 40).toNat))).toNat r13) 86 40).toNat) + 1)))))) ∧ (¬ ((U19 86 8) ≤ 0) → R = (none, (am_sh, am_mm U19))))))) ∧ (¬ (¬ r11 = 0) → R = (none, (am_sh, am_mm U11))))) : Ev kz ((d + 1), 190, 0, [some (.inr (.inr 86)), none, none, none], [], (am_sh, am_mm U)) R := by
  refine ev_seg (σ1 := ((d + 1), 190, 9, [some (.inr (.inr 86)), none, none, none], [.inl (U 86 40), .inr (.inr 94), .inr (.inr 86)], (am_sh, am_mm U))) 5 (fun _ => rfl) ?_
  refine eu_iald 94 (n := 2) rfl (by decide) rfl (fun _ => rfl) h.1 ?_
  have ha := h.2
  refine ev_br (P := ¬ (U 94 (U 86 40).toNat) = 10) (σ1 := ((d + 1), 190, 19, [some (.inr (.inr 86)), none, none, none], [.inr (.inr 86)], (am_sh, am_mm U))) (σ2 := ((d + 1), 190, 15, [some (.inr (.inr 86)), none, none, none], [.inr (.inr 86)], (am_sh, am_mm U))) 2 (fun _ => rfl) (fun hc => ?_) (fun hc => ?_)
  · have ha1 := ha.1 hc
    refine ev_seg (σ1 := ((d + 1), 190, 20, [some (.inr (.inr 86)), none, none, none], [.inl 0, .inr (.inr 86)], (am_sh, am_mm U))) 1 (fun _ => rfl) ?_
    obtain ⟨r1, U1, ha1c, ha1a⟩ := ha1
    refine ev_cal (σc := (d, 264, 0, [some (.inr (.inr 86)), some (.inl 0)], [], (am_sh, am_mm U))) (fun _ => rfl) ha1c ?_
    show Ev kz ((d + 1), 190, 23, [some (.inr (.inr 86)), none, none, none], [.inl r1], (am_sh, am_mm U1)) R
    refine ev_br (P := ¬ r1 = 0) (σ1 := ((d + 1), 190, 27, [some (.inr (.inr 86)), none, none, none], [], (am_sh, am_mm U1))) (σ2 := ((d + 1), 190, 26, [some (.inr (.inr 86)), none, none, none], [], (am_sh, am_mm U1))) 1 (fun _ => rfl) (fun hc => ?_) (fun hc => ?_)
    · have ha1a1 := ha1a.1 hc
      refine ev_seg (σ1 := ((d + 1), 190, 42, [some (.inr (.inr 86)), none, none, none], [.inl (U1 86 40), .inr (.inr 94), .inl (w32 (10 * (U1 86 40)))], (am_sh, am_mm U1))) 8 (fun _ => rfl) ?_
      refine eu_iald 94 (n := 2) rfl (by decide) rfl (fun _ => rfl) ha1a1.1 ?_
      have ha1a1a := ha1a1.2
      refine ev_seg (σ1 := ((d + 1), 190, 47, [some (.inr (.inr 86)), some (.inl (w32 ((w32 (10 * (U1 86 40))) + (U1 94 (U1 86 40).toNat)))), none, none], [.inl 1, .inr (.inr 86)], (am_sh, am_mm U1))) 4 (fun _ => rfl) ?_
      obtain ⟨r2, U2, ha1a1ac, ha1a1aa⟩ := ha1a1a
      refine ev_cal (σc := (d, 267, 0, [some (.inr (.inr 86)), some (.inl 1), none], [], (am_sh, am_mm U1))) (fun _ => rfl) ha1a1ac ?_
      show Ev kz ((d + 1), 190, 50, [some (.inr (.inr 86)), some (.inl (w32 ((w32 (10 * (U1 86 40))) + (U1 94 (U1 86 40).toNat)))), none, none], [.inl r2], (am_sh, am_mm U2)) R
      refine ev_seg (σ1 := ((d + 1), 190, 53, [some (.inr (.inr 86)), some (.inl (w32 ((w32 (10 * (U1 86 40))) + (U1 94 (U1 86 40).toNat)))), some (.inl r2), none], [.inl 1, .inr (.inr 86)], (am_sh, am_mm U2))) 3 (fun _ => rfl) ?_
      obtain ⟨r3, U3, ha1a1aac, ha1a1aaa⟩ := ha1a1aa
      refine ev_cal (σc := (d, 269, 0, [some (.inr (.inr 86)), some (.inl 1), none], [], (am_sh, am_mm U2))) (fun _ => rfl) ha1a1aac ?_
      show Ev kz ((d + 1), 190, 56, [some (.inr (.inr 86)), some (.inl (w32 ((w32 (10 * (U1 86 40))) + (U1 94 (U1 86 40).toNat)))), some (.inl r2), none], [.inl r3], (am_sh, am_mm U3)) R
      refine ev_br (P := ¬ (U3 86 8) = 0) (σ1 := ((d + 1), 190, 91, [some (.inr (.inr 86)), some (.inl (w32 ((w32 (10 * (U1 86 40))) + (U1 94 (U1 86 40).toNat)))), some (.inl r2), some (.inl r3)], [], (am_sh, am_mm U3))) (σ2 := ((d + 1), 190, 64, [some (.inr (.inr 86)), some (.inl (w32 ((w32 (10 * (U1 86 40))) + (U1 94 (U1 86 40).toNat)))), some (.inl r2), some (.inl r3)], [], (am_sh, am_mm U3))) 4 (fun _ => rfl) (fun hc => ?_) (fun hc => ?_)
      · have ha1a1aaa1 := ha1a1aaa.1 hc
        refine ev_br (P := (U3 86 8) ≤ 0) (σ1 := ((d + 1), 190, 99, [some (.inr (.inr 86)), some (.inl (w32 ((w32 (10 * (U1 86 40))) + (U1 94 (U1 86 40).toNat)))), some (.inl r2), some (.inl r3)], [], (am_sh, am_mm U3))) (σ2 := ((d + 1), 190, 98, [some (.inr (.inr 86)), some (.inl (w32 ((w32 (10 * (U1 86 40))) + (U1 94 (U1 86 40).toNat)))), some (.inl r2), some (.inl r3)], [], (am_sh, am_mm U3))) 3 (fun _ => rfl) (fun hc => ?_) (fun hc => ?_)
        · have ha1a1aaa11 := ha1a1aaa1.1 hc
          refine ev_seg (σ1 := ((d + 1), 190, 100, [some (.inr (.inr 86)), some (.inl (w32 ((w32 (10 * (U1 86 40))) + (U1 94 (U1 86 40).toNat)))), some (.inl r2), some (.inl r3)], [.inr (.inr 86)], (am_sh, am_mm U3))) 1 (fun _ => rfl) ?_
          obtain ⟨U4, ha1a1aaa11c, ha1a1aaa11a⟩ := ha1a1aaa11
          refine ev_cal (σc := (d, 93, 0, [some (.inr (.inr 86)), none, none, none, none, none], [], (am_sh, am_mm U3))) (fun _ => rfl) ha1a1aaa11c ?_
          show Ev kz ((d + 1), 190, 103, [some (.inr (.inr 86)), some (.inl (w32 ((w32 (10 * (U1 86 40))) + (U1 94 (U1 86 40).toNat)))), some (.inl r2), some (.inl r3)], [], (am_sh, am_mm U4)) R
          refine ev_seg (σ1 := ((d + 1), 190, 109, [some (.inr (.inr 86)), some (.inl (w32 ((w32 (10 * (U1 86 40))) + (U1 94 (U1 86 40).toNat)))), some (.inl r2), some (.inl r3)], [.inl r2, .inl (w32 ((w32 (10 * (U1 86 40))) + (U1 94 (U1 86 40).toNat))), .inr (.inr 95)], (am_sh, am_mm U4))) 4 (fun _ => rfl) ?_
          refine eu_iast 95 (n := 20) rfl (by decide) rfl (fun _ => rfl) ha1a1aaa11a.1 ?_
          have ha1a1aaa11aa := ha1a1aaa11a.2
          refine ev_seg (σ1 := ((d + 1), 190, 116, [some (.inr (.inr 86)), some (.inl (w32 ((w32 (10 * (U1 86 40))) + (U1 94 (U1 86 40).toNat)))), some (.inl r2), some (.inl r3)], [.inl r3, .inl (w32 ((w32 (10 * (U1 86 40))) + (U1 94 (U1 86 40).toNat))), .inr (.inr 96)], (am_sh, am_mm (am_upd U4 95 (w32 ((w32 (10 * (U1 86 40))) + (U1 94 (U1 86 40).toNat))).toNat r2)))) 4 (fun _ => rfl) ?_
          refine eu_iast 96 (n := 20) rfl (by decide) rfl (fun _ => rfl) ha1a1aaa11aa.1 ?_
          have ha1a1aaa11aaa := ha1a1aaa11aa.2
          refine ev_seg (σ1 := ((d + 1), 190, 126, [some (.inr (.inr 86)), some (.inl (w32 ((w32 (10 * (U1 86 40))) + (U1 94 (U1 86 40).toNat)))), some (.inl r2), some (.inl r3)], [.inl ((am_upd (am_upd U4 95 (w32 ((w32 (10 * (U1 86 40))) + (U1 94 (U1 86 40).toNat))).toNat r2) 96 (w32 ((w32 (10 * (U1 86 40))) + (U1 94 (U1 86 40).toNat))).toNat r3) 86 40), .inr (.inr 94), .inl ((am_upd (am_upd U4 95 (w32 ((w32 (10 * (U1 86 40))) + (U1 94 (U1 86 40).toNat))).toNat r2) 96 (w32 ((w32 (10 * (U1 86 40))) + (U1 94 (U1 86 40).toNat))).toNat r3) 86 40), .inr (.inr 94)], (am_sh, am_mm (am_upd (am_upd U4 95 (w32 ((w32 (10 * (U1 86 40))) + (U1 94 (U1 86 40).toNat))).toNat r2) 96 (w32 ((w32 (10 * (U1 86 40))) + (U1 94 (U1 86 40).toNat))).toNat r3)))) 5 (fun _ => rfl) ?_
          refine eu_iald 94 (n := 2) rfl (by decide) rfl (fun _ => rfl) ha1a1aaa11aaa.1 ?_
          have ha1a1aaa11aaaa := ha1a1aaa11aaa.2
          refine ev_seg (σ1 := ((d + 1), 190, 129, [some (.inr (.inr 86)), some (.inl (w32 ((w32 (10 * (U1 86 40))) + (U1 94 (U1 86 40).toNat)))), some (.inl r2), some (.inl r3)], [.inl (w32 (((am_upd (am_upd U4 95 (w32 ((w32 (10 * (U1 86 40))) + (U1 94 (U1 86 40).toNat))).toNat r2) 96 (w32 ((w32 (10 * (U1 86 40))) + (U1 94 (U1 86 40).toNat))).toNat r3) 94 ((am_upd (am_upd U4 95 (w32 ((w32 (10 * (U1 86 40))) + (U1 94 (U1 86 40).toNat))).toNat r2) 96 (w32 ((w32 (10 * (U1 86 40))) + (U1 94 (U1 86 40).toNat))).toNat r3) 86 40).toNat) + 1)), .inl ((am_upd (am_upd U4 95 (w32 ((w32 (10 * (U1 86 40))) + (U1 94 (U1 86 40).toNat))).toNat r2) 96 (w32 ((w32 (10 * (U1 86 40))) + (U1 94 (U1 86 40).toNat))).toNat r3) 86 40), .inr (.inr 94)], (am_sh, am_mm (am_upd (am_upd U4 95 (w32 ((w32 (10 * (U1 86 40))) + (U1 94 (U1 86 40).toNat))).toNat r2) 96 (w32 ((w32 (10 * (U1 86 40))) + (U1 94 (U1 86 40).toNat))).toNat r3)))) 2 (fun _ => rfl) ?_
          refine eu_iast 94 (n := 2) rfl (by decide) rfl (fun _ => rfl) ha1a1aaa11aaaa.1 ?_
          have ha1a1aaa11aaaaa := ha1a1aaa11aaaa.2
          subst ha1a1aaa11aaaaa
          exact ev_end 1 (fun _ => rfl)
        · have ha1a1aaa12 := ha1a1aaa1.2 hc
          subst ha1a1aaa12
          exact ev_end 1 (fun _ => rfl)
      · have ha1a1aaa2 := ha1a1aaa.2 hc
        refine ev_br (P := r2 = r3) (σ1 := ((d + 1), 190, 82, [some (.inr (.inr 86)), some (.inl (w32 ((w32 (10 * (U1 86 40))) + (U1 94 (U1 86 40).toNat)))), some (.inl r2), some (.inl r3)], [], (am_sh, am_mm U3))) (σ2 := ((d + 1), 190, 69, [some (.inr (.inr 86)), some (.inl (w32 ((w32 (10 * (U1 86 40))) + (U1 94 (U1 86 40).toNat)))), some (.inl r2), some (.inl r3)], [], (am_sh, am_mm U3))) 3 (fun _ => rfl) (fun hc => ?_) (fun hc => ?_)
        · have ha1a1aaa21 := ha1a1aaa2.1 hc
          refine ev_seg (σ1 := ((d + 1), 190, 88, [some (.inr (.inr 86)), some (.inl (w32 ((w32 (10 * (U1 86 40))) + (U1 94 (U1 86 40).toNat)))), some (.inl r2), some (.inl r3)], [.inl (U3 86 4), .inl 3, .inr (.inr 86)], (am_sh, am_mm U3))) 4 (fun _ => rfl) ?_
          obtain ⟨U5, ha1a1aaa21c, ha1a1aaa21a⟩ := ha1a1aaa21
          refine ev_cal (σc := (d, 196, 0, [some (.inr (.inr 86)), some (.inl 3), some (.inl (U3 86 4))], [], (am_sh, am_mm U3))) (fun _ => rfl) ha1a1aaa21c ?_
          show Ev kz ((d + 1), 190, 91, [some (.inr (.inr 86)), some (.inl (w32 ((w32 (10 * (U1 86 40))) + (U1 94 (U1 86 40).toNat)))), some (.inl r2), some (.inl r3)], [], (am_sh, am_mm U5)) R
          refine ev_br (P := (U5 86 8) ≤ 0) (σ1 := ((d + 1), 190, 99, [some (.inr (.inr 86)), some (.inl (w32 ((w32 (10 * (U1 86 40))) + (U1 94 (U1 86 40).toNat)))), some (.inl r2), some (.inl r3)], [], (am_sh, am_mm U5))) (σ2 := ((d + 1), 190, 98, [some (.inr (.inr 86)), some (.inl (w32 ((w32 (10 * (U1 86 40))) + (U1 94 (U1 86 40).toNat)))), some (.inl r2), some (.inl r3)], [], (am_sh, am_mm U5))) 3 (fun _ => rfl) (fun hc => ?_) (fun hc => ?_)
          · have ha1a1aaa21a1 := ha1a1aaa21a.1 hc
            refine ev_seg (σ1 := ((d + 1), 190, 100, [some (.inr (.inr 86)), some (.inl (w32 ((w32 (10 * (U1 86 40))) + (U1 94 (U1 86 40).toNat)))), some (.inl r2), some (.inl r3)], [.inr (.inr 86)], (am_sh, am_mm U5))) 1 (fun _ => rfl) ?_
            obtain ⟨U6, ha1a1aaa21a1c, ha1a1aaa21a1a⟩ := ha1a1aaa21a1
            refine ev_cal (σc := (d, 93, 0, [some (.inr (.inr 86)), none, none, none, none, none], [], (am_sh, am_mm U5))) (fun _ => rfl) ha1a1aaa21a1c ?_
            show Ev kz ((d + 1), 190, 103, [some (.inr (.inr 86)), some (.inl (w32 ((w32 (10 * (U1 86 40))) + (U1 94 (U1 86 40).toNat)))), some (.inl r2), some (.inl r3)], [], (am_sh, am_mm U6)) R
            refine ev_seg (σ1 := ((d + 1), 190, 109, [some (.inr (.inr 86)), some (.inl (w32 ((w32 (10 * (U1 86 40))) + (U1 94 (U1 86 40).toNat)))), some (.inl r2), some (.inl r3)], [.inl r2, .inl (w32 ((w32 (10 * (U1 86 40))) + (U1 94 (U1 86 40).toNat))), .inr (.inr 95)], (am_sh, am_mm U6))) 4 (fun _ => rfl) ?_
            refine eu_iast 95 (n := 20) rfl (by decide) rfl (fun _ => rfl) ha1a1aaa21a1a.1 ?_
            have ha1a1aaa21a1aa := ha1a1aaa21a1a.2
            refine ev_seg (σ1 := ((d + 1), 190, 116, [some (.inr (.inr 86)), some (.inl (w32 ((w32 (10 * (U1 86 40))) + (U1 94 (U1 86 40).toNat)))), some (.inl r2), some (.inl r3)], [.inl r3, .inl (w32 ((w32 (10 * (U1 86 40))) + (U1 94 (U1 86 40).toNat))), .inr (.inr 96)], (am_sh, am_mm (am_upd U6 95 (w32 ((w32 (10 * (U1 86 40))) + (U1 94 (U1 86 40).toNat))).toNat r2)))) 4 (fun _ => rfl) ?_
            refine eu_iast 96 (n := 20) rfl (by decide) rfl (fun _ => rfl) ha1a1aaa21a1aa.1 ?_
            have ha1a1aaa21a1aaa := ha1a1aaa21a1aa.2
            refine ev_seg (σ1 := ((d + 1), 190, 126, [some (.inr (.inr 86)), some (.inl (w32 ((w32 (10 * (U1 86 40))) + (U1 94 (U1 86 40).toNat)))), some (.inl r2), some (.inl r3)], [.inl ((am_upd (am_upd U6 95 (w32 ((w32 (10 * (U1 86 40))) + (U1 94 (U1 86 40).toNat))).toNat r2) 96 (w32 ((w32 (10 * (U1 86 40))) + (U1 94 (U1 86 40).toNat))).toNat r3) 86 40), .inr (.inr 94), .inl ((am_upd (am_upd U6 95 (w32 ((w32 (10 * (U1 86 40))) + (U1 94 (U1 86 40).toNat))).toNat r2) 96 (w32 ((w32 (10 * (U1 86 40))) + (U1 94 (U1 86 40).toNat))).toNat r3) 86 40), .inr (.inr 94)], (am_sh, am_mm (am_upd (am_upd U6 95 (w32 ((w32 (10 * (U1 86 40))) + (U1 94 (U1 86 40).toNat))).toNat r2) 96 (w32 ((w32 (10 * (U1 86 40))) + (U1 94 (U1 86 40).toNat))).toNat r3)))) 5 (fun _ => rfl) ?_
            refine eu_iald 94 (n := 2) rfl (by decide) rfl (fun _ => rfl) ha1a1aaa21a1aaa.1 ?_
            have ha1a1aaa21a1aaaa := ha1a1aaa21a1aaa.2
            refine ev_seg (σ1 := ((d + 1), 190, 129, [some (.inr (.inr 86)), some (.inl (w32 ((w32 (10 * (U1 86 40))) + (U1 94 (U1 86 40).toNat)))), some (.inl r2), some (.inl r3)], [.inl (w32 (((am_upd (am_upd U6 95 (w32 ((w32 (10 * (U1 86 40))) + (U1 94 (U1 86 40).toNat))).toNat r2) 96 (w32 ((w32 (10 * (U1 86 40))) + (U1 94 (U1 86 40).toNat))).toNat r3) 94 ((am_upd (am_upd U6 95 (w32 ((w32 (10 * (U1 86 40))) + (U1 94 (U1 86 40).toNat))).toNat r2) 96 (w32 ((w32 (10 * (U1 86 40))) + (U1 94 (U1 86 40).toNat))).toNat r3) 86 40).toNat) + 1)), .inl ((am_upd (am_upd U6 95 (w32 ((w32 (10 * (U1 86 40))) + (U1 94 (U1 86 40).toNat))).toNat r2) 96 (w32 ((w32 (10 * (U1 86 40))) + (U1 94 (U1 86 40).toNat))).toNat r3) 86 40), .inr (.inr 94)], (am_sh, am_mm (am_upd (am_upd U6 95 (w32 ((w32 (10 * (U1 86 40))) + (U1 94 (U1 86 40).toNat))).toNat r2) 96 (w32 ((w32 (10 * (U1 86 40))) + (U1 94 (U1 86 40).toNat))).toNat r3)))) 2 (fun _ => rfl) ?_
            refine eu_iast 94 (n := 2) rfl (by decide) rfl (fun _ => rfl) ha1a1aaa21a1aaaa.1 ?_
            have ha1a1aaa21a1aaaaa := ha1a1aaa21a1aaaa.2
            subst ha1a1aaa21a1aaaaa
            exact ev_end 1 (fun _ => rfl)
          · have ha1a1aaa21a2 := ha1a1aaa21a.2 hc
            subst ha1a1aaa21a2
            exact ev_end 1 (fun _ => rfl)
        · have ha1a1aaa22 := ha1a1aaa2.2 hc
          refine ev_seg (σ1 := ((d + 1), 190, 76, [some (.inr (.inr 86)), some (.inl (w32 ((w32 (10 * (U1 86 40))) + (U1 94 (U1 86 40).toNat)))), some (.inl r2), some (.inl r3)], [.inl r3, .inl r2, .inl (U3 86 40), .inr (.inr 86)], (am_sh, am_mm U3))) 5 (fun _ => rfl) ?_
          obtain ⟨r7, U7, ha1a1aaa22c, ha1a1aaa22a⟩ := ha1a1aaa22
          refine ev_cal (σc := (d, 113, 0, [some (.inr (.inr 86)), some (.inl (U3 86 40)), some (.inl r2), some (.inl r3), none, none], [], (am_sh, am_mm U3))) (fun _ => rfl) ha1a1aaa22c ?_
          show Ev kz ((d + 1), 190, 79, [some (.inr (.inr 86)), some (.inl (w32 ((w32 (10 * (U1 86 40))) + (U1 94 (U1 86 40).toNat)))), some (.inl r2), some (.inl r3)], [.inl r7], (am_sh, am_mm U7)) R
          refine ev_br (P := r7 = 0) (σ1 := ((d + 1), 190, 91, [some (.inr (.inr 86)), some (.inl (w32 ((w32 (10 * (U1 86 40))) + (U1 94 (U1 86 40).toNat)))), some (.inl r2), some (.inl r3)], [], (am_sh, am_mm U7))) (σ2 := ((d + 1), 190, 82, [some (.inr (.inr 86)), some (.inl (w32 ((w32 (10 * (U1 86 40))) + (U1 94 (U1 86 40).toNat)))), some (.inl r2), some (.inl r3)], [], (am_sh, am_mm U7))) 1 (fun _ => rfl) (fun hc => ?_) (fun hc => ?_)
          · have ha1a1aaa22a1 := ha1a1aaa22a.1 hc
            refine ev_br (P := (U7 86 8) ≤ 0) (σ1 := ((d + 1), 190, 99, [some (.inr (.inr 86)), some (.inl (w32 ((w32 (10 * (U1 86 40))) + (U1 94 (U1 86 40).toNat)))), some (.inl r2), some (.inl r3)], [], (am_sh, am_mm U7))) (σ2 := ((d + 1), 190, 98, [some (.inr (.inr 86)), some (.inl (w32 ((w32 (10 * (U1 86 40))) + (U1 94 (U1 86 40).toNat)))), some (.inl r2), some (.inl r3)], [], (am_sh, am_mm U7))) 3 (fun _ => rfl) (fun hc => ?_) (fun hc => ?_)
            · have ha1a1aaa22a11 := ha1a1aaa22a1.1 hc
              refine ev_seg (σ1 := ((d + 1), 190, 100, [some (.inr (.inr 86)), some (.inl (w32 ((w32 (10 * (U1 86 40))) + (U1 94 (U1 86 40).toNat)))), some (.inl r2), some (.inl r3)], [.inr (.inr 86)], (am_sh, am_mm U7))) 1 (fun _ => rfl) ?_
              obtain ⟨U8, ha1a1aaa22a11c, ha1a1aaa22a11a⟩ := ha1a1aaa22a11
              refine ev_cal (σc := (d, 93, 0, [some (.inr (.inr 86)), none, none, none, none, none], [], (am_sh, am_mm U7))) (fun _ => rfl) ha1a1aaa22a11c ?_
              show Ev kz ((d + 1), 190, 103, [some (.inr (.inr 86)), some (.inl (w32 ((w32 (10 * (U1 86 40))) + (U1 94 (U1 86 40).toNat)))), some (.inl r2), some (.inl r3)], [], (am_sh, am_mm U8)) R
              refine ev_seg (σ1 := ((d + 1), 190, 109, [some (.inr (.inr 86)), some (.inl (w32 ((w32 (10 * (U1 86 40))) + (U1 94 (U1 86 40).toNat)))), some (.inl r2), some (.inl r3)], [.inl r2, .inl (w32 ((w32 (10 * (U1 86 40))) + (U1 94 (U1 86 40).toNat))), .inr (.inr 95)], (am_sh, am_mm U8))) 4 (fun _ => rfl) ?_
              refine eu_iast 95 (n := 20) rfl (by decide) rfl (fun _ => rfl) ha1a1aaa22a11a.1 ?_
              have ha1a1aaa22a11aa := ha1a1aaa22a11a.2
              refine ev_seg (σ1 := ((d + 1), 190, 116, [some (.inr (.inr 86)), some (.inl (w32 ((w32 (10 * (U1 86 40))) + (U1 94 (U1 86 40).toNat)))), some (.inl r2), some (.inl r3)], [.inl r3, .inl (w32 ((w32 (10 * (U1 86 40))) + (U1 94 (U1 86 40).toNat))), .inr (.inr 96)], (am_sh, am_mm (am_upd U8 95 (w32 ((w32 (10 * (U1 86 40))) + (U1 94 (U1 86 40).toNat))).toNat r2)))) 4 (fun _ => rfl) ?_
              refine eu_iast 96 (n := 20) rfl (by decide) rfl (fun _ => rfl) ha1a1aaa22a11aa.1 ?_
              have ha1a1aaa22a11aaa := ha1a1aaa22a11aa.2
              refine ev_seg (σ1 := ((d + 1), 190, 126, [some (.inr (.inr 86)), some (.inl (w32 ((w32 (10 * (U1 86 40))) + (U1 94 (U1 86 40).toNat)))), some (.inl r2), some (.inl r3)], [.inl ((am_upd (am_upd U8 95 (w32 ((w32 (10 * (U1 86 40))) + (U1 94 (U1 86 40).toNat))).toNat r2) 96 (w32 ((w32 (10 * (U1 86 40))) + (U1 94 (U1 86 40).toNat))).toNat r3) 86 40), .inr (.inr 94), .inl ((am_upd (am_upd U8 95 (w32 ((w32 (10 * (U1 86 40))) + (U1 94 (U1 86 40).toNat))).toNat r2) 96 (w32 ((w32 (10 * (U1 86 40))) + (U1 94 (U1 86 40).toNat))).toNat r3) 86 40), .inr (.inr 94)], (am_sh, am_mm (am_upd (am_upd U8 95 (w32 ((w32 (10 * (U1 86 40))) + (U1 94 (U1 86 40).toNat))).toNat r2) 96 (w32 ((w32 (10 * (U1 86 40))) + (U1 94 (U1 86 40).toNat))).toNat r3)))) 5 (fun _ => rfl) ?_
              refine eu_iald 94 (n := 2) rfl (by decide) rfl (fun _ => rfl) ha1a1aaa22a11aaa.1 ?_
              have ha1a1aaa22a11aaaa := ha1a1aaa22a11aaa.2
              refine ev_seg (σ1 := ((d + 1), 190, 129, [some (.inr (.inr 86)), some (.inl (w32 ((w32 (10 * (U1 86 40))) + (U1 94 (U1 86 40).toNat)))), some (.inl r2), some (.inl r3)], [.inl (w32 (((am_upd (am_upd U8 95 (w32 ((w32 (10 * (U1 86 40))) + (U1 94 (U1 86 40).toNat))).toNat r2) 96 (w32 ((w32 (10 * (U1 86 40))) + (U1 94 (U1 86 40).toNat))).toNat r3) 94 ((am_upd (am_upd U8 95 (w32 ((w32 (10 * (U1 86 40))) + (U1 94 (U1 86 40).toNat))).toNat r2) 96 (w32 ((w32 (10 * (U1 86 40))) + (U1 94 (U1 86 40).toNat))).toNat r3) 86 40).toNat) + 1)), .inl ((am_upd (am_upd U8 95 (w32 ((w32 (10 * (U1 86 40))) + (U1 94 (U1 86 40).toNat))).toNat r2) 96 (w32 ((w32 (10 * (U1 86 40))) + (U1 94 (U1 86 40).toNat))).toNat r3) 86 40), .inr (.inr 94)], (am_sh, am_mm (am_upd (am_upd U8 95 (w32 ((w32 (10 * (U1 86 40))) + (U1 94 (U1 86 40).toNat))).toNat r2) 96 (w32 ((w32 (10 * (U1 86 40))) + (U1 94 (U1 86 40).toNat))).toNat r3)))) 2 (fun _ => rfl) ?_
              refine eu_iast 94 (n := 2) rfl (by decide) rfl (fun _ => rfl) ha1a1aaa22a11aaaa.1 ?_
              have ha1a1aaa22a11aaaaa := ha1a1aaa22a11aaaa.2
              subst ha1a1aaa22a11aaaaa
              exact ev_end 1 (fun _ => rfl)
            · have ha1a1aaa22a12 := ha1a1aaa22a1.2 hc
              subst ha1a1aaa22a12
              exact ev_end 1 (fun _ => rfl)
          · have ha1a1aaa22a2 := ha1a1aaa22a.2 hc
            refine ev_seg (σ1 := ((d + 1), 190, 88, [some (.inr (.inr 86)), some (.inl (w32 ((w32 (10 * (U1 86 40))) + (U1 94 (U1 86 40).toNat)))), some (.inl r2), some (.inl r3)], [.inl (U7 86 4), .inl 3, .inr (.inr 86)], (am_sh, am_mm U7))) 4 (fun _ => rfl) ?_
            obtain ⟨U9, ha1a1aaa22a2c, ha1a1aaa22a2a⟩ := ha1a1aaa22a2
            refine ev_cal (σc := (d, 196, 0, [some (.inr (.inr 86)), some (.inl 3), some (.inl (U7 86 4))], [], (am_sh, am_mm U7))) (fun _ => rfl) ha1a1aaa22a2c ?_
            show Ev kz ((d + 1), 190, 91, [some (.inr (.inr 86)), some (.inl (w32 ((w32 (10 * (U1 86 40))) + (U1 94 (U1 86 40).toNat)))), some (.inl r2), some (.inl r3)], [], (am_sh, am_mm U9)) R
            refine ev_br (P := (U9 86 8) ≤ 0) (σ1 := ((d + 1), 190, 99, [some (.inr (.inr 86)), some (.inl (w32 ((w32 (10 * (U1 86 40))) + (U1 94 (U1 86 40).toNat)))), some (.inl r2), some (.inl r3)], [], (am_sh, am_mm U9))) (σ2 := ((d + 1), 190, 98, [some (.inr (.inr 86)), some (.inl (w32 ((w32 (10 * (U1 86 40))) + (U1 94 (U1 86 40).toNat)))), some (.inl r2), some (.inl r3)], [], (am_sh, am_mm U9))) 3 (fun _ => rfl) (fun hc => ?_) (fun hc => ?_)
            · have ha1a1aaa22a2a1 := ha1a1aaa22a2a.1 hc
              refine ev_seg (σ1 := ((d + 1), 190, 100, [some (.inr (.inr 86)), some (.inl (w32 ((w32 (10 * (U1 86 40))) + (U1 94 (U1 86 40).toNat)))), some (.inl r2), some (.inl r3)], [.inr (.inr 86)], (am_sh, am_mm U9))) 1 (fun _ => rfl) ?_
              obtain ⟨U10, ha1a1aaa22a2a1c, ha1a1aaa22a2a1a⟩ := ha1a1aaa22a2a1
              refine ev_cal (σc := (d, 93, 0, [some (.inr (.inr 86)), none, none, none, none, none], [], (am_sh, am_mm U9))) (fun _ => rfl) ha1a1aaa22a2a1c ?_
              show Ev kz ((d + 1), 190, 103, [some (.inr (.inr 86)), some (.inl (w32 ((w32 (10 * (U1 86 40))) + (U1 94 (U1 86 40).toNat)))), some (.inl r2), some (.inl r3)], [], (am_sh, am_mm U10)) R
              refine ev_seg (σ1 := ((d + 1), 190, 109, [some (.inr (.inr 86)), some (.inl (w32 ((w32 (10 * (U1 86 40))) + (U1 94 (U1 86 40).toNat)))), some (.inl r2), some (.inl r3)], [.inl r2, .inl (w32 ((w32 (10 * (U1 86 40))) + (U1 94 (U1 86 40).toNat))), .inr (.inr 95)], (am_sh, am_mm U10))) 4 (fun _ => rfl) ?_
              refine eu_iast 95 (n := 20) rfl (by decide) rfl (fun _ => rfl) ha1a1aaa22a2a1a.1 ?_
              have ha1a1aaa22a2a1aa := ha1a1aaa22a2a1a.2
              refine ev_seg (σ1 := ((d + 1), 190, 116, [some (.inr (.inr 86)), some (.inl (w32 ((w32 (10 * (U1 86 40))) + (U1 94 (U1 86 40).toNat)))), some (.inl r2), some (.inl r3)], [.inl r3, .inl (w32 ((w32 (10 * (U1 86 40))) + (U1 94 (U1 86 40).toNat))), .inr (.inr 96)], (am_sh, am_mm (am_upd U10 95 (w32 ((w32 (10 * (U1 86 40))) + (U1 94 (U1 86 40).toNat))).toNat r2)))) 4 (fun _ => rfl) ?_
              refine eu_iast 96 (n := 20) rfl (by decide) rfl (fun _ => rfl) ha1a1aaa22a2a1aa.1 ?_
              have ha1a1aaa22a2a1aaa := ha1a1aaa22a2a1aa.2
              refine ev_seg (σ1 := ((d + 1), 190, 126, [some (.inr (.inr 86)), some (.inl (w32 ((w32 (10 * (U1 86 40))) + (U1 94 (U1 86 40).toNat)))), some (.inl r2), some (.inl r3)], [.inl ((am_upd (am_upd U10 95 (w32 ((w32 (10 * (U1 86 40))) + (U1 94 (U1 86 40).toNat))).toNat r2) 96 (w32 ((w32 (10 * (U1 86 40))) + (U1 94 (U1 86 40).toNat))).toNat r3) 86 40), .inr (.inr 94), .inl ((am_upd (am_upd U10 95 (w32 ((w32 (10 * (U1 86 40))) + (U1 94 (U1 86 40).toNat))).toNat r2) 96 (w32 ((w32 (10 * (U1 86 40))) + (U1 94 (U1 86 40).toNat))).toNat r3) 86 40), .inr (.inr 94)], (am_sh, am_mm (am_upd (am_upd U10 95 (w32 ((w32 (10 * (U1 86 40))) + (U1 94 (U1 86 40).toNat))).toNat r2) 96 (w32 ((w32 (10 * (U1 86 40))) + (U1 94 (U1 86 40).toNat))).toNat r3)))) 5 (fun _ => rfl) ?_
              refine eu_iald 94 (n := 2) rfl (by decide) rfl (fun _ => rfl) ha1a1aaa22a2a1aaa.1 ?_
              have ha1a1aaa22a2a1aaaa := ha1a1aaa22a2a1aaa.2
              refine ev_seg (σ1 := ((d + 1), 190, 129, [some (.inr (.inr 86)), some (.inl (w32 ((w32 (10 * (U1 86 40))) + (U1 94 (U1 86 40).toNat)))), some (.inl r2), some (.inl r3)], [.inl (w32 (((am_upd (am_upd U10 95 (w32 ((w32 (10 * (U1 86 40))) + (U1 94 (U1 86 40).toNat))).toNat r2) 96 (w32 ((w32 (10 * (U1 86 40))) + (U1 94 (U1 86 40).toNat))).toNat r3) 94 ((am_upd (am_upd U10 95 (w32 ((w32 (10 * (U1 86 40))) + (U1 94 (U1 86 40).toNat))).toNat r2) 96 (w32 ((w32 (10 * (U1 86 40))) + (U1 94 (U1 86 40).toNat))).toNat r3) 86 40).toNat) + 1)), .inl ((am_upd (am_upd U10 95 (w32 ((w32 (10 * (U1 86 40))) + (U1 94 (U1 86 40).toNat))).toNat r2) 96 (w32 ((w32 (10 * (U1 86 40))) + (U1 94 (U1 86 40).toNat))).toNat r3) 86 40), .inr (.inr 94)], (am_sh, am_mm (am_upd (am_upd U10 95 (w32 ((w32 (10 * (U1 86 40))) + (U1 94 (U1 86 40).toNat))).toNat r2) 96 (w32 ((w32 (10 * (U1 86 40))) + (U1 94 (U1 86 40).toNat))).toNat r3)))) 2 (fun _ => rfl) ?_
              refine eu_iast 94 (n := 2) rfl (by decide) rfl (fun _ => rfl) ha1a1aaa22a2a1aaaa.1 ?_
              have ha1a1aaa22a2a1aaaaa := ha1a1aaa22a2a1aaaa.2
              subst ha1a1aaa22a2a1aaaaa
              exact ev_end 1 (fun _ => rfl)
            · have ha1a1aaa22a2a2 := ha1a1aaa22a2a.2 hc
              subst ha1a1aaa22a2a2
              exact ev_end 1 (fun _ => rfl)
    · have ha1a2 := ha1a.2 hc
      subst ha1a2
      exact ev_end 1 (fun _ => rfl)
  · have ha2 := ha.2 hc
    refine ev_seg (σ1 := ((d + 1), 190, 20, [some (.inr (.inr 86)), none, none, none], [.inl 1, .inr (.inr 86)], (am_sh, am_mm U))) 2 (fun _ => rfl) ?_
    obtain ⟨r11, U11, ha2c, ha2a⟩ := ha2
    refine ev_cal (σc := (d, 264, 0, [some (.inr (.inr 86)), some (.inl 1)], [], (am_sh, am_mm U))) (fun _ => rfl) ha2c ?_
    show Ev kz ((d + 1), 190, 23, [some (.inr (.inr 86)), none, none, none], [.inl r11], (am_sh, am_mm U11)) R
    refine ev_br (P := ¬ r11 = 0) (σ1 := ((d + 1), 190, 27, [some (.inr (.inr 86)), none, none, none], [], (am_sh, am_mm U11))) (σ2 := ((d + 1), 190, 26, [some (.inr (.inr 86)), none, none, none], [], (am_sh, am_mm U11))) 1 (fun _ => rfl) (fun hc => ?_) (fun hc => ?_)
    · have ha2a1 := ha2a.1 hc
      refine ev_seg (σ1 := ((d + 1), 190, 42, [some (.inr (.inr 86)), none, none, none], [.inl (U11 86 40), .inr (.inr 94), .inl (w32 (10 * (U11 86 40)))], (am_sh, am_mm U11))) 8 (fun _ => rfl) ?_
      refine eu_iald 94 (n := 2) rfl (by decide) rfl (fun _ => rfl) ha2a1.1 ?_
      have ha2a1a := ha2a1.2
      refine ev_seg (σ1 := ((d + 1), 190, 47, [some (.inr (.inr 86)), some (.inl (w32 ((w32 (10 * (U11 86 40))) + (U11 94 (U11 86 40).toNat)))), none, none], [.inl 1, .inr (.inr 86)], (am_sh, am_mm U11))) 4 (fun _ => rfl) ?_
      obtain ⟨r12, U12, ha2a1ac, ha2a1aa⟩ := ha2a1a
      refine ev_cal (σc := (d, 267, 0, [some (.inr (.inr 86)), some (.inl 1), none], [], (am_sh, am_mm U11))) (fun _ => rfl) ha2a1ac ?_
      show Ev kz ((d + 1), 190, 50, [some (.inr (.inr 86)), some (.inl (w32 ((w32 (10 * (U11 86 40))) + (U11 94 (U11 86 40).toNat)))), none, none], [.inl r12], (am_sh, am_mm U12)) R
      refine ev_seg (σ1 := ((d + 1), 190, 53, [some (.inr (.inr 86)), some (.inl (w32 ((w32 (10 * (U11 86 40))) + (U11 94 (U11 86 40).toNat)))), some (.inl r12), none], [.inl 1, .inr (.inr 86)], (am_sh, am_mm U12))) 3 (fun _ => rfl) ?_
      obtain ⟨r13, U13, ha2a1aac, ha2a1aaa⟩ := ha2a1aa
      refine ev_cal (σc := (d, 269, 0, [some (.inr (.inr 86)), some (.inl 1), none], [], (am_sh, am_mm U12))) (fun _ => rfl) ha2a1aac ?_
      show Ev kz ((d + 1), 190, 56, [some (.inr (.inr 86)), some (.inl (w32 ((w32 (10 * (U11 86 40))) + (U11 94 (U11 86 40).toNat)))), some (.inl r12), none], [.inl r13], (am_sh, am_mm U13)) R
      refine ev_br (P := ¬ (U13 86 8) = 0) (σ1 := ((d + 1), 190, 91, [some (.inr (.inr 86)), some (.inl (w32 ((w32 (10 * (U11 86 40))) + (U11 94 (U11 86 40).toNat)))), some (.inl r12), some (.inl r13)], [], (am_sh, am_mm U13))) (σ2 := ((d + 1), 190, 64, [some (.inr (.inr 86)), some (.inl (w32 ((w32 (10 * (U11 86 40))) + (U11 94 (U11 86 40).toNat)))), some (.inl r12), some (.inl r13)], [], (am_sh, am_mm U13))) 4 (fun _ => rfl) (fun hc => ?_) (fun hc => ?_)
      · have ha2a1aaa1 := ha2a1aaa.1 hc
        refine ev_br (P := (U13 86 8) ≤ 0) (σ1 := ((d + 1), 190, 99, [some (.inr (.inr 86)), some (.inl (w32 ((w32 (10 * (U11 86 40))) + (U11 94 (U11 86 40).toNat)))), some (.inl r12), some (.inl r13)], [], (am_sh, am_mm U13))) (σ2 := ((d + 1), 190, 98, [some (.inr (.inr 86)), some (.inl (w32 ((w32 (10 * (U11 86 40))) + (U11 94 (U11 86 40).toNat)))), some (.inl r12), some (.inl r13)], [], (am_sh, am_mm U13))) 3 (fun _ => rfl) (fun hc => ?_) (fun hc => ?_)
        · have ha2a1aaa11 := ha2a1aaa1.1 hc
          refine ev_seg (σ1 := ((d + 1), 190, 100, [some (.inr (.inr 86)), some (.inl (w32 ((w32 (10 * (U11 86 40))) + (U11 94 (U11 86 40).toNat)))), some (.inl r12), some (.inl r13)], [.inr (.inr 86)], (am_sh, am_mm U13))) 1 (fun _ => rfl) ?_
          obtain ⟨U14, ha2a1aaa11c, ha2a1aaa11a⟩ := ha2a1aaa11
          refine ev_cal (σc := (d, 93, 0, [some (.inr (.inr 86)), none, none, none, none, none], [], (am_sh, am_mm U13))) (fun _ => rfl) ha2a1aaa11c ?_
          show Ev kz ((d + 1), 190, 103, [some (.inr (.inr 86)), some (.inl (w32 ((w32 (10 * (U11 86 40))) + (U11 94 (U11 86 40).toNat)))), some (.inl r12), some (.inl r13)], [], (am_sh, am_mm U14)) R
          refine ev_seg (σ1 := ((d + 1), 190, 109, [some (.inr (.inr 86)), some (.inl (w32 ((w32 (10 * (U11 86 40))) + (U11 94 (U11 86 40).toNat)))), some (.inl r12), some (.inl r13)], [.inl r12, .inl (w32 ((w32 (10 * (U11 86 40))) + (U11 94 (U11 86 40).toNat))), .inr (.inr 95)], (am_sh, am_mm U14))) 4 (fun _ => rfl) ?_
          refine eu_iast 95 (n := 20) rfl (by decide) rfl (fun _ => rfl) ha2a1aaa11a.1 ?_
          have ha2a1aaa11aa := ha2a1aaa11a.2
          refine ev_seg (σ1 := ((d + 1), 190, 116, [some (.inr (.inr 86)), some (.inl (w32 ((w32 (10 * (U11 86 40))) + (U11 94 (U11 86 40).toNat)))), some (.inl r12), some (.inl r13)], [.inl r13, .inl (w32 ((w32 (10 * (U11 86 40))) + (U11 94 (U11 86 40).toNat))), .inr (.inr 96)], (am_sh, am_mm (am_upd U14 95 (w32 ((w32 (10 * (U11 86 40))) + (U11 94 (U11 86 40).toNat))).toNat r12)))) 4 (fun _ => rfl) ?_
          refine eu_iast 96 (n := 20) rfl (by decide) rfl (fun _ => rfl) ha2a1aaa11aa.1 ?_
          have ha2a1aaa11aaa := ha2a1aaa11aa.2
          refine ev_seg (σ1 := ((d + 1), 190, 126, [some (.inr (.inr 86)), some (.inl (w32 ((w32 (10 * (U11 86 40))) + (U11 94 (U11 86 40).toNat)))), some (.inl r12), some (.inl r13)], [.inl ((am_upd (am_upd U14 95 (w32 ((w32 (10 * (U11 86 40))) + (U11 94 (U11 86 40).toNat))).toNat r12) 96 (w32 ((w32 (10 * (U11 86 40))) + (U11 94 (U11 86 40).toNat))).toNat r13) 86 40), .inr (.inr 94), .inl ((am_upd (am_upd U14 95 (w32 ((w32 (10 * (U11 86 40))) + (U11 94 (U11 86 40).toNat))).toNat r12) 96 (w32 ((w32 (10 * (U11 86 40))) + (U11 94 (U11 86 40).toNat))).toNat r13) 86 40), .inr (.inr 94)], (am_sh, am_mm (am_upd (am_upd U14 95 (w32 ((w32 (10 * (U11 86 40))) + (U11 94 (U11 86 40).toNat))).toNat r12) 96 (w32 ((w32 (10 * (U11 86 40))) + (U11 94 (U11 86 40).toNat))).toNat r13)))) 5 (fun _ => rfl) ?_
          refine eu_iald 94 (n := 2) rfl (by decide) rfl (fun _ => rfl) ha2a1aaa11aaa.1 ?_
          have ha2a1aaa11aaaa := ha2a1aaa11aaa.2
          refine ev_seg (σ1 := ((d + 1), 190, 129, [some (.inr (.inr 86)), some (.inl (w32 ((w32 (10 * (U11 86 40))) + (U11 94 (U11 86 40).toNat)))), some (.inl r12), some (.inl r13)], [.inl (w32 (((am_upd (am_upd U14 95 (w32 ((w32 (10 * (U11 86 40))) + (U11 94 (U11 86 40).toNat))).toNat r12) 96 (w32 ((w32 (10 * (U11 86 40))) + (U11 94 (U11 86 40).toNat))).toNat r13) 94 ((am_upd (am_upd U14 95 (w32 ((w32 (10 * (U11 86 40))) + (U11 94 (U11 86 40).toNat))).toNat r12) 96 (w32 ((w32 (10 * (U11 86 40))) + (U11 94 (U11 86 40).toNat))).toNat r13) 86 40).toNat) + 1)), .inl ((am_upd (am_upd U14 95 (w32 ((w32 (10 * (U11 86 40))) + (U11 94 (U11 86 40).toNat))).toNat r12) 96 (w32 ((w32 (10 * (U11 86 40))) + (U11 94 (U11 86 40).toNat))).toNat r13) 86 40), .inr (.inr 94)], (am_sh, am_mm (am_upd (am_upd U14 95 (w32 ((w32 (10 * (U11 86 40))) + (U11 94 (U11 86 40).toNat))).toNat r12) 96 (w32 ((w32 (10 * (U11 86 40))) + (U11 94 (U11 86 40).toNat))).toNat r13)))) 2 (fun _ => rfl) ?_
          refine eu_iast 94 (n := 2) rfl (by decide) rfl (fun _ => rfl) ha2a1aaa11aaaa.1 ?_
          have ha2a1aaa11aaaaa := ha2a1aaa11aaaa.2
          subst ha2a1aaa11aaaaa
          exact ev_end 1 (fun _ => rfl)
        · have ha2a1aaa12 := ha2a1aaa1.2 hc
          subst ha2a1aaa12
          exact ev_end 1 (fun _ => rfl)
      · have ha2a1aaa2 := ha2a1aaa.2 hc
        refine ev_br (P := r12 = r13) (σ1 := ((d + 1), 190, 82, [some (.inr (.inr 86)), some (.inl (w32 ((w32 (10 * (U11 86 40))) + (U11 94 (U11 86 40).toNat)))), some (.inl r12), some (.inl r13)], [], (am_sh, am_mm U13))) (σ2 := ((d + 1), 190, 69, [some (.inr (.inr 86)), some (.inl (w32 ((w32 (10 * (U11 86 40))) + (U11 94 (U11 86 40).toNat)))), some (.inl r12), some (.inl r13)], [], (am_sh, am_mm U13))) 3 (fun _ => rfl) (fun hc => ?_) (fun hc => ?_)
        · have ha2a1aaa21 := ha2a1aaa2.1 hc
          refine ev_seg (σ1 := ((d + 1), 190, 88, [some (.inr (.inr 86)), some (.inl (w32 ((w32 (10 * (U11 86 40))) + (U11 94 (U11 86 40).toNat)))), some (.inl r12), some (.inl r13)], [.inl (U13 86 4), .inl 3, .inr (.inr 86)], (am_sh, am_mm U13))) 4 (fun _ => rfl) ?_
          obtain ⟨U15, ha2a1aaa21c, ha2a1aaa21a⟩ := ha2a1aaa21
          refine ev_cal (σc := (d, 196, 0, [some (.inr (.inr 86)), some (.inl 3), some (.inl (U13 86 4))], [], (am_sh, am_mm U13))) (fun _ => rfl) ha2a1aaa21c ?_
          show Ev kz ((d + 1), 190, 91, [some (.inr (.inr 86)), some (.inl (w32 ((w32 (10 * (U11 86 40))) + (U11 94 (U11 86 40).toNat)))), some (.inl r12), some (.inl r13)], [], (am_sh, am_mm U15)) R
          refine ev_br (P := (U15 86 8) ≤ 0) (σ1 := ((d + 1), 190, 99, [some (.inr (.inr 86)), some (.inl (w32 ((w32 (10 * (U11 86 40))) + (U11 94 (U11 86 40).toNat)))), some (.inl r12), some (.inl r13)], [], (am_sh, am_mm U15))) (σ2 := ((d + 1), 190, 98, [some (.inr (.inr 86)), some (.inl (w32 ((w32 (10 * (U11 86 40))) + (U11 94 (U11 86 40).toNat)))), some (.inl r12), some (.inl r13)], [], (am_sh, am_mm U15))) 3 (fun _ => rfl) (fun hc => ?_) (fun hc => ?_)
          · have ha2a1aaa21a1 := ha2a1aaa21a.1 hc
            refine ev_seg (σ1 := ((d + 1), 190, 100, [some (.inr (.inr 86)), some (.inl (w32 ((w32 (10 * (U11 86 40))) + (U11 94 (U11 86 40).toNat)))), some (.inl r12), some (.inl r13)], [.inr (.inr 86)], (am_sh, am_mm U15))) 1 (fun _ => rfl) ?_
            obtain ⟨U16, ha2a1aaa21a1c, ha2a1aaa21a1a⟩ := ha2a1aaa21a1
            refine ev_cal (σc := (d, 93, 0, [some (.inr (.inr 86)), none, none, none, none, none], [], (am_sh, am_mm U15))) (fun _ => rfl) ha2a1aaa21a1c ?_
            show Ev kz ((d + 1), 190, 103, [some (.inr (.inr 86)), some (.inl (w32 ((w32 (10 * (U11 86 40))) + (U11 94 (U11 86 40).toNat)))), some (.inl r12), some (.inl r13)], [], (am_sh, am_mm U16)) R
            refine ev_seg (σ1 := ((d + 1), 190, 109, [some (.inr (.inr 86)), some (.inl (w32 ((w32 (10 * (U11 86 40))) + (U11 94 (U11 86 40).toNat)))), some (.inl r12), some (.inl r13)], [.inl r12, .inl (w32 ((w32 (10 * (U11 86 40))) + (U11 94 (U11 86 40).toNat))), .inr (.inr 95)], (am_sh, am_mm U16))) 4 (fun _ => rfl) ?_
            refine eu_iast 95 (n := 20) rfl (by decide) rfl (fun _ => rfl) ha2a1aaa21a1a.1 ?_
            have ha2a1aaa21a1aa := ha2a1aaa21a1a.2
            refine ev_seg (σ1 := ((d + 1), 190, 116, [some (.inr (.inr 86)), some (.inl (w32 ((w32 (10 * (U11 86 40))) + (U11 94 (U11 86 40).toNat)))), some (.inl r12), some (.inl r13)], [.inl r13, .inl (w32 ((w32 (10 * (U11 86 40))) + (U11 94 (U11 86 40).toNat))), .inr (.inr 96)], (am_sh, am_mm (am_upd U16 95 (w32 ((w32 (10 * (U11 86 40))) + (U11 94 (U11 86 40).toNat))).toNat r12)))) 4 (fun _ => rfl) ?_
            refine eu_iast 96 (n := 20) rfl (by decide) rfl (fun _ => rfl) ha2a1aaa21a1aa.1 ?_
            have ha2a1aaa21a1aaa := ha2a1aaa21a1aa.2
            refine ev_seg (σ1 := ((d + 1), 190, 126, [some (.inr (.inr 86)), some (.inl (w32 ((w32 (10 * (U11 86 40))) + (U11 94 (U11 86 40).toNat)))), some (.inl r12), some (.inl r13)], [.inl ((am_upd (am_upd U16 95 (w32 ((w32 (10 * (U11 86 40))) + (U11 94 (U11 86 40).toNat))).toNat r12) 96 (w32 ((w32 (10 * (U11 86 40))) + (U11 94 (U11 86 40).toNat))).toNat r13) 86 40), .inr (.inr 94), .inl ((am_upd (am_upd U16 95 (w32 ((w32 (10 * (U11 86 40))) + (U11 94 (U11 86 40).toNat))).toNat r12) 96 (w32 ((w32 (10 * (U11 86 40))) + (U11 94 (U11 86 40).toNat))).toNat r13) 86 40), .inr (.inr 94)], (am_sh, am_mm (am_upd (am_upd U16 95 (w32 ((w32 (10 * (U11 86 40))) + (U11 94 (U11 86 40).toNat))).toNat r12) 96 (w32 ((w32 (10 * (U11 86 40))) + (U11 94 (U11 86 40).toNat))).toNat r13)))) 5 (fun _ => rfl) ?_
            refine eu_iald 94 (n := 2) rfl (by decide) rfl (fun _ => rfl) ha2a1aaa21a1aaa.1 ?_
            have ha2a1aaa21a1aaaa := ha2a1aaa21a1aaa.2
            refine ev_seg (σ1 := ((d + 1), 190, 129, [some (.inr (.inr 86)), some (.inl (w32 ((w32 (10 * (U11 86 40))) + (U11 94 (U11 86 40).toNat)))), some (.inl r12), some (.inl r13)], [.inl (w32 (((am_upd (am_upd U16 95 (w32 ((w32 (10 * (U11 86 40))) + (U11 94 (U11 86 40).toNat))).toNat r12) 96 (w32 ((w32 (10 * (U11 86 40))) + (U11 94 (U11 86 40).toNat))).toNat r13) 94 ((am_upd (am_upd U16 95 (w32 ((w32 (10 * (U11 86 40))) + (U11 94 (U11 86 40).toNat))).toNat r12) 96 (w32 ((w32 (10 * (U11 86 40))) + (U11 94 (U11 86 40).toNat))).toNat r13) 86 40).toNat) + 1)), .inl ((am_upd (am_upd U16 95 (w32 ((w32 (10 * (U11 86 40))) + (U11 94 (U11 86 40).toNat))).toNat r12) 96 (w32 ((w32 (10 * (U11 86 40))) + (U11 94 (U11 86 40).toNat))).toNat r13) 86 40), .inr (.inr 94)], (am_sh, am_mm (am_upd (am_upd U16 95 (w32 ((w32 (10 * (U11 86 40))) + (U11 94 (U11 86 40).toNat))).toNat r12) 96 (w32 ((w32 (10 * (U11 86 40))) + (U11 94 (U11 86 40).toNat))).toNat r13)))) 2 (fun _ => rfl) ?_
            refine eu_iast 94 (n := 2) rfl (by decide) rfl (fun _ => rfl) ha2a1aaa21a1aaaa.1 ?_
            have ha2a1aaa21a1aaaaa := ha2a1aaa21a1aaaa.2
            subst ha2a1aaa21a1aaaaa
            exact ev_end 1 (fun _ => rfl)
          · have ha2a1aaa21a2 := ha2a1aaa21a.2 hc
            subst ha2a1aaa21a2
            exact ev_end 1 (fun _ => rfl)
        · have ha2a1aaa22 := ha2a1aaa2.2 hc
          refine ev_seg (σ1 := ((d + 1), 190, 76, [some (.inr (.inr 86)), some (.inl (w32 ((w32 (10 * (U11 86 40))) + (U11 94 (U11 86 40).toNat)))), some (.inl r12), some (.inl r13)], [.inl r13, .inl r12, .inl (U13 86 40), .inr (.inr 86)], (am_sh, am_mm U13))) 5 (fun _ => rfl) ?_
          obtain ⟨r17, U17, ha2a1aaa22c, ha2a1aaa22a⟩ := ha2a1aaa22
          refine ev_cal (σc := (d, 113, 0, [some (.inr (.inr 86)), some (.inl (U13 86 40)), some (.inl r12), some (.inl r13), none, none], [], (am_sh, am_mm U13))) (fun _ => rfl) ha2a1aaa22c ?_
          show Ev kz ((d + 1), 190, 79, [some (.inr (.inr 86)), some (.inl (w32 ((w32 (10 * (U11 86 40))) + (U11 94 (U11 86 40).toNat)))), some (.inl r12), some (.inl r13)], [.inl r17], (am_sh, am_mm U17)) R
          refine ev_br (P := r17 = 0) (σ1 := ((d + 1), 190, 91, [some (.inr (.inr 86)), some (.inl (w32 ((w32 (10 * (U11 86 40))) + (U11 94 (U11 86 40).toNat)))), some (.inl r12), some (.inl r13)], [], (am_sh, am_mm U17))) (σ2 := ((d + 1), 190, 82, [some (.inr (.inr 86)), some (.inl (w32 ((w32 (10 * (U11 86 40))) + (U11 94 (U11 86 40).toNat)))), some (.inl r12), some (.inl r13)], [], (am_sh, am_mm U17))) 1 (fun _ => rfl) (fun hc => ?_) (fun hc => ?_)
          · have ha2a1aaa22a1 := ha2a1aaa22a.1 hc
            refine ev_br (P := (U17 86 8) ≤ 0) (σ1 := ((d + 1), 190, 99, [some (.inr (.inr 86)), some (.inl (w32 ((w32 (10 * (U11 86 40))) + (U11 94 (U11 86 40).toNat)))), some (.inl r12), some (.inl r13)], [], (am_sh, am_mm U17))) (σ2 := ((d + 1), 190, 98, [some (.inr (.inr 86)), some (.inl (w32 ((w32 (10 * (U11 86 40))) + (U11 94 (U11 86 40).toNat)))), some (.inl r12), some (.inl r13)], [], (am_sh, am_mm U17))) 3 (fun _ => rfl) (fun hc => ?_) (fun hc => ?_)
            · have ha2a1aaa22a11 := ha2a1aaa22a1.1 hc
              refine ev_seg (σ1 := ((d + 1), 190, 100, [some (.inr (.inr 86)), some (.inl (w32 ((w32 (10 * (U11 86 40))) + (U11 94 (U11 86 40).toNat)))), some (.inl r12), some (.inl r13)], [.inr (.inr 86)], (am_sh, am_mm U17))) 1 (fun _ => rfl) ?_
              obtain ⟨U18, ha2a1aaa22a11c, ha2a1aaa22a11a⟩ := ha2a1aaa22a11
              refine ev_cal (σc := (d, 93, 0, [some (.inr (.inr 86)), none, none, none, none, none], [], (am_sh, am_mm U17))) (fun _ => rfl) ha2a1aaa22a11c ?_
              show Ev kz ((d + 1), 190, 103, [some (.inr (.inr 86)), some (.inl (w32 ((w32 (10 * (U11 86 40))) + (U11 94 (U11 86 40).toNat)))), some (.inl r12), some (.inl r13)], [], (am_sh, am_mm U18)) R
              refine ev_seg (σ1 := ((d + 1), 190, 109, [some (.inr (.inr 86)), some (.inl (w32 ((w32 (10 * (U11 86 40))) + (U11 94 (U11 86 40).toNat)))), some (.inl r12), some (.inl r13)], [.inl r12, .inl (w32 ((w32 (10 * (U11 86 40))) + (U11 94 (U11 86 40).toNat))), .inr (.inr 95)], (am_sh, am_mm U18))) 4 (fun _ => rfl) ?_
              refine eu_iast 95 (n := 20) rfl (by decide) rfl (fun _ => rfl) ha2a1aaa22a11a.1 ?_
              have ha2a1aaa22a11aa := ha2a1aaa22a11a.2
              refine ev_seg (σ1 := ((d + 1), 190, 116, [some (.inr (.inr 86)), some (.inl (w32 ((w32 (10 * (U11 86 40))) + (U11 94 (U11 86 40).toNat)))), some (.inl r12), some (.inl r13)], [.inl r13, .inl (w32 ((w32 (10 * (U11 86 40))) + (U11 94 (U11 86 40).toNat))), .inr (.inr 96)], (am_sh, am_mm (am_upd U18 95 (w32 ((w32 (10 * (U11 86 40))) + (U11 94 (U11 86 40).toNat))).toNat r12)))) 4 (fun _ => rfl) ?_
              refine eu_iast 96 (n := 20) rfl (by decide) rfl (fun _ => rfl) ha2a1aaa22a11aa.1 ?_
              have ha2a1aaa22a11aaa := ha2a1aaa22a11aa.2
              refine ev_seg (σ1 := ((d + 1), 190, 126, [some (.inr (.inr 86)), some (.inl (w32 ((w32 (10 * (U11 86 40))) + (U11 94 (U11 86 40).toNat)))), some (.inl r12), some (.inl r13)], [.inl ((am_upd (am_upd U18 95 (w32 ((w32 (10 * (U11 86 40))) + (U11 94 (U11 86 40).toNat))).toNat r12) 96 (w32 ((w32 (10 * (U11 86 40))) + (U11 94 (U11 86 40).toNat))).toNat r13) 86 40), .inr (.inr 94), .inl ((am_upd (am_upd U18 95 (w32 ((w32 (10 * (U11 86 40))) + (U11 94 (U11 86 40).toNat))).toNat r12) 96 (w32 ((w32 (10 * (U11 86 40))) + (U11 94 (U11 86 40).toNat))).toNat r13) 86 40), .inr (.inr 94)], (am_sh, am_mm (am_upd (am_upd U18 95 (w32 ((w32 (10 * (U11 86 40))) + (U11 94 (U11 86 40).toNat))).toNat r12) 96 (w32 ((w32 (10 * (U11 86 40))) + (U11 94 (U11 86 40).toNat))).toNat r13)))) 5 (fun _ => rfl) ?_
              refine eu_iald 94 (n := 2) rfl (by decide) rfl (fun _ => rfl) ha2a1aaa22a11aaa.1 ?_
              have ha2a1aaa22a11aaaa := ha2a1aaa22a11aaa.2
              refine ev_seg (σ1 := ((d + 1), 190, 129, [some (.inr (.inr 86)), some (.inl (w32 ((w32 (10 * (U11 86 40))) + (U11 94 (U11 86 40).toNat)))), some (.inl r12), some (.inl r13)], [.inl (w32 (((am_upd (am_upd U18 95 (w32 ((w32 (10 * (U11 86 40))) + (U11 94 (U11 86 40).toNat))).toNat r12) 96 (w32 ((w32 (10 * (U11 86 40))) + (U11 94 (U11 86 40).toNat))).toNat r13) 94 ((am_upd (am_upd U18 95 (w32 ((w32 (10 * (U11 86 40))) + (U11 94 (U11 86 40).toNat))).toNat r12) 96 (w32 ((w32 (10 * (U11 86 40))) + (U11 94 (U11 86 40).toNat))).toNat r13) 86 40).toNat) + 1)), .inl ((am_upd (am_upd U18 95 (w32 ((w32 (10 * (U11 86 40))) + (U11 94 (U11 86 40).toNat))).toNat r12) 96 (w32 ((w32 (10 * (U11 86 40))) + (U11 94 (U11 86 40).toNat))).toNat r13) 86 40), .inr (.inr 94)], (am_sh, am_mm (am_upd (am_upd U18 95 (w32 ((w32 (10 * (U11 86 40))) + (U11 94 (U11 86 40).toNat))).toNat r12) 96 (w32 ((w32 (10 * (U11 86 40))) + (U11 94 (U11 86 40).toNat))).toNat r13)))) 2 (fun _ => rfl) ?_
              refine eu_iast 94 (n := 2) rfl (by decide) rfl (fun _ => rfl) ha2a1aaa22a11aaaa.1 ?_
              have ha2a1aaa22a11aaaaa := ha2a1aaa22a11aaaa.2
              subst ha2a1aaa22a11aaaaa
              exact ev_end 1 (fun _ => rfl)
            · have ha2a1aaa22a12 := ha2a1aaa22a1.2 hc
              subst ha2a1aaa22a12
              exact ev_end 1 (fun _ => rfl)
          · have ha2a1aaa22a2 := ha2a1aaa22a.2 hc
            refine ev_seg (σ1 := ((d + 1), 190, 88, [some (.inr (.inr 86)), some (.inl (w32 ((w32 (10 * (U11 86 40))) + (U11 94 (U11 86 40).toNat)))), some (.inl r12), some (.inl r13)], [.inl (U17 86 4), .inl 3, .inr (.inr 86)], (am_sh, am_mm U17))) 4 (fun _ => rfl) ?_
            obtain ⟨U19, ha2a1aaa22a2c, ha2a1aaa22a2a⟩ := ha2a1aaa22a2
            refine ev_cal (σc := (d, 196, 0, [some (.inr (.inr 86)), some (.inl 3), some (.inl (U17 86 4))], [], (am_sh, am_mm U17))) (fun _ => rfl) ha2a1aaa22a2c ?_
            show Ev kz ((d + 1), 190, 91, [some (.inr (.inr 86)), some (.inl (w32 ((w32 (10 * (U11 86 40))) + (U11 94 (U11 86 40).toNat)))), some (.inl r12), some (.inl r13)], [], (am_sh, am_mm U19)) R
            refine ev_br (P := (U19 86 8) ≤ 0) (σ1 := ((d + 1), 190, 99, [some (.inr (.inr 86)), some (.inl (w32 ((w32 (10 * (U11 86 40))) + (U11 94 (U11 86 40).toNat)))), some (.inl r12), some (.inl r13)], [], (am_sh, am_mm U19))) (σ2 := ((d + 1), 190, 98, [some (.inr (.inr 86)), some (.inl (w32 ((w32 (10 * (U11 86 40))) + (U11 94 (U11 86 40).toNat)))), some (.inl r12), some (.inl r13)], [], (am_sh, am_mm U19))) 3 (fun _ => rfl) (fun hc => ?_) (fun hc => ?_)
            · have ha2a1aaa22a2a1 := ha2a1aaa22a2a.1 hc
              refine ev_seg (σ1 := ((d + 1), 190, 100, [some (.inr (.inr 86)), some (.inl (w32 ((w32 (10 * (U11 86 40))) + (U11 94 (U11 86 40).toNat)))), some (.inl r12), some (.inl r13)], [.inr (.inr 86)], (am_sh, am_mm U19))) 1 (fun _ => rfl) ?_
              obtain ⟨U20, ha2a1aaa22a2a1c, ha2a1aaa22a2a1a⟩ := ha2a1aaa22a2a1
              refine ev_cal (σc := (d, 93, 0, [some (.inr (.inr 86)), none, none, none, none, none], [], (am_sh, am_mm U19))) (fun _ => rfl) ha2a1aaa22a2a1c ?_
              show Ev kz ((d + 1), 190, 103, [some (.inr (.inr 86)), some (.inl (w32 ((w32 (10 * (U11 86 40))) + (U11 94 (U11 86 40).toNat)))), some (.inl r12), some (.inl r13)], [], (am_sh, am_mm U20)) R
              refine ev_seg (σ1 := ((d + 1), 190, 109, [some (.inr (.inr 86)), some (.inl (w32 ((w32 (10 * (U11 86 40))) + (U11 94 (U11 86 40).toNat)))), some (.inl r12), some (.inl r13)], [.inl r12, .inl (w32 ((w32 (10 * (U11 86 40))) + (U11 94 (U11 86 40).toNat))), .inr (.inr 95)], (am_sh, am_mm U20))) 4 (fun _ => rfl) ?_
              refine eu_iast 95 (n := 20) rfl (by decide) rfl (fun _ => rfl) ha2a1aaa22a2a1a.1 ?_
              have ha2a1aaa22a2a1aa := ha2a1aaa22a2a1a.2
              refine ev_seg (σ1 := ((d + 1), 190, 116, [some (.inr (.inr 86)), some (.inl (w32 ((w32 (10 * (U11 86 40))) + (U11 94 (U11 86 40).toNat)))), some (.inl r12), some (.inl r13)], [.inl r13, .inl (w32 ((w32 (10 * (U11 86 40))) + (U11 94 (U11 86 40).toNat))), .inr (.inr 96)], (am_sh, am_mm (am_upd U20 95 (w32 ((w32 (10 * (U11 86 40))) + (U11 94 (U11 86 40).toNat))).toNat r12)))) 4 (fun _ => rfl) ?_
              refine eu_iast 96 (n := 20) rfl (by decide) rfl (fun _ => rfl) ha2a1aaa22a2a1aa.1 ?_
              have ha2a1aaa22a2a1aaa := ha2a1aaa22a2a1aa.2
              refine ev_seg (σ1 := ((d + 1), 190, 126, [some (.inr (.inr 86)), some (.inl (w32 ((w32 (10 * (U11 86 40))) + (U11 94 (U11 86 40).toNat)))), some (.inl r12), some (.inl r13)], [.inl ((am_upd (am_upd U20 95 (w32 ((w32 (10 * (U11 86 40))) + (U11 94 (U11 86 40).toNat))).toNat r12) 96 (w32 ((w32 (10 * (U11 86 40))) + (U11 94 (U11 86 40).toNat))).toNat r13) 86 40), .inr (.inr 94), .inl ((am_upd (am_upd U20 95 (w32 ((w32 (10 * (U11 86 40))) + (U11 94 (U11 86 40).toNat))).toNat r12) 96 (w32 ((w32 (10 * (U11 86 40))) + (U11 94 (U11 86 40).toNat))).toNat r13) 86 40), .inr (.inr 94)], (am_sh, am_mm (am_upd (am_upd U20 95 (w32 ((w32 (10 * (U11 86 40))) + (U11 94 (U11 86 40).toNat))).toNat r12) 96 (w32 ((w32 (10 * (U11 86 40))) + (U11 94 (U11 86 40).toNat))).toNat r13)))) 5 (fun _ => rfl) ?_
              refine eu_iald 94 (n := 2) rfl (by decide) rfl (fun _ => rfl) ha2a1aaa22a2a1aaa.1 ?_
              have ha2a1aaa22a2a1aaaa := ha2a1aaa22a2a1aaa.2
              refine ev_seg (σ1 := ((d + 1), 190, 129, [some (.inr (.inr 86)), some (.inl (w32 ((w32 (10 * (U11 86 40))) + (U11 94 (U11 86 40).toNat)))), some (.inl r12), some (.inl r13)], [.inl (w32 (((am_upd (am_upd U20 95 (w32 ((w32 (10 * (U11 86 40))) + (U11 94 (U11 86 40).toNat))).toNat r12) 96 (w32 ((w32 (10 * (U11 86 40))) + (U11 94 (U11 86 40).toNat))).toNat r13) 94 ((am_upd (am_upd U20 95 (w32 ((w32 (10 * (U11 86 40))) + (U11 94 (U11 86 40).toNat))).toNat r12) 96 (w32 ((w32 (10 * (U11 86 40))) + (U11 94 (U11 86 40).toNat))).toNat r13) 86 40).toNat) + 1)), .inl ((am_upd (am_upd U20 95 (w32 ((w32 (10 * (U11 86 40))) + (U11 94 (U11 86 40).toNat))).toNat r12) 96 (w32 ((w32 (10 * (U11 86 40))) + (U11 94 (U11 86 40).toNat))).toNat r13) 86 40), .inr (.inr 94)], (am_sh, am_mm (am_upd (am_upd U20 95 (w32 ((w32 (10 * (U11 86 40))) + (U11 94 (U11 86 40).toNat))).toNat r12) 96 (w32 ((w32 (10 * (U11 86 40))) + (U11 94 (U11 86 40).toNat))).toNat r13)))) 2 (fun _ => rfl) ?_
              refine eu_iast 94 (n := 2) rfl (by decide) rfl (fun _ => rfl) ha2a1aaa22a2a1aaaa.1 ?_
              have ha2a1aaa22a2a1aaaaa := ha2a1aaa22a2a1aaaa.2
              subst ha2a1aaa22a2a1aaaaa
              exact ev_end 1 (fun _ => rfl)
            · have ha2a1aaa22a2a2 := ha2a1aaa22a2a.2 hc
              subst ha2a1aaa22a2a2
              exact ev_end 1 (fun _ => rfl)
    · have ha2a2 := ha2a.2 hc
      subst ha2a2
      exact ev_end 1 (fun _ => rfl)
theorem st197_86_0 (kz : am_Z) (d : Nat) (x1 : Int) (U : Nat → Nat → Int) (R : Option am_V × am_M) (h : (((¬ (U 86 3) = 3 : Prop)) → R = (some (.inl 0), (am_sh, am_mm U))) ∧ (¬ (¬ (U 86 3) = 3) → (((¬ (U 86 6) = x1 : Prop)) → R = (some (.inl 0), (am_sh, am_mm U))) ∧ (¬ (¬ (U 86 6) = x1) → R = (some (.inl 1), (am_sh, am_mm U))))) : Ev kz (d, 197, 0, [some (.inr (.inr 86)), some (.inl x1)], [], (am_sh, am_mm U)) R := by
  refine ev_br (P := ¬ (U 86 3) = 3) (σ1 := (d, 197, 20, [some (.inr (.inr 86)), some (.inl x1)], [], (am_sh, am_mm U))) (σ2 := (d, 197, 8, [some (.inr (.inr 86)), some (.inl x1)], [], (am_sh, am_mm U))) 4 (fun _ => rfl) (fun hc => ?_) (fun hc => ?_)
  · have h1 := h.1 hc
    subst h1
    exact ev_end 2 (fun _ => rfl)
  · have h2 := h.2 hc
    refine ev_br (P := ¬ (U 86 6) = x1) (σ1 := (d, 197, 20, [some (.inr (.inr 86)), some (.inl x1)], [], (am_sh, am_mm U))) (σ2 := (d, 197, 16, [some (.inr (.inr 86)), some (.inl x1)], [], (am_sh, am_mm U))) 4 (fun _ => rfl) (fun hc => ?_) (fun hc => ?_)
    · have h21 := h2.1 hc
      subst h21
      exact ev_end 2 (fun _ => rfl)
    · have h22 := h2.2 hc
      subst h22
      exact ev_end 3 (fun _ => rfl)
theorem st198_86_0 (kz : am_Z) (d : Nat) (x1 : Int) (U : Nat → Nat → Int) (R : Option am_V × am_M) (h : ∃ U1 : Nat → Nat → Int, Ev kz (d, 186, 0, [some (.inr (.inr 86))], [], (am_sh, am_mm U)) (none, (am_sh, am_mm U1)) ∧ ∃ (r2 : Int) (U2 : Nat → Nat → Int), Ev kz (d, 197, 0, [some (.inr (.inr 86)), some (.inl x1)], [], (am_sh, am_mm U1)) (some (.inl r2), (am_sh, am_mm U2)) ∧ (((¬ r2 = 0 : Prop)) → (((¬ (U2 86 8) = 0 : Prop)) → R = (none, (am_sh, am_mm U2))) ∧ (¬ (¬ (U2 86 8) = 0) → ∃ U3 : Nat → Nat → Int, Ev kz (d, 93, 0, [some (.inr (.inr 86)), none, none, none, none, none], [], (am_sh, am_mm U2)) (none, (am_sh, am_mm U3)) ∧ R = (none, (am_sh, am_mm U3)))) ∧ (¬ (¬ r2 = 0) → ∃ U4 : Nat → Nat → Int, Ev kz (d, 196, 0, [some (.inr (.inr 86)), some (.inl 1), some (.inl (U2 86 4))], [], (am_sh, am_mm U2)) (none, (am_sh, am_mm U4)) ∧ (((¬ (U4 86 8) = 0 : Prop)) → R = (none, (am_sh, am_mm U4))) ∧ (¬ (¬ (U4 86 8) = 0) → ∃ U5 : Nat → Nat → Int, Ev kz (d, 93, 0, [some (.inr (.inr 86)), none, none, none, none, none], [], (am_sh, am_mm U4)) (none, (am_sh, am_mm U5)) ∧ R = (none, (am_sh, am_mm U5))))) : Ev kz ((d + 1), 198, 0, [some (.inr (.inr 86)), some (.inl x1)], [], (am_sh, am_mm U)) R := by
  refine ev_seg (σ1 := ((d + 1), 198, 1, [some (.inr (.inr 86)), some (.inl x1)], [.inr (.inr 86)], (am_sh, am_mm U))) 1 (fun _ => rfl) ?_
  obtain ⟨U1, hc, ha⟩ := h
  refine ev_cal (σc := (d, 186, 0, [some (.inr (.inr 86))], [], (am_sh, am_mm U))) (fun _ => rfl) hc ?_
  show Ev kz ((d + 1), 198, 4, [some (.inr (.inr 86)), some (.inl x1)], [], (am_sh, am_mm U1)) R
  refine ev_seg (σ1 := ((d + 1), 198, 6, [some (.inr (.inr 86)), some (.inl x1)], [.inl x1, .inr (.inr 86)], (am_sh, am_mm U1))) 2 (fun _ => rfl) ?_
  obtain ⟨r2, U2, hac, haa⟩ := ha
  refine ev_cal (σc := (d, 197, 0, [some (.inr (.inr 86)), some (.inl x1)], [], (am_sh, am_mm U1))) (fun _ => rfl) hac ?_
  show Ev kz ((d + 1), 198, 9, [some (.inr (.inr 86)), some (.inl x1)], [.inl r2], (am_sh, am_mm U2)) R
  refine ev_br (P := ¬ r2 = 0) (σ1 := ((d + 1), 198, 21, [some (.inr (.inr 86)), some (.inl x1)], [], (am_sh, am_mm U2))) (σ2 := ((d + 1), 198, 12, [some (.inr (.inr 86)), some (.inl x1)], [], (am_sh, am_mm U2))) 1 (fun _ => rfl) (fun hc => ?_) (fun hc => ?_)
  · have haa1 := haa.1 hc
    refine ev_br (P := ¬ (U2 86 8) = 0) (σ1 := ((d + 1), 198, 32, [some (.inr (.inr 86)), some (.inl x1)], [], (am_sh, am_mm U2))) (σ2 := ((d + 1), 198, 28, [some (.inr (.inr 86)), some (.inl x1)], [], (am_sh, am_mm U2))) 3 (fun _ => rfl) (fun hc => ?_) (fun hc => ?_)
    · have haa11 := haa1.1 hc
      subst haa11
      exact ev_end 1 (fun _ => rfl)
    · have haa12 := haa1.2 hc
      refine ev_seg (σ1 := ((d + 1), 198, 29, [some (.inr (.inr 86)), some (.inl x1)], [.inr (.inr 86)], (am_sh, am_mm U2))) 1 (fun _ => rfl) ?_
      obtain ⟨U3, haa12c, haa12a⟩ := haa12
      refine ev_cal (σc := (d, 93, 0, [some (.inr (.inr 86)), none, none, none, none, none], [], (am_sh, am_mm U2))) (fun _ => rfl) haa12c ?_
      show Ev kz ((d + 1), 198, 32, [some (.inr (.inr 86)), some (.inl x1)], [], (am_sh, am_mm U3)) R
      subst haa12a
      exact ev_end 1 (fun _ => rfl)
  · have haa2 := haa.2 hc
    refine ev_seg (σ1 := ((d + 1), 198, 18, [some (.inr (.inr 86)), some (.inl x1)], [.inl (U2 86 4), .inl 1, .inr (.inr 86)], (am_sh, am_mm U2))) 4 (fun _ => rfl) ?_
    obtain ⟨U4, haa2c, haa2a⟩ := haa2
    refine ev_cal (σc := (d, 196, 0, [some (.inr (.inr 86)), some (.inl 1), some (.inl (U2 86 4))], [], (am_sh, am_mm U2))) (fun _ => rfl) haa2c ?_
    show Ev kz ((d + 1), 198, 21, [some (.inr (.inr 86)), some (.inl x1)], [], (am_sh, am_mm U4)) R
    refine ev_br (P := ¬ (U4 86 8) = 0) (σ1 := ((d + 1), 198, 32, [some (.inr (.inr 86)), some (.inl x1)], [], (am_sh, am_mm U4))) (σ2 := ((d + 1), 198, 28, [some (.inr (.inr 86)), some (.inl x1)], [], (am_sh, am_mm U4))) 3 (fun _ => rfl) (fun hc => ?_) (fun hc => ?_)
    · have haa2a1 := haa2a.1 hc
      subst haa2a1
      exact ev_end 1 (fun _ => rfl)
    · have haa2a2 := haa2a.2 hc
      refine ev_seg (σ1 := ((d + 1), 198, 29, [some (.inr (.inr 86)), some (.inl x1)], [.inr (.inr 86)], (am_sh, am_mm U4))) 1 (fun _ => rfl) ?_
      obtain ⟨U5, haa2a2c, haa2a2a⟩ := haa2a2
      refine ev_cal (σc := (d, 93, 0, [some (.inr (.inr 86)), none, none, none, none, none], [], (am_sh, am_mm U4))) (fun _ => rfl) haa2a2c ?_
      show Ev kz ((d + 1), 198, 32, [some (.inr (.inr 86)), some (.inl x1)], [], (am_sh, am_mm U5)) R
      subst haa2a2a
      exact ev_end 1 (fun _ => rfl)
theorem st200_86_0 (kz : am_Z) (d : Nat) (x1 x2 : Int) (U : Nat → Nat → Int) (R : Option am_V × am_M) (h : (0 ≤ (w32 ((w32 (16 * x1)) + x2)) ∧ (w32 ((w32 (16 * x1)) + x2)) < 352) ∧ R = (some (.inl (U 124 (w32 ((w32 (16 * x1)) + x2)).toNat)), (am_sh, am_mm U))) : Ev kz (d, 200, 0, [some (.inr (.inr 86)), some (.inl x1), some (.inl x2)], [], (am_sh, am_mm U)) R := by
  refine ev_seg (σ1 := (d, 200, 10, [some (.inr (.inr 86)), some (.inl x1), some (.inl x2)], [.inl (w32 ((w32 (16 * x1)) + x2)), .inr (.inr 124)], (am_sh, am_mm U))) 7 (fun _ => rfl) ?_
  refine eu_iald 124 (n := 352) rfl (by decide) rfl (fun _ => rfl) h.1 ?_
  have ha := h.2
  subst ha
  exact ev_end 1 (fun _ => rfl)
theorem st201_86_0 (kz : am_Z) (d : Nat) (x1 x2 x3 x4 : Int) (U : Nat → Nat → Int) (R : Option am_V × am_M) (h : (((¬ (U 86 67) = x4 : Prop)) → R = (none, (am_sh, am_mm (am_upd U 86 67 (w32 ((U 86 67) + 1)))))) ∧ (¬ (¬ (U 86 67) = x4) → R = (none, (am_sh, am_mm (am_upd (am_upd (am_upd (am_upd U 86 64 x1) 86 65 x2) 86 66 x3) 86 67 (w32 (((am_upd (am_upd (am_upd U 86 64 x1) 86 65 x2) 86 66 x3) 86 67) + 1))))))) : Ev kz (d, 201, 0, [some (.inr (.inr 86)), some (.inl x1), some (.inl x2), some (.inl x3), some (.inl x4)], [], (am_sh, am_mm U)) R := by
  refine ev_br (P := ¬ (U 86 67) = x4) (σ1 := (d, 201, 24, [some (.inr (.inr 86)), some (.inl x1), some (.inl x2), some (.inl x3), some (.inl x4)], [], (am_sh, am_mm U))) (σ2 := (d, 201, 9, [some (.inr (.inr 86)), some (.inl x1), some (.inl x2), some (.inl x3), some (.inl x4)], [], (am_sh, am_mm U))) 4 (fun _ => rfl) (fun hc => ?_) (fun hc => ?_)
  · have h1 := h.1 hc
    refine ev_seg (σ1 := (d, 201, 31, [some (.inr (.inr 86)), some (.inl x1), some (.inl x2), some (.inl x3), some (.inl x4)], [.inl (w32 ((U 86 67) + 1)), .inr (.inr 86)], (am_sh, am_mm U))) 5 (fun _ => rfl) ?_
    refine eu_puti 86 (n := 90) rfl (by decide) rfl rfl ?_
    subst h1
    exact ev_end 1 (fun _ => rfl)
  · have h2 := h.2 hc
    refine ev_seg (σ1 := (d, 201, 11, [some (.inr (.inr 86)), some (.inl x1), some (.inl x2), some (.inl x3), some (.inl x4)], [.inl x1, .inr (.inr 86)], (am_sh, am_mm U))) 2 (fun _ => rfl) ?_
    refine eu_puti 86 (n := 90) rfl (by decide) rfl rfl ?_
    refine ev_seg (σ1 := (d, 201, 16, [some (.inr (.inr 86)), some (.inl x1), some (.inl x2), some (.inl x3), some (.inl x4)], [.inl x2, .inr (.inr 86)], (am_sh, am_mm (am_upd U 86 64 x1)))) 2 (fun _ => rfl) ?_
    refine eu_puti 86 (n := 90) rfl (by decide) rfl rfl ?_
    refine ev_seg (σ1 := (d, 201, 21, [some (.inr (.inr 86)), some (.inl x1), some (.inl x2), some (.inl x3), some (.inl x4)], [.inl x3, .inr (.inr 86)], (am_sh, am_mm (am_upd (am_upd U 86 64 x1) 86 65 x2)))) 2 (fun _ => rfl) ?_
    refine eu_puti 86 (n := 90) rfl (by decide) rfl rfl ?_
    refine ev_seg (σ1 := (d, 201, 31, [some (.inr (.inr 86)), some (.inl x1), some (.inl x2), some (.inl x3), some (.inl x4)], [.inl (w32 (((am_upd (am_upd (am_upd U 86 64 x1) 86 65 x2) 86 66 x3) 86 67) + 1)), .inr (.inr 86)], (am_sh, am_mm (am_upd (am_upd (am_upd U 86 64 x1) 86 65 x2) 86 66 x3)))) 5 (fun _ => rfl) ?_
    refine eu_puti 86 (n := 90) rfl (by decide) rfl rfl ?_
    subst h2
    exact ev_end 1 (fun _ => rfl)
theorem st202_86_0 (kz : am_Z) (d : Nat) (x1 x2 x3 x4 : Int) (U : Nat → Nat → Int) (R : Option am_V × am_M) (h : ∃ (r1 : Int) (U1 : Nat → Nat → Int), Ev kz (d, 200, 0, [some (.inr (.inr 86)), some (.inl x1), some (.inl x3)], [], (am_sh, am_mm U)) (some (.inl r1), (am_sh, am_mm U1)) ∧ ∃ (r2 : Int) (U2 : Nat → Nat → Int), Ev kz (d, 200, 0, [some (.inr (.inr 86)), some (.inl x1), some (.inl x4)], [], (am_sh, am_mm U1)) (some (.inl r2), (am_sh, am_mm U2)) ∧ (((x3 = x4 : Prop)) → R = (some (.inl 0), (am_sh, am_mm U2))) ∧ (¬ (x3 = x4) → (((r1 = (-1) : Prop)) → R = (some (.inl 0), (am_sh, am_mm U2))) ∧ (¬ (r1 = (-1)) → (((¬ r2 = (-1) : Prop)) → (((¬ x2 = 2 : Prop)) → ∃ (r3 : Int) (U3 : Nat → Nat → Int), Ev kz (d, 113, 0, [some (.inr (.inr 86)), some (.inl (U2 86 13)), some (.inl r1), some (.inl r2), none, none], [], (am_sh, am_mm U2)) (some (.inl r3), (am_sh, am_mm U3)) ∧ (r3 = 0 ∨ r3 = 1) ∧ R = (some (.inl r3), (am_sh, am_mm U3))) ∧ (¬ (¬ x2 = 2) → (((¬ r1 = r2 : Prop)) → R = (some (.inl 0), (am_sh, am_mm U2))) ∧ (¬ (¬ r1 = r2) → R = (some (.inl 1), (am_sh, am_mm U2))))) ∧ (¬ (¬ r2 = (-1)) → R = (some (.inl 0), (am_sh, am_mm U2)))))) : Ev kz ((d + 1), 202, 0, [some (.inr (.inr 86)), some (.inl x1), some (.inl x2), some (.inl x3), some (.inl x4), none, none], [], (am_sh, am_mm U)) R := by
  refine ev_seg (σ1 := ((d + 1), 202, 3, [some (.inr (.inr 86)), some (.inl x1), some (.inl x2), some (.inl x3), some (.inl x4), none, none], [.inl x3, .inl x1, .inr (.inr 86)], (am_sh, am_mm U))) 3 (fun _ => rfl) ?_
  obtain ⟨r1, U1, hc, ha⟩ := h
  refine ev_cal (σc := (d, 200, 0, [some (.inr (.inr 86)), some (.inl x1), some (.inl x3)], [], (am_sh, am_mm U))) (fun _ => rfl) hc ?_
  show Ev kz ((d + 1), 202, 6, [some (.inr (.inr 86)), some (.inl x1), some (.inl x2), some (.inl x3), some (.inl x4), none, none], [.inl r1], (am_sh, am_mm U1)) R
  refine ev_seg (σ1 := ((d + 1), 202, 12, [some (.inr (.inr 86)), some (.inl x1), some (.inl x2), some (.inl x3), some (.inl x4), some (.inl r1), none], [.inl x4, .inl x1, .inr (.inr 86)], (am_sh, am_mm U1))) 4 (fun _ => rfl) ?_
  obtain ⟨r2, U2, hac, haa⟩ := ha
  refine ev_cal (σc := (d, 200, 0, [some (.inr (.inr 86)), some (.inl x1), some (.inl x4)], [], (am_sh, am_mm U1))) (fun _ => rfl) hac ?_
  show Ev kz ((d + 1), 202, 15, [some (.inr (.inr 86)), some (.inl x1), some (.inl x2), some (.inl x3), some (.inl x4), some (.inl r1), none], [.inl r2], (am_sh, am_mm U2)) R
  refine ev_br (P := x3 = x4) (σ1 := ((d + 1), 202, 35, [some (.inr (.inr 86)), some (.inl x1), some (.inl x2), some (.inl x3), some (.inl x4), some (.inl r1), some (.inl r2)], [], (am_sh, am_mm U2))) (σ2 := ((d + 1), 202, 23, [some (.inr (.inr 86)), some (.inl x1), some (.inl x2), some (.inl x3), some (.inl x4), some (.inl r1), some (.inl r2)], [], (am_sh, am_mm U2))) 4 (fun _ => rfl) (fun hc => ?_) (fun hc => ?_)
  · have haa1 := haa.1 hc
    subst haa1
    exact ev_end 2 (fun _ => rfl)
  · have haa2 := haa.2 hc
    refine ev_br (P := r1 = (-1)) (σ1 := ((d + 1), 202, 35, [some (.inr (.inr 86)), some (.inl x1), some (.inl x2), some (.inl x3), some (.inl x4), some (.inl r1), some (.inl r2)], [], (am_sh, am_mm U2))) (σ2 := ((d + 1), 202, 29, [some (.inr (.inr 86)), some (.inl x1), some (.inl x2), some (.inl x3), some (.inl x4), some (.inl r1), some (.inl r2)], [], (am_sh, am_mm U2))) 3 (fun _ => rfl) (fun hc => ?_) (fun hc => ?_)
    · have haa21 := haa2.1 hc
      subst haa21
      exact ev_end 2 (fun _ => rfl)
    · have haa22 := haa2.2 hc
      refine ev_br (P := ¬ r2 = (-1)) (σ1 := ((d + 1), 202, 37, [some (.inr (.inr 86)), some (.inl x1), some (.inl x2), some (.inl x3), some (.inl x4), some (.inl r1), some (.inl r2)], [], (am_sh, am_mm U2))) (σ2 := ((d + 1), 202, 35, [some (.inr (.inr 86)), some (.inl x1), some (.inl x2), some (.inl x3), some (.inl x4), some (.inl r1), some (.inl r2)], [], (am_sh, am_mm U2))) 3 (fun _ => rfl) (fun hc => ?_) (fun hc => ?_)
      · have haa221 := haa22.1 hc
        refine ev_br (P := ¬ x2 = 2) (σ1 := ((d + 1), 202, 57, [some (.inr (.inr 86)), some (.inl x1), some (.inl x2), some (.inl x3), some (.inl x4), some (.inl r1), some (.inl r2)], [], (am_sh, am_mm U2))) (σ2 := ((d + 1), 202, 42, [some (.inr (.inr 86)), some (.inl x1), some (.inl x2), some (.inl x3), some (.inl x4), some (.inl r1), some (.inl r2)], [], (am_sh, am_mm U2))) 3 (fun _ => rfl) (fun hc => ?_) (fun hc => ?_)
        · have haa2211 := haa221.1 hc
          refine ev_seg (σ1 := ((d + 1), 202, 66, [some (.inr (.inr 86)), some (.inl x1), some (.inl x2), some (.inl x3), some (.inl x4), some (.inl r1), some (.inl r2)], [.inl r2, .inl r1, .inl (U2 86 13), .inr (.inr 86)], (am_sh, am_mm U2))) 5 (fun _ => rfl) ?_
          obtain ⟨r3, U3, haa2211c, haa2211a⟩ := haa2211
          refine ev_cal (σc := (d, 113, 0, [some (.inr (.inr 86)), some (.inl (U2 86 13)), some (.inl r1), some (.inl r2), none, none], [], (am_sh, am_mm U2))) (fun _ => rfl) haa2211c ?_
          show Ev kz ((d + 1), 202, 69, [some (.inr (.inr 86)), some (.inl x1), some (.inl x2), some (.inl x3), some (.inl x4), some (.inl r1), some (.inl r2)], [.inl r3], (am_sh, am_mm U3)) R
          rw [haa2211a.2]
          exact ev_retz rfl rfl haa2211a.1
        · have haa2212 := haa221.2 hc
          refine ev_br (P := ¬ r1 = r2) (σ1 := ((d + 1), 202, 53, [some (.inr (.inr 86)), some (.inl x1), some (.inl x2), some (.inl x3), some (.inl x4), some (.inl r1), some (.inl r2)], [], (am_sh, am_mm U2))) (σ2 := ((d + 1), 202, 49, [some (.inr (.inr 86)), some (.inl x1), some (.inl x2), some (.inl x3), some (.inl x4), some (.inl r1), some (.inl r2)], [], (am_sh, am_mm U2))) 3 (fun _ => rfl) (fun hc => ?_) (fun hc => ?_)
          · have haa22121 := haa2212.1 hc
            subst haa22121
            exact ev_end 3 (fun _ => rfl)
          · have haa22122 := haa2212.2 hc
            subst haa22122
            exact ev_end 3 (fun _ => rfl)
      · have haa222 := haa22.2 hc
        subst haa222
        exact ev_end 2 (fun _ => rfl)
theorem st203_86_0 (kz : am_Z) (d : Nat) (x1 x2 : Int) (U : Nat → Nat → Int) (R : Option am_V × am_M) (h : (0 ≤ (w32 ((w32 (16 * x1)) + x2)) ∧ (w32 ((w32 (16 * x1)) + x2)) < 352) ∧ R = (some (.inl (U 123 (w32 ((w32 (16 * x1)) + x2)).toNat)), (am_sh, am_mm U))) : Ev kz (d, 203, 0, [some (.inr (.inr 86)), some (.inl x1), some (.inl x2)], [], (am_sh, am_mm U)) R := by
  refine ev_seg (σ1 := (d, 203, 10, [some (.inr (.inr 86)), some (.inl x1), some (.inl x2)], [.inl (w32 ((w32 (16 * x1)) + x2)), .inr (.inr 123)], (am_sh, am_mm U))) 7 (fun _ => rfl) ?_
  refine eu_iald 123 (n := 352) rfl (by decide) rfl (fun _ => rfl) h.1 ?_
  have ha := h.2
  subst ha
  exact ev_end 1 (fun _ => rfl)
theorem st210_45_0 (kz : am_Z) (d : Nat) (x1 : Int) (U : Nat → Nat → Int) (R : Option am_V × am_M) (h : ∃ (r1 : Int) (U1 : Nat → Nat → Int), Ev kz (d, 204, 0, [some (.inr (.inr 45)), some (.inl x1), none], [], (am_sh, am_mm U)) (some (.inl r1), (am_sh, am_mm U1)) ∧ ∃ (r2 : Int) (U2 : Nat → Nat → Int), Ev kz (d, 205, 0, [some (.inr (.inr 45)), some (.inl x1), none, none, none], [], (am_sh, am_mm U1)) (some (.inl r2), (am_sh, am_mm U2)) ∧ Ev kz ((d + 1), 210, 14, [some (.inr (.inr 45)), some (.inl x1), some (.inl (am_or r1 r2)), some (.inl 0), none], [], (am_sh, am_mm U2)) R) : Ev kz ((d + 1), 210, 0, [some (.inr (.inr 45)), some (.inl x1), none, none, none], [], (am_sh, am_mm U)) R := by
  refine ev_seg (σ1 := ((d + 1), 210, 2, [some (.inr (.inr 45)), some (.inl x1), none, none, none], [.inl x1, .inr (.inr 45)], (am_sh, am_mm U))) 2 (fun _ => rfl) ?_
  obtain ⟨r1, U1, hc, ha⟩ := h
  refine ev_cal (σc := (d, 204, 0, [some (.inr (.inr 45)), some (.inl x1), none], [], (am_sh, am_mm U))) (fun _ => rfl) hc ?_
  show Ev kz ((d + 1), 210, 5, [some (.inr (.inr 45)), some (.inl x1), none, none, none], [.inl r1], (am_sh, am_mm U1)) R
  refine ev_seg (σ1 := ((d + 1), 210, 7, [some (.inr (.inr 45)), some (.inl x1), none, none, none], [.inl x1, .inr (.inr 45), .inl r1], (am_sh, am_mm U1))) 2 (fun _ => rfl) ?_
  obtain ⟨r2, U2, hac, haa⟩ := ha
  refine ev_cal (σc := (d, 205, 0, [some (.inr (.inr 45)), some (.inl x1), none, none, none], [], (am_sh, am_mm U1))) (fun _ => rfl) hac ?_
  show Ev kz ((d + 1), 210, 10, [some (.inr (.inr 45)), some (.inl x1), none, none, none], [.inl r2, .inl r1], (am_sh, am_mm U2)) R
  refine ev_seg (σ1 := ((d + 1), 210, 14, [some (.inr (.inr 45)), some (.inl x1), some (.inl (am_or r1 r2)), some (.inl 0), none], [], (am_sh, am_mm U2))) 4 (fun _ => rfl) ?_
  exact haa
theorem st210_45_14 (kz : am_Z) (d : Nat) (x1 x2 x3 : Int) (U : Nat → Nat → Int) (R : Option am_V × am_M) (h : ((((U 3 4) ≤ x3 : Prop)) → R = (some (.inl 0), (am_sh, am_mm U))) ∧ (¬ ((U 3 4) ≤ x3) → ∃ (r1 : Int) (U1 : Nat → Nat → Int), Ev kz (d, 272, 0, [some (.inr (.inr 45)), some (.inl x3), some (.inl x1), some (.inl (-1)), none, none, none, none], [], (am_sh, am_mm U)) (some (.inl r1), (am_sh, am_mm U1)) ∧ (((r1 = 0 : Prop)) → Ev kz ((d + 1), 210, 40, [some (.inr (.inr 45)), some (.inl x1), some (.inl x2), some (.inl x3), some (.inl 0)], [], (am_sh, am_mm U1)) R) ∧ (¬ (r1 = 0) → R = (some (.inl 1), (am_sh, am_mm U1))))) : Ev kz ((d + 1), 210, 14, [some (.inr (.inr 45)), some (.inl x1), some (.inl x2), some (.inl x3), none], [], (am_sh, am_mm U)) R := by
  refine ev_br (P := (U 3 4) ≤ x3) (σ1 := ((d + 1), 210, 89, [some (.inr (.inr 45)), some (.inl x1), some (.inl x2), some (.inl x3), none], [], (am_sh, am_mm U))) (σ2 := ((d + 1), 210, 25, [some (.inr (.inr 45)), some (.inl x1), some (.inl x2), some (.inl x3), none], [], (am_sh, am_mm U))) 5 (fun _ => rfl) (fun hc => ?_) (fun hc => ?_)
  · have h1 := h.1 hc
    subst h1
    exact ev_end 2 (fun _ => rfl)
  · have h2 := h.2 hc
    refine ev_seg (σ1 := ((d + 1), 210, 29, [some (.inr (.inr 45)), some (.inl x1), some (.inl x2), some (.inl x3), none], [.inl (-1), .inl x1, .inl x3, .inr (.inr 45)], (am_sh, am_mm U))) 4 (fun _ => rfl) ?_
    obtain ⟨r1, U1, h2c, h2a⟩ := h2
    refine ev_cal (σc := (d, 272, 0, [some (.inr (.inr 45)), some (.inl x3), some (.inl x1), some (.inl (-1)), none, none, none, none], [], (am_sh, am_mm U))) (fun _ => rfl) h2c ?_
    show Ev kz ((d + 1), 210, 32, [some (.inr (.inr 45)), some (.inl x1), some (.inl x2), some (.inl x3), none], [.inl r1], (am_sh, am_mm U1)) R
    refine ev_br (P := r1 = 0) (σ1 := ((d + 1), 210, 37, [some (.inr (.inr 45)), some (.inl x1), some (.inl x2), some (.inl x3), none], [], (am_sh, am_mm U1))) (σ2 := ((d + 1), 210, 35, [some (.inr (.inr 45)), some (.inl x1), some (.inl x2), some (.inl x3), none], [], (am_sh, am_mm U1))) 1 (fun _ => rfl) (fun hc => ?_) (fun hc => ?_)
    · have h2a1 := h2a.1 hc
      refine ev_seg (σ1 := ((d + 1), 210, 40, [some (.inr (.inr 45)), some (.inl x1), some (.inl x2), some (.inl x3), some (.inl 0)], [], (am_sh, am_mm U1))) 2 (fun _ => rfl) ?_
      exact h2a1
    · have h2a2 := h2a.2 hc
      subst h2a2
      exact ev_end 2 (fun _ => rfl)
theorem st210_45_40 (kz : am_Z) (d : Nat) (x1 x2 x3 x4 : Int) (U : Nat → Nat → Int) (R : Option am_V × am_M) (h : ((((U 16 0) ≤ x4 : Prop)) → Ev kz ((d + 1), 210, 14, [some (.inr (.inr 45)), some (.inl x1), some (.inl x2), some (.inl (w32 (x3 + 1))), some (.inl x4)], [], (am_sh, am_mm U)) R) ∧ (¬ ((U 16 0) ≤ x4) → (((¬ (am_and (am_shr x2 x4) 1) = 1 : Prop)) → Ev kz ((d + 1), 210, 40, [some (.inr (.inr 45)), some (.inl x1), some (.inl x2), some (.inl x3), some (.inl (w32 (x4 + 1)))], [], (am_sh, am_mm U)) R) ∧ (¬ (¬ (am_and (am_shr x2 x4) 1) = 1) → ∃ (r1 : Int) (U1 : Nat → Nat → Int), Ev kz (d, 272, 0, [some (.inr (.inr 45)), some (.inl x3), some (.inl x4), some (.inl (am_shl 1 x1)), none, none, none, none], [], (am_sh, am_mm U)) (some (.inl r1), (am_sh, am_mm U1)) ∧ (((r1 = 0 : Prop)) → Ev kz ((d + 1), 210, 40, [some (.inr (.inr 45)), some (.inl x1), some (.inl x2), some (.inl x3), some (.inl (w32 (x4 + 1)))], [], (am_sh, am_mm U1)) R) ∧ (¬ (r1 = 0) → R = (some (.inl 1), (am_sh, am_mm U1)))))) : Ev kz ((d + 1), 210, 40, [some (.inr (.inr 45)), some (.inl x1), some (.inl x2), some (.inl x3), some (.inl x4)], [], (am_sh, am_mm U)) R := by
  refine ev_br (P := (U 16 0) ≤ x4) (σ1 := ((d + 1), 210, 83, [some (.inr (.inr 45)), some (.inl x1), some (.inl x2), some (.inl x3), some (.inl x4)], [], (am_sh, am_mm U))) (σ2 := ((d + 1), 210, 52, [some (.inr (.inr 45)), some (.inl x1), some (.inl x2), some (.inl x3), some (.inl x4)], [], (am_sh, am_mm U))) 5 (fun _ => rfl) (fun hc => ?_) (fun hc => ?_)
  · have h1 := h.1 hc
    refine ev_seg (σ1 := ((d + 1), 210, 14, [some (.inr (.inr 45)), some (.inl x1), some (.inl x2), some (.inl (w32 (x3 + 1))), some (.inl x4)], [], (am_sh, am_mm U))) 2 (fun _ => rfl) ?_
    exact h1
  · have h2 := h.2 hc
    refine ev_br (P := ¬ (am_and (am_shr x2 x4) 1) = 1) (σ1 := ((d + 1), 210, 77, [some (.inr (.inr 45)), some (.inl x1), some (.inl x2), some (.inl x3), some (.inl x4)], [], (am_sh, am_mm U))) (σ2 := ((d + 1), 210, 62, [some (.inr (.inr 45)), some (.inl x1), some (.inl x2), some (.inl x3), some (.inl x4)], [], (am_sh, am_mm U))) 7 (fun _ => rfl) (fun hc => ?_) (fun hc => ?_)
    · have h21 := h2.1 hc
      refine ev_seg (σ1 := ((d + 1), 210, 40, [some (.inr (.inr 45)), some (.inl x1), some (.inl x2), some (.inl x3), some (.inl (w32 (x4 + 1)))], [], (am_sh, am_mm U))) 2 (fun _ => rfl) ?_
      exact h21
    · have h22 := h2.2 hc
      refine ev_seg (σ1 := ((d + 1), 210, 69, [some (.inr (.inr 45)), some (.inl x1), some (.inl x2), some (.inl x3), some (.inl x4)], [.inl (am_shl 1 x1), .inl x4, .inl x3, .inr (.inr 45)], (am_sh, am_mm U))) 6 (fun _ => rfl) ?_
      obtain ⟨r1, U1, h22c, h22a⟩ := h22
      refine ev_cal (σc := (d, 272, 0, [some (.inr (.inr 45)), some (.inl x3), some (.inl x4), some (.inl (am_shl 1 x1)), none, none, none, none], [], (am_sh, am_mm U))) (fun _ => rfl) h22c ?_
      show Ev kz ((d + 1), 210, 72, [some (.inr (.inr 45)), some (.inl x1), some (.inl x2), some (.inl x3), some (.inl x4)], [.inl r1], (am_sh, am_mm U1)) R
      refine ev_br (P := r1 = 0) (σ1 := ((d + 1), 210, 77, [some (.inr (.inr 45)), some (.inl x1), some (.inl x2), some (.inl x3), some (.inl x4)], [], (am_sh, am_mm U1))) (σ2 := ((d + 1), 210, 75, [some (.inr (.inr 45)), some (.inl x1), some (.inl x2), some (.inl x3), some (.inl x4)], [], (am_sh, am_mm U1))) 1 (fun _ => rfl) (fun hc => ?_) (fun hc => ?_)
      · have h22a1 := h22a.1 hc
        refine ev_seg (σ1 := ((d + 1), 210, 40, [some (.inr (.inr 45)), some (.inl x1), some (.inl x2), some (.inl x3), some (.inl (w32 (x4 + 1)))], [], (am_sh, am_mm U1))) 2 (fun _ => rfl) ?_
        exact h22a1
      · have h22a2 := h22a.2 hc
        subst h22a2
        exact ev_end 2 (fun _ => rfl)
theorem st215_48_0 (kz : am_Z) (d : Nat) (U : Nat → Nat → Int) (R : Option am_V × am_M) (h : Ev kz ((d + 1), 215, 2, [some (.inr (.inr 48)), some (.inl 0)], [], (am_sh, am_mm U)) R) : Ev kz ((d + 1), 215, 0, [some (.inr (.inr 48)), none], [], (am_sh, am_mm U)) R := by
  refine ev_seg (σ1 := ((d + 1), 215, 2, [some (.inr (.inr 48)), some (.inl 0)], [], (am_sh, am_mm U))) 2 (fun _ => rfl) ?_
  exact h
theorem st215_48_2 (kz : am_Z) (d : Nat) (x1 : Int) (U : Nat → Nat → Int) (R : Option am_V × am_M) (h : ((((U 48 6) ≤ x1 : Prop)) → R = (none, (am_sh, am_mm U))) ∧ (¬ ((U 48 6) ≤ x1) → (0 ≤ x1 ∧ x1 < 3) ∧ ∃ U1 : Nat → Nat → Int, Ev kz (d, 138, 0, [some (.inr (.inr 16)), some (.inl (U 49 x1.toNat)), some (.inl (-1)), none], [], (am_sh, am_mm U)) (none, (am_sh, am_mm U1)) ∧ Ev kz ((d + 1), 215, 2, [some (.inr (.inr 48)), some (.inl (w32 (x1 + 1)))], [], (am_sh, am_mm U1)) R)) : Ev kz ((d + 1), 215, 2, [some (.inr (.inr 48)), some (.inl x1)], [], (am_sh, am_mm U)) R := by
  refine ev_br (P := (U 48 6) ≤ x1) (σ1 := ((d + 1), 215, 30, [some (.inr (.inr 48)), some (.inl x1)], [], (am_sh, am_mm U))) (σ2 := ((d + 1), 215, 10, [some (.inr (.inr 48)), some (.inl x1)], [], (am_sh, am_mm U))) 4 (fun _ => rfl) (fun hc => ?_) (fun hc => ?_)
  · have h1 := h.1 hc
    subst h1
    exact ev_end 1 (fun _ => rfl)
  · have h2 := h.2 hc
    refine ev_seg (σ1 := ((d + 1), 215, 19, [some (.inr (.inr 48)), some (.inl x1)], [.inl x1, .inr (.inr 49), .inr (.inr 16)], (am_sh, am_mm U))) 5 (fun _ => rfl) ?_
    refine eu_iald 49 (n := 3) rfl (by decide) rfl (fun _ => rfl) h2.1 ?_
    have h2a := h2.2
    refine ev_seg (σ1 := ((d + 1), 215, 21, [some (.inr (.inr 48)), some (.inl x1)], [.inl (-1), .inl (U 49 x1.toNat), .inr (.inr 16)], (am_sh, am_mm U))) 1 (fun _ => rfl) ?_
    obtain ⟨U1, h2ac, h2aa⟩ := h2a
    refine ev_cal (σc := (d, 138, 0, [some (.inr (.inr 16)), some (.inl (U 49 x1.toNat)), some (.inl (-1)), none], [], (am_sh, am_mm U))) (fun _ => rfl) h2ac ?_
    show Ev kz ((d + 1), 215, 24, [some (.inr (.inr 48)), some (.inl x1)], [], (am_sh, am_mm U1)) R
    refine ev_seg (σ1 := ((d + 1), 215, 2, [some (.inr (.inr 48)), some (.inl (w32 (x1 + 1)))], [], (am_sh, am_mm U1))) 2 (fun _ => rfl) ?_
    exact h2aa
theorem st213_48_0 (kz : am_Z) (d : Nat) (U : Nat → Nat → Int) (R : Option am_V × am_M) (h : Ev kz ((d + 1), 213, 2, [some (.inr (.inr 48)), some (.inl 0)], [], (am_sh, am_mm U)) R) : Ev kz ((d + 1), 213, 0, [some (.inr (.inr 48)), none], [], (am_sh, am_mm U)) R := by
  refine ev_seg (σ1 := ((d + 1), 213, 2, [some (.inr (.inr 48)), some (.inl 0)], [], (am_sh, am_mm U))) 2 (fun _ => rfl) ?_
  exact h
theorem st213_48_2 (kz : am_Z) (d : Nat) (x1 : Int) (U : Nat → Nat → Int) (R : Option am_V × am_M) (h : ((((U 3 1) ≤ x1 : Prop)) → Ev kz ((d + 1), 213, 31, [some (.inr (.inr 48)), some (.inl 0)], [], (am_sh, am_mm U)) R) ∧ (¬ ((U 3 1) ≤ x1) → ∃ (r1 : Int) (U1 : Nat → Nat → Int), Ev kz (d, 274, 0, [some (.inr (.inr 48)), some (.inl x1), none, none, none, none], [], (am_sh, am_mm U)) (some (.inl r1), (am_sh, am_mm U1)) ∧ (((r1 = 0 : Prop)) → Ev kz ((d + 1), 213, 2, [some (.inr (.inr 48)), some (.inl (w32 (x1 + 1)))], [], (am_sh, am_mm U1)) R) ∧ (¬ (r1 = 0) → R = (some (.inl 0), (am_sh, am_mm U1))))) : Ev kz ((d + 1), 213, 2, [some (.inr (.inr 48)), some (.inl x1)], [], (am_sh, am_mm U)) R := by
  refine ev_br (P := (U 3 1) ≤ x1) (σ1 := ((d + 1), 213, 29, [some (.inr (.inr 48)), some (.inl x1)], [], (am_sh, am_mm U))) (σ2 := ((d + 1), 213, 13, [some (.inr (.inr 48)), some (.inl x1)], [], (am_sh, am_mm U))) 5 (fun _ => rfl) (fun hc => ?_) (fun hc => ?_)
  · have h1 := h.1 hc
    refine ev_seg (σ1 := ((d + 1), 213, 31, [some (.inr (.inr 48)), some (.inl 0)], [], (am_sh, am_mm U))) 2 (fun _ => rfl) ?_
    exact h1
  · have h2 := h.2 hc
    refine ev_seg (σ1 := ((d + 1), 213, 15, [some (.inr (.inr 48)), some (.inl x1)], [.inl x1, .inr (.inr 48)], (am_sh, am_mm U))) 2 (fun _ => rfl) ?_
    obtain ⟨r1, U1, h2c, h2a⟩ := h2
    refine ev_cal (σc := (d, 274, 0, [some (.inr (.inr 48)), some (.inl x1), none, none, none, none], [], (am_sh, am_mm U))) (fun _ => rfl) h2c ?_
    show Ev kz ((d + 1), 213, 18, [some (.inr (.inr 48)), some (.inl x1)], [.inl r1], (am_sh, am_mm U1)) R
    refine ev_br (P := r1 = 0) (σ1 := ((d + 1), 213, 23, [some (.inr (.inr 48)), some (.inl x1)], [], (am_sh, am_mm U1))) (σ2 := ((d + 1), 213, 21, [some (.inr (.inr 48)), some (.inl x1)], [], (am_sh, am_mm U1))) 1 (fun _ => rfl) (fun hc => ?_) (fun hc => ?_)
    · have h2a1 := h2a.1 hc
      refine ev_seg (σ1 := ((d + 1), 213, 2, [some (.inr (.inr 48)), some (.inl (w32 (x1 + 1)))], [], (am_sh, am_mm U1))) 2 (fun _ => rfl) ?_
      exact h2a1
    · have h2a2 := h2a.2 hc
      subst h2a2
      exact ev_end 2 (fun _ => rfl)
theorem st213_48_31 (kz : am_Z) (d : Nat) (x1 : Int) (U : Nat → Nat → Int) (R : Option am_V × am_M) (h : ((((U 48 6) ≤ x1 : Prop)) → R = (some (.inl 1), (am_sh, am_mm U))) ∧ (¬ ((U 48 6) ≤ x1) → (0 ≤ x1 ∧ x1 < 3) ∧ ∃ (r1 : Int) (U1 : Nat → Nat → Int), Ev kz (d, 210, 0, [some (.inr (.inr 45)), some (.inl (U 49 x1.toNat)), none, none, none], [], (am_sh, am_mm U)) (some (.inl r1), (am_sh, am_mm U1)) ∧ (((r1 = 0 : Prop)) → Ev kz ((d + 1), 213, 31, [some (.inr (.inr 48)), some (.inl (w32 (x1 + 1)))], [], (am_sh, am_mm U1)) R) ∧ (¬ (r1 = 0) → R = (some (.inl 0), (am_sh, am_mm U1))))) : Ev kz ((d + 1), 213, 31, [some (.inr (.inr 48)), some (.inl x1)], [], (am_sh, am_mm U)) R := by
  refine ev_br (P := (U 48 6) ≤ x1) (σ1 := ((d + 1), 213, 63, [some (.inr (.inr 48)), some (.inl x1)], [], (am_sh, am_mm U))) (σ2 := ((d + 1), 213, 39, [some (.inr (.inr 48)), some (.inl x1)], [], (am_sh, am_mm U))) 4 (fun _ => rfl) (fun hc => ?_) (fun hc => ?_)
  · have h1 := h.1 hc
    subst h1
    exact ev_end 2 (fun _ => rfl)
  · have h2 := h.2 hc
    refine ev_seg (σ1 := ((d + 1), 213, 48, [some (.inr (.inr 48)), some (.inl x1)], [.inl x1, .inr (.inr 49), .inr (.inr 45)], (am_sh, am_mm U))) 5 (fun _ => rfl) ?_
    refine eu_iald 49 (n := 3) rfl (by decide) rfl (fun _ => rfl) h2.1 ?_
    have h2a := h2.2
    obtain ⟨r1, U1, h2ac, h2aa⟩ := h2a
    refine ev_cal (σc := (d, 210, 0, [some (.inr (.inr 45)), some (.inl (U 49 x1.toNat)), none, none, none], [], (am_sh, am_mm U))) (fun _ => rfl) h2ac ?_
    show Ev kz ((d + 1), 213, 52, [some (.inr (.inr 48)), some (.inl x1)], [.inl r1], (am_sh, am_mm U1)) R
    refine ev_br (P := r1 = 0) (σ1 := ((d + 1), 213, 57, [some (.inr (.inr 48)), some (.inl x1)], [], (am_sh, am_mm U1))) (σ2 := ((d + 1), 213, 55, [some (.inr (.inr 48)), some (.inl x1)], [], (am_sh, am_mm U1))) 1 (fun _ => rfl) (fun hc => ?_) (fun hc => ?_)
    · have h2aa1 := h2aa.1 hc
      refine ev_seg (σ1 := ((d + 1), 213, 31, [some (.inr (.inr 48)), some (.inl (w32 (x1 + 1)))], [], (am_sh, am_mm U1))) 2 (fun _ => rfl) ?_
      exact h2aa1
    · have h2aa2 := h2aa.2 hc
      subst h2aa2
      exact ev_end 2 (fun _ => rfl)
theorem st97_16_0 (kz : am_Z) (d : Nat) (U : Nat → Nat → Int) (R : Option am_V × am_M) (h : Ev kz (d, 97, 4, [some (.inr (.inr 16)), some (.inl 0), some (.inl 0)], [], (am_sh, am_mm U)) R) : Ev kz (d, 97, 0, [some (.inr (.inr 16)), none, none], [], (am_sh, am_mm U)) R := by
  refine ev_seg (σ1 := (d, 97, 4, [some (.inr (.inr 16)), some (.inl 0), some (.inl 0)], [], (am_sh, am_mm U))) 4 (fun _ => rfl) ?_
  exact h
theorem st97_16_4 (kz : am_Z) (d : Nat) (x1 x2 : Int) (U : Nat → Nat → Int) (R : Option am_V × am_M) (h : ((((U 16 0) ≤ x2 : Prop)) → R = (some (.inl x1), (am_sh, am_mm U))) ∧ (¬ ((U 16 0) ≤ x2) → (0 ≤ x2 ∧ x2 < 16) ∧ (((¬ (U 18 x2.toNat) = (-1) : Prop)) → Ev kz (d, 97, 4, [some (.inr (.inr 16)), some (.inl x1), some (.inl (w32 (x2 + 1)))], [], (am_sh, am_mm U)) R) ∧ (¬ (¬ (U 18 x2.toNat) = (-1)) → Ev kz (d, 97, 4, [some (.inr (.inr 16)), some (.inl (am_or x1 (am_shl 1 x2))), some (.inl (w32 (x2 + 1)))], [], (am_sh, am_mm U)) R))) : Ev kz (d, 97, 4, [some (.inr (.inr 16)), some (.inl x1), some (.inl x2)], [], (am_sh, am_mm U)) R := by
  refine ev_br (P := (U 16 0) ≤ x2) (σ1 := (d, 97, 34, [some (.inr (.inr 16)), some (.inl x1), some (.inl x2)], [], (am_sh, am_mm U))) (σ2 := (d, 97, 12, [some (.inr (.inr 16)), some (.inl x1), some (.inl x2)], [], (am_sh, am_mm U))) 4 (fun _ => rfl) (fun hc => ?_) (fun hc => ?_)
  · have h1 := h.1 hc
    subst h1
    exact ev_end 2 (fun _ => rfl)
  · have h2 := h.2 hc
    refine ev_seg (σ1 := (d, 97, 17, [some (.inr (.inr 16)), some (.inl x1), some (.inl x2)], [.inl x2, .inr (.inr 18)], (am_sh, am_mm U))) 3 (fun _ => rfl) ?_
    refine eu_iald 18 (n := 16) rfl (by decide) rfl (fun _ => rfl) h2.1 ?_
    have h2a := h2.2
    refine ev_br (P := ¬ (U 18 x2.toNat) = (-1)) (σ1 := (d, 97, 28, [some (.inr (.inr 16)), some (.inl x1), some (.inl x2)], [], (am_sh, am_mm U))) (σ2 := (d, 97, 22, [some (.inr (.inr 16)), some (.inl x1), some (.inl x2)], [], (am_sh, am_mm U))) 2 (fun _ => rfl) (fun hc => ?_) (fun hc => ?_)
    · have h2a1 := h2a.1 hc
      refine ev_seg (σ1 := (d, 97, 4, [some (.inr (.inr 16)), some (.inl x1), some (.inl (w32 (x2 + 1)))], [], (am_sh, am_mm U))) 2 (fun _ => rfl) ?_
      exact h2a1
    · have h2a2 := h2a.2 hc
      refine ev_seg (σ1 := (d, 97, 4, [some (.inr (.inr 16)), some (.inl (am_or x1 (am_shl 1 x2))), some (.inl (w32 (x2 + 1)))], [], (am_sh, am_mm U))) 8 (fun _ => rfl) ?_
      exact h2a2
theorem st214_48_0 (kz : am_Z) (d : Nat) (x1 : Int) (U : Nat → Nat → Int) (R : Option am_V × am_M) (h : Ev kz (d, 214, 7, [some (.inr (.inr 48)), some (.inl x1), some (.inl 0)], [], (am_sh, am_mm (am_upd U 48 8 x1))) R) : Ev kz (d, 214, 0, [some (.inr (.inr 48)), some (.inl x1), none], [], (am_sh, am_mm U)) R := by
  refine ev_seg (σ1 := (d, 214, 2, [some (.inr (.inr 48)), some (.inl x1), none], [.inl x1, .inr (.inr 48)], (am_sh, am_mm U))) 2 (fun _ => rfl) ?_
  refine eu_puti 48 (n := 10) rfl (by decide) rfl rfl ?_
  refine ev_seg (σ1 := (d, 214, 7, [some (.inr (.inr 48)), some (.inl x1), some (.inl 0)], [], (am_sh, am_mm (am_upd U 48 8 x1)))) 2 (fun _ => rfl) ?_
  exact h
theorem st214_48_7 (kz : am_Z) (d : Nat) (x1 x2 : Int) (U : Nat → Nat → Int) (R : Option am_V × am_M) (h : ((((U 48 6) ≤ x2 : Prop)) → R = (none, (am_sh, am_mm U))) ∧ (¬ ((U 48 6) ≤ x2) → (0 ≤ x2 ∧ x2 < 3) ∧ (((0 ≤ (U 49 x2.toNat) : Prop)) → (0 ≤ x2 ∧ x2 < 3) ∧ (0 ≤ (U 49 x2.toNat) ∧ (U 49 x2.toNat) < 16) ∧ (0 ≤ x2 ∧ x2 < 3) ∧ Ev kz (d, 214, 7, [some (.inr (.inr 48)), some (.inl x1), some (.inl (w32 (x2 + 1)))], [], (am_sh, am_mm (am_upd U 50 x2.toNat (U 18 (U 49 x2.toNat).toNat)))) R) ∧ (¬ (0 ≤ (U 49 x2.toNat)) → (0 ≤ x2 ∧ x2 < 3) ∧ Ev kz (d, 214, 7, [some (.inr (.inr 48)), some (.inl x1), some (.inl (w32 (x2 + 1)))], [], (am_sh, am_mm (am_upd U 50 x2.toNat (-1)))) R))) : Ev kz (d, 214, 7, [some (.inr (.inr 48)), some (.inl x1), some (.inl x2)], [], (am_sh, am_mm U)) R := by
  refine ev_br (P := (U 48 6) ≤ x2) (σ1 := (d, 214, 54, [some (.inr (.inr 48)), some (.inl x1), some (.inl x2)], [], (am_sh, am_mm U))) (σ2 := (d, 214, 15, [some (.inr (.inr 48)), some (.inl x1), some (.inl x2)], [], (am_sh, am_mm U))) 4 (fun _ => rfl) (fun hc => ?_) (fun hc => ?_)
  · have h1 := h.1 hc
    subst h1
    exact ev_end 1 (fun _ => rfl)
  · have h2 := h.2 hc
    refine ev_seg (σ1 := (d, 214, 25, [some (.inr (.inr 48)), some (.inl x1), some (.inl x2)], [.inl x2, .inr (.inr 49), .inl x2, .inr (.inr 50)], (am_sh, am_mm U))) 6 (fun _ => rfl) ?_
    refine eu_iald 49 (n := 3) rfl (by decide) rfl (fun _ => rfl) h2.1 ?_
    have h2a := h2.2
    refine ev_br (P := 0 ≤ (U 49 x2.toNat)) (σ1 := (d, 214, 33, [some (.inr (.inr 48)), some (.inl x1), some (.inl x2)], [.inl x2, .inr (.inr 50)], (am_sh, am_mm U))) (σ2 := (d, 214, 29, [some (.inr (.inr 48)), some (.inl x1), some (.inl x2)], [.inl x2, .inr (.inr 50)], (am_sh, am_mm U))) 1 (fun _ => rfl) (fun hc => ?_) (fun hc => ?_)
    · have h2a1 := h2a.1 hc
      refine ev_seg (σ1 := (d, 214, 45, [some (.inr (.inr 48)), some (.inl x1), some (.inl x2)], [.inl x2, .inr (.inr 49), .inr (.inr 18), .inl x2, .inr (.inr 50)], (am_sh, am_mm U))) 6 (fun _ => rfl) ?_
      refine eu_iald 49 (n := 3) rfl (by decide) rfl (fun _ => rfl) h2a1.1 ?_
      have h2a1a := h2a1.2
      refine eu_iald 18 (n := 16) rfl (by decide) rfl (fun _ => rfl) h2a1a.1 ?_
      have h2a1aa := h2a1a.2
      refine eu_iast 50 (n := 3) rfl (by decide) rfl (fun _ => rfl) h2a1aa.1 ?_
      have h2a1aaa := h2a1aa.2
      refine ev_seg (σ1 := (d, 214, 7, [some (.inr (.inr 48)), some (.inl x1), some (.inl (w32 (x2 + 1)))], [], (am_sh, am_mm (am_upd U 50 x2.toNat (U 18 (U 49 x2.toNat).toNat))))) 2 (fun _ => rfl) ?_
      exact h2a1aaa
    · have h2a2 := h2a.2 hc
      refine ev_seg (σ1 := (d, 214, 47, [some (.inr (.inr 48)), some (.inl x1), some (.inl x2)], [.inl (-1), .inl x2, .inr (.inr 50)], (am_sh, am_mm U))) 2 (fun _ => rfl) ?_
      refine eu_iast 50 (n := 3) rfl (by decide) rfl (fun _ => rfl) h2a2.1 ?_
      have h2a2a := h2a2.2
      refine ev_seg (σ1 := (d, 214, 7, [some (.inr (.inr 48)), some (.inl x1), some (.inl (w32 (x2 + 1)))], [], (am_sh, am_mm (am_upd U 50 x2.toNat (-1))))) 2 (fun _ => rfl) ?_
      exact h2a2a
theorem st211_51_0 (kz : am_Z) (d : Nat) (x1 : Int) (U : Nat → Nat → Int) (R : Option am_V × am_M) (h : Ev kz (d, 211, 5, [some (.inr (.inr 51)), some (.inl x1), some (.inl 0), some (.inl 48)], [], (am_sh, am_mm U)) R) : Ev kz (d, 211, 0, [some (.inr (.inr 51)), some (.inl x1), none, none], [], (am_sh, am_mm U)) R := by
  refine ev_seg (σ1 := (d, 211, 5, [some (.inr (.inr 51)), some (.inl x1), some (.inl 0), some (.inl 48)], [], (am_sh, am_mm U))) 5 (fun _ => rfl) ?_
  exact h
theorem st211_51_5 (kz : am_Z) (d : Nat) (x1 x2 x3 : Int) (U : Nat → Nat → Int) (R : Option am_V × am_M) (h : (((x3 ≤ x2 : Prop)) → R = (none, (am_sh, am_mm U))) ∧ (¬ (x3 ≤ x2) → (0 ≤ x2 ∧ x2 < 48) ∧ Ev kz (d, 211, 5, [some (.inr (.inr 51)), some (.inl x1), some (.inl (w32 (x2 + 1))), some (.inl x3)], [], (am_sh, am_mm (am_upd U 51 x2.toNat x1))) R)) : Ev kz (d, 211, 5, [some (.inr (.inr 51)), some (.inl x1), some (.inl x2), some (.inl x3)], [], (am_sh, am_mm U)) R := by
  refine ev_br (P := x3 ≤ x2) (σ1 := (d, 211, 20, [some (.inr (.inr 51)), some (.inl x1), some (.inl x2), some (.inl x3)], [], (am_sh, am_mm U))) (σ2 := (d, 211, 10, [some (.inr (.inr 51)), some (.inl x1), some (.inl x2), some (.inl x3)], [], (am_sh, am_mm U))) 3 (fun _ => rfl) (fun hc => ?_) (fun hc => ?_)
  · have h1 := h.1 hc
    subst h1
    exact ev_end 1 (fun _ => rfl)
  · have h2 := h.2 hc
    refine ev_seg (σ1 := (d, 211, 13, [some (.inr (.inr 51)), some (.inl x1), some (.inl x2), some (.inl x3)], [.inl x1, .inl x2, .inr (.inr 51)], (am_sh, am_mm U))) 3 (fun _ => rfl) ?_
    refine eu_iast 51 (n := 48) rfl (by decide) rfl (fun _ => rfl) h2.1 ?_
    have h2a := h2.2
    refine ev_seg (σ1 := (d, 211, 5, [some (.inr (.inr 51)), some (.inl x1), some (.inl (w32 (x2 + 1))), some (.inl x3)], [], (am_sh, am_mm (am_upd U 51 x2.toNat x1)))) 2 (fun _ => rfl) ?_
    exact h2a
theorem st217_86_0 (kz : am_Z) (d : Nat) (x1 : Int) (U : Nat → Nat → Int) (R : Option am_V × am_M) (h : Ev kz ((d + 1), 217, 2, [some (.inr (.inr 86)), some (.inl x1), some (.inl 0)], [], (am_sh, am_mm U)) R) : Ev kz ((d + 1), 217, 0, [some (.inr (.inr 86)), some (.inl x1), none], [], (am_sh, am_mm U)) R := by
  refine ev_seg (σ1 := ((d + 1), 217, 2, [some (.inr (.inr 86)), some (.inl x1), some (.inl 0)], [], (am_sh, am_mm U))) 2 (fun _ => rfl) ?_
  exact h
theorem st217_86_2 (kz : am_Z) (d : Nat) (x1 x2 : Int) (U : Nat → Nat → Int) (R : Option am_V × am_M) (h : (0 ≤ (U 86 13) ∧ (U 86 13) < 2) ∧ ((((U 90 (U 86 13).toNat) ≤ x2 : Prop)) → R = (some (.inl 1), (am_sh, am_mm U))) ∧ (¬ ((U 90 (U 86 13).toNat) ≤ x2) → ∃ (r1 : Int) (U1 : Nat → Nat → Int), Ev kz (d, 111, 0, [some (.inr (.inr 86)), some (.inl x1), some (.inl x2), none, none], [], (am_sh, am_mm U)) (some (.inl r1), (am_sh, am_mm U1)) ∧ ∃ (r2 : Int) (U2 : Nat → Nat → Int), Ev kz (d, 110, 0, [some (.inr (.inr 86)), some (.inl x2)], [], (am_sh, am_mm U1)) (some (.inl r2), (am_sh, am_mm U2)) ∧ (((r1 ≤ r2 : Prop)) → Ev kz ((d + 1), 217, 2, [some (.inr (.inr 86)), some (.inl x1), some (.inl (w32 (x2 + 1)))], [], (am_sh, am_mm U2)) R) ∧ (¬ (r1 ≤ r2) → R = (some (.inl 0), (am_sh, am_mm U2))))) : Ev kz ((d + 1), 217, 2, [some (.inr (.inr 86)), some (.inl x1), some (.inl x2)], [], (am_sh, am_mm U)) R := by
  refine ev_seg (σ1 := ((d + 1), 217, 11, [some (.inr (.inr 86)), some (.inl x1), some (.inl x2)], [.inl (U 86 13), .inr (.inr 90), .inl x2], (am_sh, am_mm U))) 5 (fun _ => rfl) ?_
  refine eu_iald 90 (n := 2) rfl (by decide) rfl (fun _ => rfl) h.1 ?_
  have ha := h.2
  refine ev_br (P := (U 90 (U 86 13).toNat) ≤ x2) (σ1 := ((d + 1), 217, 37, [some (.inr (.inr 86)), some (.inl x1), some (.inl x2)], [], (am_sh, am_mm U))) (σ2 := ((d + 1), 217, 15, [some (.inr (.inr 86)), some (.inl x1), some (.inl x2)], [], (am_sh, am_mm U))) 1 (fun _ => rfl) (fun hc => ?_) (fun hc => ?_)
  · have ha1 := ha.1 hc
    subst ha1
    exact ev_end 2 (fun _ => rfl)
  · have ha2 := ha.2 hc
    refine ev_seg (σ1 := ((d + 1), 217, 18, [some (.inr (.inr 86)), some (.inl x1), some (.inl x2)], [.inl x2, .inl x1, .inr (.inr 86)], (am_sh, am_mm U))) 3 (fun _ => rfl) ?_
    obtain ⟨r1, U1, ha2c, ha2a⟩ := ha2
    refine ev_cal (σc := (d, 111, 0, [some (.inr (.inr 86)), some (.inl x1), some (.inl x2), none, none], [], (am_sh, am_mm U))) (fun _ => rfl) ha2c ?_
    show Ev kz ((d + 1), 217, 21, [some (.inr (.inr 86)), some (.inl x1), some (.inl x2)], [.inl r1], (am_sh, am_mm U1)) R
    refine ev_seg (σ1 := ((d + 1), 217, 23, [some (.inr (.inr 86)), some (.inl x1), some (.inl x2)], [.inl x2, .inr (.inr 86), .inl r1], (am_sh, am_mm U1))) 2 (fun _ => rfl) ?_
    obtain ⟨r2, U2, ha2ac, ha2aa⟩ := ha2a
    refine ev_cal (σc := (d, 110, 0, [some (.inr (.inr 86)), some (.inl x2)], [], (am_sh, am_mm U1))) (fun _ => rfl) ha2ac ?_
    show Ev kz ((d + 1), 217, 26, [some (.inr (.inr 86)), some (.inl x1), some (.inl x2)], [.inl r2, .inl r1], (am_sh, am_mm U2)) R
    refine ev_br (P := r1 ≤ r2) (σ1 := ((d + 1), 217, 31, [some (.inr (.inr 86)), some (.inl x1), some (.inl x2)], [], (am_sh, am_mm U2))) (σ2 := ((d + 1), 217, 29, [some (.inr (.inr 86)), some (.inl x1), some (.inl x2)], [], (am_sh, am_mm U2))) 1 (fun _ => rfl) (fun hc => ?_) (fun hc => ?_)
    · have ha2aa1 := ha2aa.1 hc
      refine ev_seg (σ1 := ((d + 1), 217, 2, [some (.inr (.inr 86)), some (.inl x1), some (.inl (w32 (x2 + 1)))], [], (am_sh, am_mm U2))) 2 (fun _ => rfl) ?_
      exact ha2aa1
    · have ha2aa2 := ha2aa.2 hc
      subst ha2aa2
      exact ev_end 2 (fun _ => rfl)
theorem st218_86_0 (kz : am_Z) (d : Nat) (U : Nat → Nat → Int) (R : Option am_V × am_M) (h : Ev kz ((d + 1), 218, 2, [some (.inr (.inr 86)), some (.inl 0), none], [], (am_sh, am_mm U)) R) : Ev kz ((d + 1), 218, 0, [some (.inr (.inr 86)), none, none], [], (am_sh, am_mm U)) R := by
  refine ev_seg (σ1 := ((d + 1), 218, 2, [some (.inr (.inr 86)), some (.inl 0), none], [], (am_sh, am_mm U))) 2 (fun _ => rfl) ?_
  exact h
theorem st218_86_2 (kz : am_Z) (d : Nat) (x1 : Int) (U : Nat → Nat → Int) (R : Option am_V × am_M) (h : (0 ≤ (U 86 13) ∧ (U 86 13) < 2) ∧ ((((U 100 (U 86 13).toNat) ≤ x1 : Prop)) → R = (some (.inl 1), (am_sh, am_mm U))) ∧ (¬ ((U 100 (U 86 13).toNat) ≤ x1) → Ev kz ((d + 1), 218, 17, [some (.inr (.inr 86)), some (.inl x1), some (.inl 0)], [], (am_sh, am_mm U)) R)) : Ev kz ((d + 1), 218, 2, [some (.inr (.inr 86)), some (.inl x1), none], [], (am_sh, am_mm U)) R := by
  refine ev_seg (σ1 := ((d + 1), 218, 11, [some (.inr (.inr 86)), some (.inl x1), none], [.inl (U 86 13), .inr (.inr 100), .inl x1], (am_sh, am_mm U))) 5 (fun _ => rfl) ?_
  refine eu_iald 100 (n := 2) rfl (by decide) rfl (fun _ => rfl) h.1 ?_
  have ha := h.2
  refine ev_br (P := (U 100 (U 86 13).toNat) ≤ x1) (σ1 := ((d + 1), 218, 50, [some (.inr (.inr 86)), some (.inl x1), none], [], (am_sh, am_mm U))) (σ2 := ((d + 1), 218, 15, [some (.inr (.inr 86)), some (.inl x1), none], [], (am_sh, am_mm U))) 1 (fun _ => rfl) (fun hc => ?_) (fun hc => ?_)
  · have ha1 := ha.1 hc
    subst ha1
    exact ev_end 2 (fun _ => rfl)
  · have ha2 := ha.2 hc
    refine ev_seg (σ1 := ((d + 1), 218, 17, [some (.inr (.inr 86)), some (.inl x1), some (.inl 0)], [], (am_sh, am_mm U))) 2 (fun _ => rfl) ?_
    exact ha2
theorem st218_86_17 (kz : am_Z) (d : Nat) (x1 x2 : Int) (U : Nat → Nat → Int) (R : Option am_V × am_M) (h : ((((U 122 1) ≤ x2 : Prop)) → Ev kz ((d + 1), 218, 2, [some (.inr (.inr 86)), some (.inl (w32 (x1 + 1))), some (.inl x2)], [], (am_sh, am_mm U)) R) ∧ (¬ ((U 122 1) ≤ x2) → ∃ (r1 : Int) (U1 : Nat → Nat → Int), Ev kz (d, 275, 0, [some (.inr (.inr 86)), some (.inl x1), some (.inl x2), none, none, none, none, none], [], (am_sh, am_mm U)) (some (.inl r1), (am_sh, am_mm U1)) ∧ (((r1 = 0 : Prop)) → Ev kz ((d + 1), 218, 17, [some (.inr (.inr 86)), some (.inl x1), some (.inl (w32 (x2 + 1)))], [], (am_sh, am_mm U1)) R) ∧ (¬ (r1 = 0) → R = (some (.inl 0), (am_sh, am_mm U1))))) : Ev kz ((d + 1), 218, 17, [some (.inr (.inr 86)), some (.inl x1), some (.inl x2)], [], (am_sh, am_mm U)) R := by
  refine ev_seg (σ1 := ((d + 1), 218, 23, [some (.inr (.inr 86)), some (.inl x1), some (.inl x2)], [.inl 1, .inr (.inr 122), .inl x2], (am_sh, am_mm U))) 4 (fun _ => rfl) ?_
  refine eu_iald 122 (n := 22) rfl (by decide) rfl (fun _ => rfl) (by decide) ?_
  show Ev kz ((d + 1), 218, 24, [some (.inr (.inr 86)), some (.inl x1), some (.inl x2)], [.inl (U 122 1), .inl x2], (am_sh, am_mm U)) R
  refine ev_br (P := (U 122 1) ≤ x2) (σ1 := ((d + 1), 218, 44, [some (.inr (.inr 86)), some (.inl x1), some (.inl x2)], [], (am_sh, am_mm U))) (σ2 := ((d + 1), 218, 27, [some (.inr (.inr 86)), some (.inl x1), some (.inl x2)], [], (am_sh, am_mm U))) 1 (fun _ => rfl) (fun hc => ?_) (fun hc => ?_)
  · have h1 := h.1 hc
    refine ev_seg (σ1 := ((d + 1), 218, 2, [some (.inr (.inr 86)), some (.inl (w32 (x1 + 1))), some (.inl x2)], [], (am_sh, am_mm U))) 2 (fun _ => rfl) ?_
    exact h1
  · have h2 := h.2 hc
    refine ev_seg (σ1 := ((d + 1), 218, 30, [some (.inr (.inr 86)), some (.inl x1), some (.inl x2)], [.inl x2, .inl x1, .inr (.inr 86)], (am_sh, am_mm U))) 3 (fun _ => rfl) ?_
    obtain ⟨r1, U1, h2c, h2a⟩ := h2
    refine ev_cal (σc := (d, 275, 0, [some (.inr (.inr 86)), some (.inl x1), some (.inl x2), none, none, none, none, none], [], (am_sh, am_mm U))) (fun _ => rfl) h2c ?_
    show Ev kz ((d + 1), 218, 33, [some (.inr (.inr 86)), some (.inl x1), some (.inl x2)], [.inl r1], (am_sh, am_mm U1)) R
    refine ev_br (P := r1 = 0) (σ1 := ((d + 1), 218, 38, [some (.inr (.inr 86)), some (.inl x1), some (.inl x2)], [], (am_sh, am_mm U1))) (σ2 := ((d + 1), 218, 36, [some (.inr (.inr 86)), some (.inl x1), some (.inl x2)], [], (am_sh, am_mm U1))) 1 (fun _ => rfl) (fun hc => ?_) (fun hc => ?_)
    · have h2a1 := h2a.1 hc
      refine ev_seg (σ1 := ((d + 1), 218, 17, [some (.inr (.inr 86)), some (.inl x1), some (.inl (w32 (x2 + 1)))], [], (am_sh, am_mm U1))) 2 (fun _ => rfl) ?_
      exact h2a1
    · have h2a2 := h2a.2 hc
      subst h2a2
      exact ev_end 2 (fun _ => rfl)
theorem st216_86_0 (kz : am_Z) (d : Nat) (U : Nat → Nat → Int) (R : Option am_V × am_M) (h : Ev kz ((d + 1), 216, 2, [some (.inr (.inr 86)), some (.inl 0), none], [], (am_sh, am_mm U)) R) : Ev kz ((d + 1), 216, 0, [some (.inr (.inr 86)), none, none], [], (am_sh, am_mm U)) R := by
  refine ev_seg (σ1 := ((d + 1), 216, 2, [some (.inr (.inr 86)), some (.inl 0), none], [], (am_sh, am_mm U))) 2 (fun _ => rfl) ?_
  exact h
theorem st216_86_2 (kz : am_Z) (d : Nat) (x1 : Int) (U : Nat → Nat → Int) (R : Option am_V × am_M) (h : (((182784 ≤ x1 : Prop)) → Ev kz ((d + 1), 216, 23, [some (.inr (.inr 86)), some (.inl 0), none], [], (am_sh, am_mm U)) R) ∧ (¬ (182784 ≤ x1) → (0 ≤ x1 ∧ x1 < 182784) ∧ Ev kz ((d + 1), 216, 2, [some (.inr (.inr 86)), some (.inl (w32 (x1 + 1))), none], [], (am_sh, am_mm (am_upd U 128 x1.toNat 0))) R)) : Ev kz ((d + 1), 216, 2, [some (.inr (.inr 86)), some (.inl x1), none], [], (am_sh, am_mm U)) R := by
  refine ev_br (P := 182784 ≤ x1) (σ1 := ((d + 1), 216, 21, [some (.inr (.inr 86)), some (.inl x1), none], [], (am_sh, am_mm U))) (σ2 := ((d + 1), 216, 8, [some (.inr (.inr 86)), some (.inl x1), none], [], (am_sh, am_mm U))) 3 (fun _ => rfl) (fun hc => ?_) (fun hc => ?_)
  · have h1 := h.1 hc
    refine ev_seg (σ1 := ((d + 1), 216, 23, [some (.inr (.inr 86)), some (.inl 0), none], [], (am_sh, am_mm U))) 2 (fun _ => rfl) ?_
    exact h1
  · have h2 := h.2 hc
    refine ev_seg (σ1 := ((d + 1), 216, 14, [some (.inr (.inr 86)), some (.inl x1), none], [.inl 0, .inl x1, .inr (.inr 128)], (am_sh, am_mm U))) 4 (fun _ => rfl) ?_
    refine eu_bast 128 (by decide) (n := 182784) rfl (by decide) rfl (fun _ => rfl) h2.1 ?_
    have h2a := h2.2
    refine ev_seg (σ1 := ((d + 1), 216, 2, [some (.inr (.inr 86)), some (.inl (w32 (x1 + 1))), none], [], (am_sh, am_mm (am_upd U 128 x1.toNat 0)))) 2 (fun _ => rfl) ?_
    exact h2a
theorem st216_86_23 (kz : am_Z) (d : Nat) (x1 : Int) (U : Nat → Nat → Int) (R : Option am_V × am_M) (h : (0 ≤ (U 86 13) ∧ (U 86 13) < 2) ∧ ((((U 90 (U 86 13).toNat) ≤ x1 : Prop)) → R = (none, (am_sh, am_mm U))) ∧ (¬ ((U 90 (U 86 13).toNat) ≤ x1) → Ev kz ((d + 1), 216, 38, [some (.inr (.inr 86)), some (.inl x1), some (.inl 0)], [], (am_sh, am_mm U)) R)) : Ev kz ((d + 1), 216, 23, [some (.inr (.inr 86)), some (.inl x1), none], [], (am_sh, am_mm U)) R := by
  refine ev_seg (σ1 := ((d + 1), 216, 32, [some (.inr (.inr 86)), some (.inl x1), none], [.inl (U 86 13), .inr (.inr 90), .inl x1], (am_sh, am_mm U))) 5 (fun _ => rfl) ?_
  refine eu_iald 90 (n := 2) rfl (by decide) rfl (fun _ => rfl) h.1 ?_
  have ha := h.2
  refine ev_br (P := (U 90 (U 86 13).toNat) ≤ x1) (σ1 := ((d + 1), 216, 84, [some (.inr (.inr 86)), some (.inl x1), none], [], (am_sh, am_mm U))) (σ2 := ((d + 1), 216, 36, [some (.inr (.inr 86)), some (.inl x1), none], [], (am_sh, am_mm U))) 1 (fun _ => rfl) (fun hc => ?_) (fun hc => ?_)
  · have ha1 := ha.1 hc
    subst ha1
    exact ev_end 1 (fun _ => rfl)
  · have ha2 := ha.2 hc
    refine ev_seg (σ1 := ((d + 1), 216, 38, [some (.inr (.inr 86)), some (.inl x1), some (.inl 0)], [], (am_sh, am_mm U))) 2 (fun _ => rfl) ?_
    exact ha2
theorem st216_86_38 (kz : am_Z) (d : Nat) (x1 x2 : Int) (U : Nat → Nat → Int) (R : Option am_V × am_M) (h : (0 ≤ (U 86 13) ∧ (U 86 13) < 2) ∧ ((((U 90 (U 86 13).toNat) ≤ x2 : Prop)) → Ev kz ((d + 1), 216, 23, [some (.inr (.inr 86)), some (.inl (w32 (x1 + 1))), some (.inl x2)], [], (am_sh, am_mm U)) R) ∧ (¬ ((U 90 (U 86 13).toNat) ≤ x2) → ∃ (r1 : Int) (U1 : Nat → Nat → Int), Ev kz (d, 113, 0, [some (.inr (.inr 86)), some (.inl (U 86 13)), some (.inl x1), some (.inl x2), none, none], [], (am_sh, am_mm U)) (some (.inl r1), (am_sh, am_mm U1)) ∧ (r1 = 0 ∨ r1 = 1) ∧ (0 ≤ (w32 ((w32 (12 * x1)) + x2)) ∧ (w32 ((w32 (12 * x1)) + x2)) < 144) ∧ Ev kz ((d + 1), 216, 38, [some (.inr (.inr 86)), some (.inl x1), some (.inl (w32 (x2 + 1)))], [], (am_sh, am_mm (am_upd U1 129 (w32 ((w32 (12 * x1)) + x2)).toNat r1))) R)) : Ev kz ((d + 1), 216, 38, [some (.inr (.inr 86)), some (.inl x1), some (.inl x2)], [], (am_sh, am_mm U)) R := by
  refine ev_seg (σ1 := ((d + 1), 216, 47, [some (.inr (.inr 86)), some (.inl x1), some (.inl x2)], [.inl (U 86 13), .inr (.inr 90), .inl x2], (am_sh, am_mm U))) 5 (fun _ => rfl) ?_
  refine eu_iald 90 (n := 2) rfl (by decide) rfl (fun _ => rfl) h.1 ?_
  have ha := h.2
  refine ev_br (P := (U 90 (U 86 13).toNat) ≤ x2) (σ1 := ((d + 1), 216, 78, [some (.inr (.inr 86)), some (.inl x1), some (.inl x2)], [], (am_sh, am_mm U))) (σ2 := ((d + 1), 216, 51, [some (.inr (.inr 86)), some (.inl x1), some (.inl x2)], [], (am_sh, am_mm U))) 1 (fun _ => rfl) (fun hc => ?_) (fun hc => ?_)
  · have ha1 := ha.1 hc
    refine ev_seg (σ1 := ((d + 1), 216, 23, [some (.inr (.inr 86)), some (.inl (w32 (x1 + 1))), some (.inl x2)], [], (am_sh, am_mm U))) 2 (fun _ => rfl) ?_
    exact ha1
  · have ha2 := ha.2 hc
    refine ev_seg (σ1 := ((d + 1), 216, 68, [some (.inr (.inr 86)), some (.inl x1), some (.inl x2)], [.inl x2, .inl x1, .inl (U 86 13), .inr (.inr 86), .inl (w32 ((w32 (12 * x1)) + x2)), .inr (.inr 129)], (am_sh, am_mm U))) 12 (fun _ => rfl) ?_
    obtain ⟨r1, U1, ha2c, ha2a⟩ := ha2
    refine ev_cal (σc := (d, 113, 0, [some (.inr (.inr 86)), some (.inl (U 86 13)), some (.inl x1), some (.inl x2), none, none], [], (am_sh, am_mm U))) (fun _ => rfl) ha2c ?_
    show Ev kz ((d + 1), 216, 71, [some (.inr (.inr 86)), some (.inl x1), some (.inl x2)], [.inl r1, .inl (w32 ((w32 (12 * x1)) + x2)), .inr (.inr 129)], (am_sh, am_mm U1)) R
    refine eu_zast 129 ha2a.1 (n := 144) rfl (by decide) rfl (fun _ => rfl) ha2a.2.1 ?_
    have ha2aa := ha2a.2.2
    refine ev_seg (σ1 := ((d + 1), 216, 38, [some (.inr (.inr 86)), some (.inl x1), some (.inl (w32 (x2 + 1)))], [], (am_sh, am_mm (am_upd U1 129 (w32 ((w32 (12 * x1)) + x2)).toNat r1)))) 2 (fun _ => rfl) ?_
    exact ha2aa
theorem st224_86_0 (kz : am_Z) (d : Nat) (x1 x2 : Int) (U : Nat → Nat → Int) (R : Option am_V × am_M) (h : Ev kz ((d + 1), 224, 14, [some (.inr (.inr 86)), some (.inl x1), some (.inl x2), some (.inl 0), some (.inl (w32 ((w32 (1600 * (U 86 13))) + x1))), none], [], (am_sh, am_mm U)) R) : Ev kz ((d + 1), 224, 0, [some (.inr (.inr 86)), some (.inl x1), some (.inl x2), none, none, none], [], (am_sh, am_mm U)) R := by
  refine ev_seg (σ1 := ((d + 1), 224, 14, [some (.inr (.inr 86)), some (.inl x1), some (.inl x2), some (.inl 0), some (.inl (w32 ((w32 (1600 * (U 86 13))) + x1))), none], [], (am_sh, am_mm U))) 9 (fun _ => rfl) ?_
  exact h
theorem st224_86_14 (kz : am_Z) (d : Nat) (x1 x2 x3 x4 : Int) (U : Nat → Nat → Int) (R : Option am_V × am_M) (h : ((((w32 ((w32 (1600 * (U 86 13))) + x2)) ≤ x4 : Prop)) → (((¬ (am_lcmp (U 125 0) 1) = 0 : Prop)) → R = (some (.inl 0), (am_sh, am_mm U))) ∧ (¬ (¬ (am_lcmp (U 125 0) 1) = 0) → R = (some (.inl 1), (am_sh, am_mm U)))) ∧ (¬ ((w32 ((w32 (1600 * (U 86 13))) + x2)) ≤ x4) → (0 ≤ x4 ∧ x4 < 3200) ∧ (((9 < (U 111 x4.toNat) : Prop)) → (((¬ (U 111 x4.toNat) = 22 : Prop)) → (((¬ (U 111 x4.toNat) = 24 : Prop)) → (((¬ (U 111 x4.toNat) = 25 : Prop)) → (0 ≤ (w32 ((w32 (x3 + (-1))) - 1)) ∧ (w32 ((w32 (x3 + (-1))) - 1)) < 500) ∧ (0 ≤ (w32 (x3 + (-1))) ∧ (w32 (x3 + (-1))) < 500) ∧ ∃ (r1 : Int) (U1 : Nat → Nat → Int), Ev kz (d, 279, 0, [some (.inl (U 111 x4.toNat)), some (.inr (.inl (U 125 (w32 ((w32 (x3 + (-1))) - 1)).toNat))), none, some (.inr (.inl (U 125 (w32 (x3 + (-1))).toNat))), none], [], (am_sh, am_mm U)) (some (.inr (.inl r1)), (am_sh, am_mm U1)) ∧ (0 ≤ (w32 ((w32 (x3 + (-1))) - 1)) ∧ (w32 ((w32 (x3 + (-1))) - 1)) < 500) ∧ Ev kz ((d + 1), 224, 14, [some (.inr (.inr 86)), some (.inl x1), some (.inl x2), some (.inl (w32 (x3 + (-1)))), some (.inl (w32 (x4 + 1))), some (.inl (U 111 x4.toNat))], [], (am_sh, am_mm (am_upd U1 125 (w32 ((w32 (x3 + (-1))) - 1)).toNat r1))) R) ∧ (¬ (¬ (U 111 x4.toNat) = 25) → (0 ≤ (w32 (x3 - 1)) ∧ (w32 (x3 - 1)) < 500) ∧ ∃ (r2 : Int) (U2 : Nat → Nat → Int), Ev kz (d, 122, 0, [some (.inr (.inl (U 125 (w32 (x3 - 1)).toNat))), none], [], (am_sh, am_mm U)) (some (.inl r2), (am_sh, am_mm U2)) ∧ (((r2 = 0 : Prop)) → (0 ≤ (w32 (x3 - 1)) ∧ (w32 (x3 - 1)) < 500) ∧ Ev kz ((d + 1), 224, 14, [some (.inr (.inr 86)), some (.inl x1), some (.inl x2), some (.inl x3), some (.inl (w32 (x4 + 1))), some (.inl (U 111 x4.toNat))], [], (am_sh, am_mm (am_upd U2 125 (w32 (x3 - 1)).toNat 0))) R) ∧ (¬ (r2 = 0) → (0 ≤ (w32 (x3 - 1)) ∧ (w32 (x3 - 1)) < 500) ∧ Ev kz ((d + 1), 224, 14, [some (.inr (.inr 86)), some (.inl x1), some (.inl x2), some (.inl x3), some (.inl (w32 (x4 + 1))), some (.inl (U 111 x4.toNat))], [], (am_sh, am_mm (am_upd U2 125 (w32 (x3 - 1)).toNat 1))) R))) ∧ (¬ (¬ (U 111 x4.toNat) = 24) → (0 ≤ (w32 (x3 - 1)) ∧ (w32 (x3 - 1)) < 500) ∧ ∃ (r3 : Int) (U3 : Nat → Nat → Int), Ev kz (d, 278, 0, [some (.inr (.inl (U 125 (w32 (x3 - 1)).toNat))), none, none, none, none, none, none, none], [], (am_sh, am_mm U)) (some (.inl r3), (am_sh, am_mm U3)) ∧ (((r3 = 0 : Prop)) → (0 ≤ (w32 (x3 - 1)) ∧ (w32 (x3 - 1)) < 500) ∧ Ev kz ((d + 1), 224, 14, [some (.inr (.inr 86)), some (.inl x1), some (.inl x2), some (.inl x3), some (.inl (w32 (x4 + 1))), some (.inl (U 111 x4.toNat))], [], (am_sh, am_mm (am_upd U3 125 (w32 (x3 - 1)).toNat 0))) R) ∧ (¬ (r3 = 0) → (0 ≤ (w32 (x3 - 1)) ∧ (w32 (x3 - 1)) < 500) ∧ Ev kz ((d + 1), 224, 14, [some (.inr (.inr 86)), some (.inl x1), some (.inl x2), some (.inl x3), some (.inl (w32 (x4 + 1))), some (.inl (U 111 x4.toNat))], [], (am_sh, am_mm (am_upd U3 125 (w32 (x3 - 1)).toNat 1))) R))) ∧ (¬ (¬ (U 111 x4.toNat) = 22) → (0 ≤ (w32 (x3 - 1)) ∧ (w32 (x3 - 1)) < 500) ∧ (0 ≤ (w32 (x3 - 1)) ∧ (w32 (x3 - 1)) < 500) ∧ Ev kz ((d + 1), 224, 14, [some (.inr (.inr 86)), some (.inl x1), some (.inl x2), some (.inl x3), some (.inl (w32 (x4 + 1))), some (.inl (U 111 x4.toNat))], [], (am_sh, am_mm (am_upd U 125 (w32 (x3 - 1)).toNat (w64 (1 - (U 125 (w32 (x3 - 1)).toNat)))))) R)) ∧ (¬ (9 < (U 111 x4.toNat)) → (0 ≤ x4 ∧ x4 < 3200) ∧ ∃ (r4 : Int) (U4 : Nat → Nat → Int), Ev kz (d, 277, 0, [some (.inr (.inr 86)), some (.inl (U 111 x4.toNat)), some (.inl (U 112 x4.toNat)), none], [], (am_sh, am_mm U)) (some (.inr (.inl r4)), (am_sh, am_mm U4)) ∧ (0 ≤ x3 ∧ x3 < 500) ∧ Ev kz ((d + 1), 224, 14, [some (.inr (.inr 86)), some (.inl x1), some (.inl x2), some (.inl (w32 (x3 + 1))), some (.inl (w32 (x4 + 1))), some (.inl (U 111 x4.toNat))], [], (am_sh, am_mm (am_upd U4 125 x3.toNat r4))) R))) : Ev kz ((d + 1), 224, 14, [some (.inr (.inr 86)), some (.inl x1), some (.inl x2), some (.inl x3), some (.inl x4), none], [], (am_sh, am_mm U)) R := by
  refine ev_br (P := (w32 ((w32 (1600 * (U 86 13))) + x2)) ≤ x4) (σ1 := ((d + 1), 224, 208, [some (.inr (.inr 86)), some (.inl x1), some (.inl x2), some (.inl x3), some (.inl x4), none], [], (am_sh, am_mm U))) (σ2 := ((d + 1), 224, 29, [some (.inr (.inr 86)), some (.inl x1), some (.inl x2), some (.inl x3), some (.inl x4), none], [], (am_sh, am_mm U))) 8 (fun _ => rfl) (fun hc => ?_) (fun hc => ?_)
  · have h1 := h.1 hc
    refine ev_seg (σ1 := ((d + 1), 224, 213, [some (.inr (.inr 86)), some (.inl x1), some (.inl x2), some (.inl x3), some (.inl x4), none], [.inl 0, .inr (.inr 125)], (am_sh, am_mm U))) 3 (fun _ => rfl) ?_
    refine eu_lald 125 (n := 500) rfl (by decide) rfl (fun _ => rfl) (by decide) ?_
    show Ev kz ((d + 1), 224, 214, [some (.inr (.inr 86)), some (.inl x1), some (.inl x2), some (.inl x3), some (.inl x4), none], [.inr (.inl (U 125 0))], (am_sh, am_mm U)) R
    refine ev_br (P := ¬ (am_lcmp (U 125 0) 1) = 0) (σ1 := ((d + 1), 224, 223, [some (.inr (.inr 86)), some (.inl x1), some (.inl x2), some (.inl x3), some (.inl x4), none], [], (am_sh, am_mm U))) (σ2 := ((d + 1), 224, 219, [some (.inr (.inr 86)), some (.inl x1), some (.inl x2), some (.inl x3), some (.inl x4), none], [], (am_sh, am_mm U))) 3 (fun _ => rfl) (fun hc => ?_) (fun hc => ?_)
    · have h11 := h1.1 hc
      subst h11
      exact ev_end 2 (fun _ => rfl)
    · have h12 := h1.2 hc
      subst h12
      exact ev_end 3 (fun _ => rfl)
  · have h2 := h.2 hc
    refine ev_seg (σ1 := ((d + 1), 224, 35, [some (.inr (.inr 86)), some (.inl x1), some (.inl x2), some (.inl x3), some (.inl x4), none], [.inl x4, .inr (.inr 111)], (am_sh, am_mm U))) 3 (fun _ => rfl) ?_
    refine eu_iald 111 (n := 3200) rfl (by decide) rfl (fun _ => rfl) h2.1 ?_
    have h2a := h2.2
    refine ev_br (P := 9 < (U 111 x4.toNat)) (σ1 := ((d + 1), 224, 70, [some (.inr (.inr 86)), some (.inl x1), some (.inl x2), some (.inl x3), some (.inl x4), some (.inl (U 111 x4.toNat))], [], (am_sh, am_mm U))) (σ2 := ((d + 1), 224, 45, [some (.inr (.inr 86)), some (.inl x1), some (.inl x2), some (.inl x3), some (.inl x4), some (.inl (U 111 x4.toNat))], [], (am_sh, am_mm U))) 4 (fun _ => rfl) (fun hc => ?_) (fun hc => ?_)
    · have h2a1 := h2a.1 hc
      refine ev_br (P := ¬ (U 111 x4.toNat) = 22) (σ1 := ((d + 1), 224, 98, [some (.inr (.inr 86)), some (.inl x1), some (.inl x2), some (.inl x3), some (.inl x4), some (.inl (U 111 x4.toNat))], [], (am_sh, am_mm U))) (σ2 := ((d + 1), 224, 77, [some (.inr (.inr 86)), some (.inl x1), some (.inl x2), some (.inl x3), some (.inl x4), some (.inl (U 111 x4.toNat))], [], (am_sh, am_mm U))) 3 (fun _ => rfl) (fun hc => ?_) (fun hc => ?_)
      · have h2a11 := h2a1.1 hc
        refine ev_br (P := ¬ (U 111 x4.toNat) = 24) (σ1 := ((d + 1), 224, 135, [some (.inr (.inr 86)), some (.inl x1), some (.inl x2), some (.inl x3), some (.inl x4), some (.inl (U 111 x4.toNat))], [], (am_sh, am_mm U))) (σ2 := ((d + 1), 224, 105, [some (.inr (.inr 86)), some (.inl x1), some (.inl x2), some (.inl x3), some (.inl x4), some (.inl (U 111 x4.toNat))], [], (am_sh, am_mm U))) 3 (fun _ => rfl) (fun hc => ?_) (fun hc => ?_)
        · have h2a111 := h2a11.1 hc
          refine ev_br (P := ¬ (U 111 x4.toNat) = 25) (σ1 := ((d + 1), 224, 172, [some (.inr (.inr 86)), some (.inl x1), some (.inl x2), some (.inl x3), some (.inl x4), some (.inl (U 111 x4.toNat))], [], (am_sh, am_mm U))) (σ2 := ((d + 1), 224, 142, [some (.inr (.inr 86)), some (.inl x1), some (.inl x2), some (.inl x3), some (.inl x4), some (.inl (U 111 x4.toNat))], [], (am_sh, am_mm U))) 3 (fun _ => rfl) (fun hc => ?_) (fun hc => ?_)
          · have h2a1111 := h2a111.1 hc
            refine ev_seg (σ1 := ((d + 1), 224, 191, [some (.inr (.inr 86)), some (.inl x1), some (.inl x2), some (.inl (w32 (x3 + (-1)))), some (.inl x4), some (.inl (U 111 x4.toNat))], [.inl (w32 ((w32 (x3 + (-1))) - 1)), .inr (.inr 125), .inl (U 111 x4.toNat), .inl (w32 ((w32 (x3 + (-1))) - 1)), .inr (.inr 125)], (am_sh, am_mm U))) 12 (fun _ => rfl) ?_
            refine eu_lald 125 (n := 500) rfl (by decide) rfl (fun _ => rfl) h2a1111.1 ?_
            have h2a1111a := h2a1111.2
            refine ev_seg (σ1 := ((d + 1), 224, 197, [some (.inr (.inr 86)), some (.inl x1), some (.inl x2), some (.inl (w32 (x3 + (-1)))), some (.inl x4), some (.inl (U 111 x4.toNat))], [.inl (w32 (x3 + (-1))), .inr (.inr 125), .inr (.inl (U 125 (w32 ((w32 (x3 + (-1))) - 1)).toNat)), .inl (U 111 x4.toNat), .inl (w32 ((w32 (x3 + (-1))) - 1)), .inr (.inr 125)], (am_sh, am_mm U))) 3 (fun _ => rfl) ?_
            refine eu_lald 125 (n := 500) rfl (by decide) rfl (fun _ => rfl) h2a1111a.1 ?_
            have h2a1111aa := h2a1111a.2
            obtain ⟨r1, U1, h2a1111aac, h2a1111aaa⟩ := h2a1111aa
            refine ev_cal (σc := (d, 279, 0, [some (.inl (U 111 x4.toNat)), some (.inr (.inl (U 125 (w32 ((w32 (x3 + (-1))) - 1)).toNat))), none, some (.inr (.inl (U 125 (w32 (x3 + (-1))).toNat))), none], [], (am_sh, am_mm U))) (fun _ => rfl) h2a1111aac ?_
            show Ev kz ((d + 1), 224, 201, [some (.inr (.inr 86)), some (.inl x1), some (.inl x2), some (.inl (w32 (x3 + (-1)))), some (.inl x4), some (.inl (U 111 x4.toNat))], [.inr (.inl r1), .inl (w32 ((w32 (x3 + (-1))) - 1)), .inr (.inr 125)], (am_sh, am_mm U1)) R
            refine eu_last 125 (n := 500) rfl (by decide) rfl (fun _ => rfl) h2a1111aaa.1 ?_
            have h2a1111aaaa := h2a1111aaa.2
            refine ev_seg (σ1 := ((d + 1), 224, 14, [some (.inr (.inr 86)), some (.inl x1), some (.inl x2), some (.inl (w32 (x3 + (-1)))), some (.inl (w32 (x4 + 1))), some (.inl (U 111 x4.toNat))], [], (am_sh, am_mm (am_upd U1 125 (w32 ((w32 (x3 + (-1))) - 1)).toNat r1)))) 2 (fun _ => rfl) ?_
            exact h2a1111aaaa
          · have h2a1112 := h2a111.2 hc
            refine ev_seg (σ1 := ((d + 1), 224, 156, [some (.inr (.inr 86)), some (.inl x1), some (.inl x2), some (.inl x3), some (.inl x4), some (.inl (U 111 x4.toNat))], [.inl (w32 (x3 - 1)), .inr (.inr 125), .inl (w32 (x3 - 1)), .inr (.inr 125)], (am_sh, am_mm U))) 10 (fun _ => rfl) ?_
            refine eu_lald 125 (n := 500) rfl (by decide) rfl (fun _ => rfl) h2a1112.1 ?_
            have h2a1112a := h2a1112.2
            obtain ⟨r2, U2, h2a1112ac, h2a1112aa⟩ := h2a1112a
            refine ev_cal (σc := (d, 122, 0, [some (.inr (.inl (U 125 (w32 (x3 - 1)).toNat))), none], [], (am_sh, am_mm U))) (fun _ => rfl) h2a1112ac ?_
            show Ev kz ((d + 1), 224, 160, [some (.inr (.inr 86)), some (.inl x1), some (.inl x2), some (.inl x3), some (.inl x4), some (.inl (U 111 x4.toNat))], [.inl r2, .inl (w32 (x3 - 1)), .inr (.inr 125)], (am_sh, am_mm U2)) R
            refine ev_br (P := r2 = 0) (σ1 := ((d + 1), 224, 167, [some (.inr (.inr 86)), some (.inl x1), some (.inl x2), some (.inl x3), some (.inl x4), some (.inl (U 111 x4.toNat))], [.inl (w32 (x3 - 1)), .inr (.inr 125)], (am_sh, am_mm U2))) (σ2 := ((d + 1), 224, 163, [some (.inr (.inr 86)), some (.inl x1), some (.inl x2), some (.inl x3), some (.inl x4), some (.inl (U 111 x4.toNat))], [.inl (w32 (x3 - 1)), .inr (.inr 125)], (am_sh, am_mm U2))) 1 (fun _ => rfl) (fun hc => ?_) (fun hc => ?_)
            · have h2a1112aa1 := h2a1112aa.1 hc
              refine ev_seg (σ1 := ((d + 1), 224, 168, [some (.inr (.inr 86)), some (.inl x1), some (.inl x2), some (.inl x3), some (.inl x4), some (.inl (U 111 x4.toNat))], [.inr (.inl 0), .inl (w32 (x3 - 1)), .inr (.inr 125)], (am_sh, am_mm U2))) 1 (fun _ => rfl) ?_
              refine eu_last 125 (n := 500) rfl (by decide) rfl (fun _ => rfl) h2a1112aa1.1 ?_
              have h2a1112aa1a := h2a1112aa1.2
              refine ev_seg (σ1 := ((d + 1), 224, 14, [some (.inr (.inr 86)), some (.inl x1), some (.inl x2), some (.inl x3), some (.inl (w32 (x4 + 1))), some (.inl (U 111 x4.toNat))], [], (am_sh, am_mm (am_upd U2 125 (w32 (x3 - 1)).toNat 0)))) 3 (fun _ => rfl) ?_
              exact h2a1112aa1a
            · have h2a1112aa2 := h2a1112aa.2 hc
              refine ev_seg (σ1 := ((d + 1), 224, 168, [some (.inr (.inr 86)), some (.inl x1), some (.inl x2), some (.inl x3), some (.inl x4), some (.inl (U 111 x4.toNat))], [.inr (.inl 1), .inl (w32 (x3 - 1)), .inr (.inr 125)], (am_sh, am_mm U2))) 2 (fun _ => rfl) ?_
              refine eu_last 125 (n := 500) rfl (by decide) rfl (fun _ => rfl) h2a1112aa2.1 ?_
              have h2a1112aa2a := h2a1112aa2.2
              refine ev_seg (σ1 := ((d + 1), 224, 14, [some (.inr (.inr 86)), some (.inl x1), some (.inl x2), some (.inl x3), some (.inl (w32 (x4 + 1))), some (.inl (U 111 x4.toNat))], [], (am_sh, am_mm (am_upd U2 125 (w32 (x3 - 1)).toNat 1)))) 3 (fun _ => rfl) ?_
              exact h2a1112aa2a
        · have h2a112 := h2a11.2 hc
          refine ev_seg (σ1 := ((d + 1), 224, 119, [some (.inr (.inr 86)), some (.inl x1), some (.inl x2), some (.inl x3), some (.inl x4), some (.inl (U 111 x4.toNat))], [.inl (w32 (x3 - 1)), .inr (.inr 125), .inl (w32 (x3 - 1)), .inr (.inr 125)], (am_sh, am_mm U))) 10 (fun _ => rfl) ?_
          refine eu_lald 125 (n := 500) rfl (by decide) rfl (fun _ => rfl) h2a112.1 ?_
          have h2a112a := h2a112.2
          obtain ⟨r3, U3, h2a112ac, h2a112aa⟩ := h2a112a
          refine ev_cal (σc := (d, 278, 0, [some (.inr (.inl (U 125 (w32 (x3 - 1)).toNat))), none, none, none, none, none, none, none], [], (am_sh, am_mm U))) (fun _ => rfl) h2a112ac ?_
          show Ev kz ((d + 1), 224, 123, [some (.inr (.inr 86)), some (.inl x1), some (.inl x2), some (.inl x3), some (.inl x4), some (.inl (U 111 x4.toNat))], [.inl r3, .inl (w32 (x3 - 1)), .inr (.inr 125)], (am_sh, am_mm U3)) R
          refine ev_br (P := r3 = 0) (σ1 := ((d + 1), 224, 130, [some (.inr (.inr 86)), some (.inl x1), some (.inl x2), some (.inl x3), some (.inl x4), some (.inl (U 111 x4.toNat))], [.inl (w32 (x3 - 1)), .inr (.inr 125)], (am_sh, am_mm U3))) (σ2 := ((d + 1), 224, 126, [some (.inr (.inr 86)), some (.inl x1), some (.inl x2), some (.inl x3), some (.inl x4), some (.inl (U 111 x4.toNat))], [.inl (w32 (x3 - 1)), .inr (.inr 125)], (am_sh, am_mm U3))) 1 (fun _ => rfl) (fun hc => ?_) (fun hc => ?_)
          · have h2a112aa1 := h2a112aa.1 hc
            refine ev_seg (σ1 := ((d + 1), 224, 131, [some (.inr (.inr 86)), some (.inl x1), some (.inl x2), some (.inl x3), some (.inl x4), some (.inl (U 111 x4.toNat))], [.inr (.inl 0), .inl (w32 (x3 - 1)), .inr (.inr 125)], (am_sh, am_mm U3))) 1 (fun _ => rfl) ?_
            refine eu_last 125 (n := 500) rfl (by decide) rfl (fun _ => rfl) h2a112aa1.1 ?_
            have h2a112aa1a := h2a112aa1.2
            refine ev_seg (σ1 := ((d + 1), 224, 14, [some (.inr (.inr 86)), some (.inl x1), some (.inl x2), some (.inl x3), some (.inl (w32 (x4 + 1))), some (.inl (U 111 x4.toNat))], [], (am_sh, am_mm (am_upd U3 125 (w32 (x3 - 1)).toNat 0)))) 3 (fun _ => rfl) ?_
            exact h2a112aa1a
          · have h2a112aa2 := h2a112aa.2 hc
            refine ev_seg (σ1 := ((d + 1), 224, 131, [some (.inr (.inr 86)), some (.inl x1), some (.inl x2), some (.inl x3), some (.inl x4), some (.inl (U 111 x4.toNat))], [.inr (.inl 1), .inl (w32 (x3 - 1)), .inr (.inr 125)], (am_sh, am_mm U3))) 2 (fun _ => rfl) ?_
            refine eu_last 125 (n := 500) rfl (by decide) rfl (fun _ => rfl) h2a112aa2.1 ?_
            have h2a112aa2a := h2a112aa2.2
            refine ev_seg (σ1 := ((d + 1), 224, 14, [some (.inr (.inr 86)), some (.inl x1), some (.inl x2), some (.inl x3), some (.inl (w32 (x4 + 1))), some (.inl (U 111 x4.toNat))], [], (am_sh, am_mm (am_upd U3 125 (w32 (x3 - 1)).toNat 1)))) 3 (fun _ => rfl) ?_
            exact h2a112aa2a
      · have h2a12 := h2a1.2 hc
        refine ev_seg (σ1 := ((d + 1), 224, 92, [some (.inr (.inr 86)), some (.inl x1), some (.inl x2), some (.inl x3), some (.inl x4), some (.inl (U 111 x4.toNat))], [.inl (w32 (x3 - 1)), .inr (.inr 125), .inr (.inl 1), .inl (w32 (x3 - 1)), .inr (.inr 125)], (am_sh, am_mm U))) 11 (fun _ => rfl) ?_
        refine eu_lald 125 (n := 500) rfl (by decide) rfl (fun _ => rfl) h2a12.1 ?_
        have h2a12a := h2a12.2
        refine ev_seg (σ1 := ((d + 1), 224, 94, [some (.inr (.inr 86)), some (.inl x1), some (.inl x2), some (.inl x3), some (.inl x4), some (.inl (U 111 x4.toNat))], [.inr (.inl (w64 (1 - (U 125 (w32 (x3 - 1)).toNat)))), .inl (w32 (x3 - 1)), .inr (.inr 125)], (am_sh, am_mm U))) 1 (fun _ => rfl) ?_
        refine eu_last 125 (n := 500) rfl (by decide) rfl (fun _ => rfl) h2a12a.1 ?_
        have h2a12aa := h2a12a.2
        refine ev_seg (σ1 := ((d + 1), 224, 14, [some (.inr (.inr 86)), some (.inl x1), some (.inl x2), some (.inl x3), some (.inl (w32 (x4 + 1))), some (.inl (U 111 x4.toNat))], [], (am_sh, am_mm (am_upd U 125 (w32 (x3 - 1)).toNat (w64 (1 - (U 125 (w32 (x3 - 1)).toNat))))))) 3 (fun _ => rfl) ?_
        exact h2a12aa
    · have h2a2 := h2a.2 hc
      refine ev_seg (σ1 := ((d + 1), 224, 59, [some (.inr (.inr 86)), some (.inl x1), some (.inl x2), some (.inl x3), some (.inl x4), some (.inl (U 111 x4.toNat))], [.inl x4, .inr (.inr 112), .inl (U 111 x4.toNat), .inr (.inr 86), .inl x3, .inr (.inr 125)], (am_sh, am_mm U))) 8 (fun _ => rfl) ?_
      refine eu_iald 112 (n := 3200) rfl (by decide) rfl (fun _ => rfl) h2a2.1 ?_
      have h2a2a := h2a2.2
      obtain ⟨r4, U4, h2a2ac, h2a2aa⟩ := h2a2a
      refine ev_cal (σc := (d, 277, 0, [some (.inr (.inr 86)), some (.inl (U 111 x4.toNat)), some (.inl (U 112 x4.toNat)), none], [], (am_sh, am_mm U))) (fun _ => rfl) h2a2ac ?_
      show Ev kz ((d + 1), 224, 63, [some (.inr (.inr 86)), some (.inl x1), some (.inl x2), some (.inl x3), some (.inl x4), some (.inl (U 111 x4.toNat))], [.inr (.inl r4), .inl x3, .inr (.inr 125)], (am_sh, am_mm U4)) R
      refine eu_last 125 (n := 500) rfl (by decide) rfl (fun _ => rfl) h2a2aa.1 ?_
      have h2a2aaa := h2a2aa.2
      refine ev_seg (σ1 := ((d + 1), 224, 14, [some (.inr (.inr 86)), some (.inl x1), some (.inl x2), some (.inl (w32 (x3 + 1))), some (.inl (w32 (x4 + 1))), some (.inl (U 111 x4.toNat))], [], (am_sh, am_mm (am_upd U4 125 x3.toNat r4)))) 4 (fun _ => rfl) ?_
      exact h2a2aaa
theorem st226_1_0 (kz : am_Z) (d : Nat) (U : Nat → Nat → Int) (R : Option am_V × am_M) (h : ∃ (r1 : Int) (U1 : Nat → Nat → Int), Ev kz (d, 228, 0, [some (.inr (.inr 1)), some (.inl (U 3 1))], [], (am_sh, am_mm U)) (some (.inl r1), (am_sh, am_mm U1)) ∧ ∃ (r2 : Int) (U2 : Nat → Nat → Int), Ev kz (d, 228, 0, [some (.inr (.inr 1)), some (.inl 100)], [], (am_sh, am_mm U1)) (some (.inl r2), (am_sh, am_mm U2)) ∧ (((r2 < (U2 3 5) : Prop)) → Ev kz ((d + 1), 226, 31, [some (.inr (.inr 1)), some (.inl r1), some (.inl 0)], [], (am_sh, am_mm U2)) R) ∧ (¬ (r2 < (U2 3 5)) → R = (none, (am_sh, am_mm U2)))) : Ev kz ((d + 1), 226, 0, [some (.inr (.inr 1)), none, none], [], (am_sh, am_mm U)) R := by
  refine ev_seg (σ1 := ((d + 1), 226, 8, [some (.inr (.inr 1)), none, none], [.inl (U 3 1), .inr (.inr 1)], (am_sh, am_mm U))) 4 (fun _ => rfl) ?_
  obtain ⟨r1, U1, hc, ha⟩ := h
  refine ev_cal (σc := (d, 228, 0, [some (.inr (.inr 1)), some (.inl (U 3 1))], [], (am_sh, am_mm U))) (fun _ => rfl) hc ?_
  show Ev kz ((d + 1), 226, 11, [some (.inr (.inr 1)), none, none], [.inl r1], (am_sh, am_mm U1)) R
  refine ev_seg (σ1 := ((d + 1), 226, 15, [some (.inr (.inr 1)), some (.inl r1), none], [.inl 100, .inr (.inr 1)], (am_sh, am_mm U1))) 3 (fun _ => rfl) ?_
  obtain ⟨r2, U2, hac, haa⟩ := ha
  refine ev_cal (σc := (d, 228, 0, [some (.inr (.inr 1)), some (.inl 100)], [], (am_sh, am_mm U1))) (fun _ => rfl) hac ?_
  show Ev kz ((d + 1), 226, 18, [some (.inr (.inr 1)), some (.inl r1), none], [.inl r2], (am_sh, am_mm U2)) R
  refine ev_br (P := r2 < (U2 3 5)) (σ1 := ((d + 1), 226, 29, [some (.inr (.inr 1)), some (.inl r1), none], [], (am_sh, am_mm U2))) (σ2 := ((d + 1), 226, 28, [some (.inr (.inr 1)), some (.inl r1), none], [], (am_sh, am_mm U2))) 4 (fun _ => rfl) (fun hc => ?_) (fun hc => ?_)
  · have haa1 := haa.1 hc
    refine ev_seg (σ1 := ((d + 1), 226, 31, [some (.inr (.inr 1)), some (.inl r1), some (.inl 0)], [], (am_sh, am_mm U2))) 2 (fun _ => rfl) ?_
    exact haa1
  · have haa2 := haa.2 hc
    subst haa2
    exact ev_end 1 (fun _ => rfl)
theorem st226_1_31 (kz : am_Z) (d : Nat) (x1 x2 : Int) (U : Nat → Nat → Int) (R : Option am_V × am_M) (h : ((((U 16 0) ≤ x2 : Prop)) → R = (none, (am_sh, am_mm U))) ∧ (¬ ((U 16 0) ≤ x2) → (0 ≤ x2 ∧ x2 < 16) ∧ (((¬ (U 18 x2.toNat) = x1 : Prop)) → Ev kz ((d + 1), 226, 31, [some (.inr (.inr 1)), some (.inl x1), some (.inl (w32 (x2 + 1)))], [], (am_sh, am_mm U)) R) ∧ (¬ (¬ (U 18 x2.toNat) = x1) → ∃ U1 : Nat → Nat → Int, Ev kz (d, 138, 0, [some (.inr (.inr 16)), some (.inl x2), some (.inl (-1)), none], [], (am_sh, am_mm U)) (none, (am_sh, am_mm U1)) ∧ Ev kz ((d + 1), 226, 31, [some (.inr (.inr 1)), some (.inl x1), some (.inl (w32 (x2 + 1)))], [], (am_sh, am_mm U1)) R))) : Ev kz ((d + 1), 226, 31, [some (.inr (.inr 1)), some (.inl x1), some (.inl x2)], [], (am_sh, am_mm U)) R := by
  refine ev_br (P := (U 16 0) ≤ x2) (σ1 := ((d + 1), 226, 70, [some (.inr (.inr 1)), some (.inl x1), some (.inl x2)], [], (am_sh, am_mm U))) (σ2 := ((d + 1), 226, 42, [some (.inr (.inr 1)), some (.inl x1), some (.inl x2)], [], (am_sh, am_mm U))) 5 (fun _ => rfl) (fun hc => ?_) (fun hc => ?_)
  · have h1 := h.1 hc
    subst h1
    exact ev_end 1 (fun _ => rfl)
  · have h2 := h.2 hc
    refine ev_seg (σ1 := ((d + 1), 226, 50, [some (.inr (.inr 1)), some (.inl x1), some (.inl x2)], [.inl x2, .inr (.inr 18)], (am_sh, am_mm U))) 4 (fun _ => rfl) ?_
    refine eu_iald 18 (n := 16) rfl (by decide) rfl (fun _ => rfl) h2.1 ?_
    have h2a := h2.2
    refine ev_br (P := ¬ (U 18 x2.toNat) = x1) (σ1 := ((d + 1), 226, 64, [some (.inr (.inr 1)), some (.inl x1), some (.inl x2)], [], (am_sh, am_mm U))) (σ2 := ((d + 1), 226, 55, [some (.inr (.inr 1)), some (.inl x1), some (.inl x2)], [], (am_sh, am_mm U))) 2 (fun _ => rfl) (fun hc => ?_) (fun hc => ?_)
    · have h2a1 := h2a.1 hc
      refine ev_seg (σ1 := ((d + 1), 226, 31, [some (.inr (.inr 1)), some (.inl x1), some (.inl (w32 (x2 + 1)))], [], (am_sh, am_mm U))) 2 (fun _ => rfl) ?_
      exact h2a1
    · have h2a2 := h2a.2 hc
      refine ev_seg (σ1 := ((d + 1), 226, 61, [some (.inr (.inr 1)), some (.inl x1), some (.inl x2)], [.inl (-1), .inl x2, .inr (.inr 16)], (am_sh, am_mm U))) 4 (fun _ => rfl) ?_
      obtain ⟨U1, h2a2c, h2a2a⟩ := h2a2
      refine ev_cal (σc := (d, 138, 0, [some (.inr (.inr 16)), some (.inl x2), some (.inl (-1)), none], [], (am_sh, am_mm U))) (fun _ => rfl) h2a2c ?_
      show Ev kz ((d + 1), 226, 64, [some (.inr (.inr 1)), some (.inl x1), some (.inl x2)], [], (am_sh, am_mm U1)) R
      refine ev_seg (σ1 := ((d + 1), 226, 31, [some (.inr (.inr 1)), some (.inl x1), some (.inl (w32 (x2 + 1)))], [], (am_sh, am_mm U1))) 2 (fun _ => rfl) ?_
      exact h2a2a
theorem st229_1_0 (kz : am_Z) (d : Nat) (x1 x2 : Int) (U : Nat → Nat → Int) (R : Option am_V × am_M) (h : (((x1 = 0 : Prop)) → R = (some (.inl 0), (am_sh, am_mm U))) ∧ (¬ (x1 = 0) → (((999999999 < x1 : Prop)) → R = (some (.inl 0), (am_sh, am_mm U))) ∧ (¬ (999999999 < x1) → (((16 ≤ (U 16 0) : Prop)) → R = (some (.inl 0), (am_sh, am_mm U))) ∧ (¬ (16 ≤ (U 16 0)) → ∃ (r1 : Int) (U1 : Nat → Nat → Int), Ev kz (d, 280, 0, [some (.inr (.inr 16)), some (.inl x1), none], [], (am_sh, am_mm U)) (some (.inl r1), (am_sh, am_mm U1)) ∧ (((r1 < 0 : Prop)) → ∃ U2 : Nat → Nat → Int, Ev kz (d, 180, 0, [some (.inr (.inr 16)), some (.inl x1), some (.inl x2)], [], (am_sh, am_mm U1)) (none, (am_sh, am_mm U2)) ∧ R = (some (.inl 1), (am_sh, am_mm U2))) ∧ (¬ (r1 < 0) → R = (some (.inl 0), (am_sh, am_mm U1))))))) : Ev kz ((d + 1), 229, 0, [some (.inr (.inr 1)), some (.inl x1), some (.inl x2)], [], (am_sh, am_mm U)) R := by
  refine ev_br (P := x1 = 0) (σ1 := ((d + 1), 229, 34, [some (.inr (.inr 1)), some (.inl x1), some (.inl x2)], [], (am_sh, am_mm U))) (σ2 := ((d + 1), 229, 4, [some (.inr (.inr 1)), some (.inl x1), some (.inl x2)], [], (am_sh, am_mm U))) 2 (fun _ => rfl) (fun hc => ?_) (fun hc => ?_)
  · have h1 := h.1 hc
    subst h1
    exact ev_end 2 (fun _ => rfl)
  · have h2 := h.2 hc
    refine ev_br (P := 999999999 < x1) (σ1 := ((d + 1), 229, 34, [some (.inr (.inr 1)), some (.inl x1), some (.inl x2)], [], (am_sh, am_mm U))) (σ2 := ((d + 1), 229, 11, [some (.inr (.inr 1)), some (.inl x1), some (.inl x2)], [], (am_sh, am_mm U))) 3 (fun _ => rfl) (fun hc => ?_) (fun hc => ?_)
    · have h21 := h2.1 hc
      subst h21
      exact ev_end 2 (fun _ => rfl)
    · have h22 := h2.2 hc
      refine ev_br (P := 16 ≤ (U 16 0)) (σ1 := ((d + 1), 229, 34, [some (.inr (.inr 1)), some (.inl x1), some (.inl x2)], [], (am_sh, am_mm U))) (σ2 := ((d + 1), 229, 23, [some (.inr (.inr 1)), some (.inl x1), some (.inl x2)], [], (am_sh, am_mm U))) 5 (fun _ => rfl) (fun hc => ?_) (fun hc => ?_)
      · have h221 := h22.1 hc
        subst h221
        exact ev_end 2 (fun _ => rfl)
      · have h222 := h22.2 hc
        refine ev_seg (σ1 := ((d + 1), 229, 28, [some (.inr (.inr 1)), some (.inl x1), some (.inl x2)], [.inl x1, .inr (.inr 16)], (am_sh, am_mm U))) 3 (fun _ => rfl) ?_
        obtain ⟨r1, U1, h222c, h222a⟩ := h222
        refine ev_cal (σc := (d, 280, 0, [some (.inr (.inr 16)), some (.inl x1), none], [], (am_sh, am_mm U))) (fun _ => rfl) h222c ?_
        show Ev kz ((d + 1), 229, 31, [some (.inr (.inr 1)), some (.inl x1), some (.inl x2)], [.inl r1], (am_sh, am_mm U1)) R
        refine ev_br (P := r1 < 0) (σ1 := ((d + 1), 229, 36, [some (.inr (.inr 1)), some (.inl x1), some (.inl x2)], [], (am_sh, am_mm U1))) (σ2 := ((d + 1), 229, 34, [some (.inr (.inr 1)), some (.inl x1), some (.inl x2)], [], (am_sh, am_mm U1))) 1 (fun _ => rfl) (fun hc => ?_) (fun hc => ?_)
        · have h222a1 := h222a.1 hc
          refine ev_seg (σ1 := ((d + 1), 229, 42, [some (.inr (.inr 1)), some (.inl x1), some (.inl x2)], [.inl x2, .inl x1, .inr (.inr 16)], (am_sh, am_mm U1))) 4 (fun _ => rfl) ?_
          obtain ⟨U2, h222a1c, h222a1a⟩ := h222a1
          refine ev_cal (σc := (d, 180, 0, [some (.inr (.inr 16)), some (.inl x1), some (.inl x2)], [], (am_sh, am_mm U1))) (fun _ => rfl) h222a1c ?_
          show Ev kz ((d + 1), 229, 45, [some (.inr (.inr 1)), some (.inl x1), some (.inl x2)], [], (am_sh, am_mm U2)) R
          subst h222a1a
          exact ev_end 2 (fun _ => rfl)
        · have h222a2 := h222a.2 hc
          subst h222a2
          exact ev_end 2 (fun _ => rfl)
theorem st231_86_0 (kz : am_Z) (d : Nat) (x1 : Int) (U : Nat → Nat → Int) (R : Option am_V × am_M) (h : Ev kz (d, 231, 2, [some (.inr (.inr 86)), some (.inl x1), some (.inl 0)], [], (am_sh, am_mm U)) R) : Ev kz (d, 231, 0, [some (.inr (.inr 86)), some (.inl x1), none], [], (am_sh, am_mm U)) R := by
  refine ev_seg (σ1 := (d, 231, 2, [some (.inr (.inr 86)), some (.inl x1), some (.inl 0)], [], (am_sh, am_mm U))) 2 (fun _ => rfl) ?_
  exact h
theorem st231_86_2 (kz : am_Z) (d : Nat) (x1 x2 : Int) (U : Nat → Nat → Int) (R : Option am_V × am_M) (h : ((((U 122 0) ≤ x2 : Prop)) → R = (none, (am_sh, am_mm U))) ∧ (¬ ((U 122 0) ≤ x2) → (0 ≤ x2 ∧ x2 < 352) ∧ (((¬ (U 124 x2.toNat) = x1 : Prop)) → (0 ≤ x2 ∧ x2 < 352) ∧ (0 ≤ x2 ∧ x2 < 352) ∧ Ev kz (d, 231, 2, [some (.inr (.inr 86)), some (.inl x1), some (.inl (w32 (x2 + 1)))], [], (am_sh, am_mm (am_upd U 124 x2.toNat (U 124 x2.toNat)))) R) ∧ (¬ (¬ (U 124 x2.toNat) = x1) → (0 ≤ x2 ∧ x2 < 352) ∧ Ev kz (d, 231, 2, [some (.inr (.inr 86)), some (.inl x1), some (.inl (w32 (x2 + 1)))], [], (am_sh, am_mm (am_upd U 124 x2.toNat (-1)))) R))) : Ev kz (d, 231, 2, [some (.inr (.inr 86)), some (.inl x1), some (.inl x2)], [], (am_sh, am_mm U)) R := by
  refine ev_seg (σ1 := (d, 231, 8, [some (.inr (.inr 86)), some (.inl x1), some (.inl x2)], [.inl 0, .inr (.inr 122), .inl x2], (am_sh, am_mm U))) 4 (fun _ => rfl) ?_
  refine eu_iald 122 (n := 22) rfl (by decide) rfl (fun _ => rfl) (by decide) ?_
  show Ev kz (d, 231, 9, [some (.inr (.inr 86)), some (.inl x1), some (.inl x2)], [.inl (U 122 0), .inl x2], (am_sh, am_mm U)) R
  refine ev_br (P := (U 122 0) ≤ x2) (σ1 := (d, 231, 44, [some (.inr (.inr 86)), some (.inl x1), some (.inl x2)], [], (am_sh, am_mm U))) (σ2 := (d, 231, 12, [some (.inr (.inr 86)), some (.inl x1), some (.inl x2)], [], (am_sh, am_mm U))) 1 (fun _ => rfl) (fun hc => ?_) (fun hc => ?_)
  · have h1 := h.1 hc
    subst h1
    exact ev_end 1 (fun _ => rfl)
  · have h2 := h.2 hc
    refine ev_seg (σ1 := (d, 231, 22, [some (.inr (.inr 86)), some (.inl x1), some (.inl x2)], [.inl x2, .inr (.inr 124), .inl x2, .inr (.inr 124)], (am_sh, am_mm U))) 6 (fun _ => rfl) ?_
    refine eu_iald 124 (n := 352) rfl (by decide) rfl (fun _ => rfl) h2.1 ?_
    have h2a := h2.2
    refine ev_br (P := ¬ (U 124 x2.toNat) = x1) (σ1 := (d, 231, 31, [some (.inr (.inr 86)), some (.inl x1), some (.inl x2)], [.inl x2, .inr (.inr 124)], (am_sh, am_mm U))) (σ2 := (d, 231, 27, [some (.inr (.inr 86)), some (.inl x1), some (.inl x2)], [.inl x2, .inr (.inr 124)], (am_sh, am_mm U))) 2 (fun _ => rfl) (fun hc => ?_) (fun hc => ?_)
    · have h2a1 := h2a.1 hc
      refine ev_seg (σ1 := (d, 231, 36, [some (.inr (.inr 86)), some (.inl x1), some (.inl x2)], [.inl x2, .inr (.inr 124), .inl x2, .inr (.inr 124)], (am_sh, am_mm U))) 3 (fun _ => rfl) ?_
      refine eu_iald 124 (n := 352) rfl (by decide) rfl (fun _ => rfl) h2a1.1 ?_
      have h2a1a := h2a1.2
      refine eu_iast 124 (n := 352) rfl (by decide) rfl (fun _ => rfl) h2a1a.1 ?_
      have h2a1aa := h2a1a.2
      refine ev_seg (σ1 := (d, 231, 2, [some (.inr (.inr 86)), some (.inl x1), some (.inl (w32 (x2 + 1)))], [], (am_sh, am_mm (am_upd U 124 x2.toNat (U 124 x2.toNat))))) 2 (fun _ => rfl) ?_
      exact h2a1aa
    · have h2a2 := h2a.2 hc
      refine ev_seg (σ1 := (d, 231, 37, [some (.inr (.inr 86)), some (.inl x1), some (.inl x2)], [.inl (-1), .inl x2, .inr (.inr 124)], (am_sh, am_mm U))) 2 (fun _ => rfl) ?_
      refine eu_iast 124 (n := 352) rfl (by decide) rfl (fun _ => rfl) h2a2.1 ?_
      have h2a2a := h2a2.2
      refine ev_seg (σ1 := (d, 231, 2, [some (.inr (.inr 86)), some (.inl x1), some (.inl (w32 (x2 + 1)))], [], (am_sh, am_mm (am_upd U 124 x2.toNat (-1))))) 2 (fun _ => rfl) ?_
      exact h2a2a
