set_option maxRecDepth 8000 in
theorem st176_16_0 (kz : am_Z) (d : Nat) (U : Nat → Nat → Int) (R : Option am_V × am_M) (h : ∃ U1 : Nat → Nat → Int, Ev kz (d, 211, 0, [some (.inr (.inr 19)), some (.inl 0), none, none], [], (am_sh, am_mm (am_upd (am_upd (am_upd U 16 0 0) 16 1 0) 16 2 0))) (none, (am_sh, am_mm U1)) ∧ R = (none, (am_sh, am_mm U1))) : Ev kz ((d + 1), 176, 0, [some (.inr (.inr 16))], [], (am_sh, am_mm U)) R := by
  refine ev_seg (σ1 := ((d + 1), 176, 2, [some (.inr (.inr 16))], [.inl 0, .inr (.inr 16)], (am_sh, am_mm U))) 2 (fun _ => rfl) ?_
  refine eu_puti 16 (n := 7) rfl (by decide) rfl rfl ?_
  refine ev_seg (σ1 := ((d + 1), 176, 7, [some (.inr (.inr 16))], [.inl 0, .inr (.inr 16)], (am_sh, am_mm (am_upd U 16 0 0)))) 2 (fun _ => rfl) ?_
  refine eu_puti 16 (n := 7) rfl (by decide) rfl rfl ?_
  refine ev_seg (σ1 := ((d + 1), 176, 12, [some (.inr (.inr 16))], [.inl 0, .inr (.inr 16)], (am_sh, am_mm (am_upd (am_upd U 16 0 0) 16 1 0)))) 2 (fun _ => rfl) ?_
  refine eu_putz 16 (n := 7) rfl (by decide) rfl rfl (by decide) ?_
  refine ev_seg (σ1 := ((d + 1), 176, 20, [some (.inr (.inr 16))], [.inl 0, .inr (.inr 19)], (am_sh, am_mm (am_upd (am_upd (am_upd U 16 0 0) 16 1 0) 16 2 0)))) 3 (fun _ => rfl) ?_
  obtain ⟨U1, hc, ha⟩ := h
  refine ev_cal (σc := (d, 211, 0, [some (.inr (.inr 19)), some (.inl 0), none, none], [], (am_sh, am_mm (am_upd (am_upd (am_upd U 16 0 0) 16 1 0) 16 2 0)))) (fun _ => rfl) hc ?_
  show Ev kz ((d + 1), 176, 23, [some (.inr (.inr 16))], [], (am_sh, am_mm U1)) R
  subst ha
  exact ev_end 1 (fun _ => rfl)
set_option maxRecDepth 8000 in
theorem st180_16_0 (kz : am_Z) (d : Nat) (x1 x2 : Int) (U : Nat → Nat → Int) (R : Option am_V × am_M) (h : ((((U 16 0) < 16 : Prop)) → (0 ≤ (U 16 0) ∧ (U 16 0) < 16) ∧ ((((U 17 (U 16 0).toNat) = x1 : Prop)) → (0 ≤ (U 16 0) ∧ (U 16 0) < 16) ∧ ∃ U1 : Nat → Nat → Int, Ev kz (d, 138, 0, [some (.inr (.inr 16)), some (.inl (w32 (((am_upd (am_upd U 18 (U 16 0).toNat (-1)) 16 0 (w32 (((am_upd U 18 (U 16 0).toNat (-1)) 16 0) + 1))) 16 0) - 1))), some (.inl x2), none], [], (am_sh, am_mm (am_upd (am_upd U 18 (U 16 0).toNat (-1)) 16 0 (w32 (((am_upd U 18 (U 16 0).toNat (-1)) 16 0) + 1))))) (none, (am_sh, am_mm U1)) ∧ R = (none, (am_sh, am_mm U1))) ∧ (¬ ((U 17 (U 16 0).toNat) = x1) → (0 ≤ (U 16 0) ∧ (U 16 0) < 16) ∧ (0 ≤ ((am_upd U 17 (U 16 0).toNat x1) 16 0) ∧ ((am_upd U 17 (U 16 0).toNat x1) 16 0) < 16) ∧ (0 ≤ ((am_upd (am_upd U 17 (U 16 0).toNat x1) 20 ((am_upd U 17 (U 16 0).toNat x1) 16 0).toNat (-1)) 16 0) ∧ ((am_upd (am_upd U 17 (U 16 0).toNat x1) 20 ((am_upd U 17 (U 16 0).toNat x1) 16 0).toNat (-1)) 16 0) < 16) ∧ ∃ U2 : Nat → Nat → Int, Ev kz (d, 138, 0, [some (.inr (.inr 16)), some (.inl (w32 (((am_upd (am_upd (am_upd (am_upd U 17 (U 16 0).toNat x1) 20 ((am_upd U 17 (U 16 0).toNat x1) 16 0).toNat (-1)) 18 ((am_upd (am_upd U 17 (U 16 0).toNat x1) 20 ((am_upd U 17 (U 16 0).toNat x1) 16 0).toNat (-1)) 16 0).toNat (-1)) 16 0 (w32 (((am_upd (am_upd (am_upd U 17 (U 16 0).toNat x1) 20 ((am_upd U 17 (U 16 0).toNat x1) 16 0).toNat (-1)) 18 ((am_upd (am_upd U 17 (U 16 0).toNat x1) 20 ((am_upd U 17 (U 16 0).toNat x1) 16 0).toNat (-1)) 16 0).toNat (-1)) 16 0) + 1))) 16 0) - 1))), some (.inl x2), none], [], (am_sh, am_mm (am_upd (am_upd (am_upd (am_upd U 17 (U 16 0).toNat x1) 20 ((am_upd U 17 (U 16 0).toNat x1) 16 0).toNat (-1)) 18 ((am_upd (am_upd U 17 (U 16 0).toNat x1) 20 ((am_upd U 17 (U 16 0).toNat x1) 16 0).toNat (-1)) 16 0).toNat (-1)) 16 0 (w32 (((am_upd (am_upd (am_upd U 17 (U 16 0).toNat x1) 20 ((am_upd U 17 (U 16 0).toNat x1) 16 0).toNat (-1)) 18 ((am_upd (am_upd U 17 (U 16 0).toNat x1) 20 ((am_upd U 17 (U 16 0).toNat x1) 16 0).toNat (-1)) 16 0).toNat (-1)) 16 0) + 1))))) (none, (am_sh, am_mm U2)) ∧ R = (none, (am_sh, am_mm U2)))) ∧ (¬ ((U 16 0) < 16) → R = (none, (am_sh, am_mm U)))) : Ev kz ((d + 1), 180, 0, [some (.inr (.inr 16)), some (.inl x1), some (.inl x2)], [], (am_sh, am_mm U)) R := by
  refine ev_br (P := (U 16 0) < 16) (σ1 := ((d + 1), 180, 10, [some (.inr (.inr 16)), some (.inl x1), some (.inl x2)], [], (am_sh, am_mm U))) (σ2 := ((d + 1), 180, 9, [some (.inr (.inr 16)), some (.inl x1), some (.inl x2)], [], (am_sh, am_mm U))) 4 (fun _ => rfl) (fun hc => ?_) (fun hc => ?_)
  · have h1 := h.1 hc
    refine ev_seg (σ1 := ((d + 1), 180, 18, [some (.inr (.inr 16)), some (.inl x1), some (.inl x2)], [.inl (U 16 0), .inr (.inr 17)], (am_sh, am_mm U))) 4 (fun _ => rfl) ?_
    refine eu_iald 17 (n := 16) rfl (by decide) rfl (fun _ => rfl) h1.1 ?_
    have h1a := h1.2
    refine ev_br (P := (U 17 (U 16 0).toNat) = x1) (σ1 := ((d + 1), 180, 45, [some (.inr (.inr 16)), some (.inl x1), some (.inl x2)], [], (am_sh, am_mm U))) (σ2 := ((d + 1), 180, 23, [some (.inr (.inr 16)), some (.inl x1), some (.inl x2)], [], (am_sh, am_mm U))) 2 (fun _ => rfl) (fun hc => ?_) (fun hc => ?_)
    · have h1a1 := h1a.1 hc
      refine ev_seg (σ1 := ((d + 1), 180, 54, [some (.inr (.inr 16)), some (.inl x1), some (.inl x2)], [.inl (-1), .inl (U 16 0), .inr (.inr 18)], (am_sh, am_mm U))) 5 (fun _ => rfl) ?_
      refine eu_iast 18 (n := 16) rfl (by decide) rfl (fun _ => rfl) h1a1.1 ?_
      have h1a1a := h1a1.2
      refine ev_seg (σ1 := ((d + 1), 180, 62, [some (.inr (.inr 16)), some (.inl x1), some (.inl x2)], [.inl (w32 (((am_upd U 18 (U 16 0).toNat (-1)) 16 0) + 1)), .inr (.inr 16)], (am_sh, am_mm (am_upd U 18 (U 16 0).toNat (-1))))) 5 (fun _ => rfl) ?_
      refine eu_puti 16 (n := 7) rfl (by decide) rfl rfl ?_
      refine ev_seg (σ1 := ((d + 1), 180, 73, [some (.inr (.inr 16)), some (.inl x1), some (.inl x2)], [.inl x2, .inl (w32 (((am_upd (am_upd U 18 (U 16 0).toNat (-1)) 16 0 (w32 (((am_upd U 18 (U 16 0).toNat (-1)) 16 0) + 1))) 16 0) - 1)), .inr (.inr 16)], (am_sh, am_mm (am_upd (am_upd U 18 (U 16 0).toNat (-1)) 16 0 (w32 (((am_upd U 18 (U 16 0).toNat (-1)) 16 0) + 1)))))) 6 (fun _ => rfl) ?_
      obtain ⟨U1, h1a1ac, h1a1aa⟩ := h1a1a
      refine ev_cal (σc := (d, 138, 0, [some (.inr (.inr 16)), some (.inl (w32 (((am_upd (am_upd U 18 (U 16 0).toNat (-1)) 16 0 (w32 (((am_upd U 18 (U 16 0).toNat (-1)) 16 0) + 1))) 16 0) - 1))), some (.inl x2), none], [], (am_sh, am_mm (am_upd (am_upd U 18 (U 16 0).toNat (-1)) 16 0 (w32 (((am_upd U 18 (U 16 0).toNat (-1)) 16 0) + 1)))))) (fun _ => rfl) h1a1ac ?_
      show Ev kz ((d + 1), 180, 76, [some (.inr (.inr 16)), some (.inl x1), some (.inl x2)], [], (am_sh, am_mm U1)) R
      subst h1a1aa
      exact ev_end 1 (fun _ => rfl)
    · have h1a2 := h1a.2 hc
      refine ev_seg (σ1 := ((d + 1), 180, 32, [some (.inr (.inr 16)), some (.inl x1), some (.inl x2)], [.inl x1, .inl (U 16 0), .inr (.inr 17)], (am_sh, am_mm U))) 5 (fun _ => rfl) ?_
      refine eu_iast 17 (n := 16) rfl (by decide) rfl (fun _ => rfl) h1a2.1 ?_
      have h1a2a := h1a2.2
      refine ev_seg (σ1 := ((d + 1), 180, 44, [some (.inr (.inr 16)), some (.inl x1), some (.inl x2)], [.inr (.inl (-1)), .inl ((am_upd U 17 (U 16 0).toNat x1) 16 0), .inr (.inr 20)], (am_sh, am_mm (am_upd U 17 (U 16 0).toNat x1)))) 5 (fun _ => rfl) ?_
      refine eu_last 20 (n := 16) rfl (by decide) rfl (fun _ => rfl) h1a2a.1 ?_
      have h1a2aa := h1a2a.2
      refine ev_seg (σ1 := ((d + 1), 180, 54, [some (.inr (.inr 16)), some (.inl x1), some (.inl x2)], [.inl (-1), .inl ((am_upd (am_upd U 17 (U 16 0).toNat x1) 20 ((am_upd U 17 (U 16 0).toNat x1) 16 0).toNat (-1)) 16 0), .inr (.inr 18)], (am_sh, am_mm (am_upd (am_upd U 17 (U 16 0).toNat x1) 20 ((am_upd U 17 (U 16 0).toNat x1) 16 0).toNat (-1))))) 5 (fun _ => rfl) ?_
      refine eu_iast 18 (n := 16) rfl (by decide) rfl (fun _ => rfl) h1a2aa.1 ?_
      have h1a2aaa := h1a2aa.2
      refine ev_seg (σ1 := ((d + 1), 180, 62, [some (.inr (.inr 16)), some (.inl x1), some (.inl x2)], [.inl (w32 (((am_upd (am_upd (am_upd U 17 (U 16 0).toNat x1) 20 ((am_upd U 17 (U 16 0).toNat x1) 16 0).toNat (-1)) 18 ((am_upd (am_upd U 17 (U 16 0).toNat x1) 20 ((am_upd U 17 (U 16 0).toNat x1) 16 0).toNat (-1)) 16 0).toNat (-1)) 16 0) + 1)), .inr (.inr 16)], (am_sh, am_mm (am_upd (am_upd (am_upd U 17 (U 16 0).toNat x1) 20 ((am_upd U 17 (U 16 0).toNat x1) 16 0).toNat (-1)) 18 ((am_upd (am_upd U 17 (U 16 0).toNat x1) 20 ((am_upd U 17 (U 16 0).toNat x1) 16 0).toNat (-1)) 16 0).toNat (-1))))) 5 (fun _ => rfl) ?_
      refine eu_puti 16 (n := 7) rfl (by decide) rfl rfl ?_
      refine ev_seg (σ1 := ((d + 1), 180, 73, [some (.inr (.inr 16)), some (.inl x1), some (.inl x2)], [.inl x2, .inl (w32 (((am_upd (am_upd (am_upd (am_upd U 17 (U 16 0).toNat x1) 20 ((am_upd U 17 (U 16 0).toNat x1) 16 0).toNat (-1)) 18 ((am_upd (am_upd U 17 (U 16 0).toNat x1) 20 ((am_upd U 17 (U 16 0).toNat x1) 16 0).toNat (-1)) 16 0).toNat (-1)) 16 0 (w32 (((am_upd (am_upd (am_upd U 17 (U 16 0).toNat x1) 20 ((am_upd U 17 (U 16 0).toNat x1) 16 0).toNat (-1)) 18 ((am_upd (am_upd U 17 (U 16 0).toNat x1) 20 ((am_upd U 17 (U 16 0).toNat x1) 16 0).toNat (-1)) 16 0).toNat (-1)) 16 0) + 1))) 16 0) - 1)), .inr (.inr 16)], (am_sh, am_mm (am_upd (am_upd (am_upd (am_upd U 17 (U 16 0).toNat x1) 20 ((am_upd U 17 (U 16 0).toNat x1) 16 0).toNat (-1)) 18 ((am_upd (am_upd U 17 (U 16 0).toNat x1) 20 ((am_upd U 17 (U 16 0).toNat x1) 16 0).toNat (-1)) 16 0).toNat (-1)) 16 0 (w32 (((am_upd (am_upd (am_upd U 17 (U 16 0).toNat x1) 20 ((am_upd U 17 (U 16 0).toNat x1) 16 0).toNat (-1)) 18 ((am_upd (am_upd U 17 (U 16 0).toNat x1) 20 ((am_upd U 17 (U 16 0).toNat x1) 16 0).toNat (-1)) 16 0).toNat (-1)) 16 0) + 1)))))) 6 (fun _ => rfl) ?_
      obtain ⟨U2, h1a2aaac, h1a2aaaa⟩ := h1a2aaa
      refine ev_cal (σc := (d, 138, 0, [some (.inr (.inr 16)), some (.inl (w32 (((am_upd (am_upd (am_upd (am_upd U 17 (U 16 0).toNat x1) 20 ((am_upd U 17 (U 16 0).toNat x1) 16 0).toNat (-1)) 18 ((am_upd (am_upd U 17 (U 16 0).toNat x1) 20 ((am_upd U 17 (U 16 0).toNat x1) 16 0).toNat (-1)) 16 0).toNat (-1)) 16 0 (w32 (((am_upd (am_upd (am_upd U 17 (U 16 0).toNat x1) 20 ((am_upd U 17 (U 16 0).toNat x1) 16 0).toNat (-1)) 18 ((am_upd (am_upd U 17 (U 16 0).toNat x1) 20 ((am_upd U 17 (U 16 0).toNat x1) 16 0).toNat (-1)) 16 0).toNat (-1)) 16 0) + 1))) 16 0) - 1))), some (.inl x2), none], [], (am_sh, am_mm (am_upd (am_upd (am_upd (am_upd U 17 (U 16 0).toNat x1) 20 ((am_upd U 17 (U 16 0).toNat x1) 16 0).toNat (-1)) 18 ((am_upd (am_upd U 17 (U 16 0).toNat x1) 20 ((am_upd U 17 (U 16 0).toNat x1) 16 0).toNat (-1)) 16 0).toNat (-1)) 16 0 (w32 (((am_upd (am_upd (am_upd U 17 (U 16 0).toNat x1) 20 ((am_upd U 17 (U 16 0).toNat x1) 16 0).toNat (-1)) 18 ((am_upd (am_upd U 17 (U 16 0).toNat x1) 20 ((am_upd U 17 (U 16 0).toNat x1) 16 0).toNat (-1)) 16 0).toNat (-1)) 16 0) + 1)))))) (fun _ => rfl) h1a2aaac ?_
      show Ev kz ((d + 1), 180, 76, [some (.inr (.inr 16)), some (.inl x1), some (.inl x2)], [], (am_sh, am_mm U2)) R
      subst h1a2aaaa
      exact ev_end 1 (fun _ => rfl)
  · have h2 := h.2 hc
    subst h2
    exact ev_end 1 (fun _ => rfl)
set_option maxRecDepth 8000 in
theorem st186_86_0 (kz : am_Z) (d : Nat) (U : Nat → Nat → Int) (R : Option am_V × am_M) (h : ((((U 86 12) = (-1) : Prop)) → R = (none, (am_sh, am_mm U))) ∧ (¬ ((U 86 12) = (-1)) → ∃ U1 : Nat → Nat → Int, Ev kz (d, 196, 0, [some (.inr (.inr 86)), some (.inl 1), some (.inl (U 86 12))], [], (am_sh, am_mm U)) (none, (am_sh, am_mm U1)) ∧ R = (none, (am_sh, am_mm U1)))) : Ev kz ((d + 1), 186, 0, [some (.inr (.inr 86))], [], (am_sh, am_mm U)) R := by
  refine ev_br (P := (U 86 12) = (-1)) (σ1 := ((d + 1), 186, 17, [some (.inr (.inr 86))], [], (am_sh, am_mm U))) (σ2 := ((d + 1), 186, 8, [some (.inr (.inr 86))], [], (am_sh, am_mm U))) 4 (fun _ => rfl) (fun hc => ?_) (fun hc => ?_)
  · have h1 := h.1 hc
    subst h1
    exact ev_end 1 (fun _ => rfl)
  · have h2 := h.2 hc
    refine ev_seg (σ1 := ((d + 1), 186, 14, [some (.inr (.inr 86))], [.inl (U 86 12), .inl 1, .inr (.inr 86)], (am_sh, am_mm U))) 4 (fun _ => rfl) ?_
    obtain ⟨U1, h2c, h2a⟩ := h2
    refine ev_cal (σc := (d, 196, 0, [some (.inr (.inr 86)), some (.inl 1), some (.inl (U 86 12))], [], (am_sh, am_mm U))) (fun _ => rfl) h2c ?_
    show Ev kz ((d + 1), 186, 17, [some (.inr (.inr 86))], [], (am_sh, am_mm U1)) R
    subst h2a
    exact ev_end 1 (fun _ => rfl)
set_option maxRecDepth 8000 in
theorem st194_86_0 (kz : am_Z) (d : Nat) (U : Nat → Nat → Int) (R : Option am_V × am_M) (h : (0 ≤ (U 86 40) ∧ (U 86 40) < 2) ∧ (((¬ (U 106 (U 86 40).toNat) = 16 : Prop)) → ∃ (r1 : Int) (U1 : Nat → Nat → Int), Ev kz (d, 264, 0, [some (.inr (.inr 86)), some (.inl 0)], [], (am_sh, am_mm U)) (some (.inl r1), (am_sh, am_mm U1)) ∧ (((¬ r1 = 0 : Prop)) → (0 ≤ (U1 86 40) ∧ (U1 86 40) < 2) ∧ ∃ (r2 : Int) (U2 : Nat → Nat → Int), Ev kz (d, 267, 0, [some (.inr (.inr 86)), some (.inl 1), none], [], (am_sh, am_mm U1)) (some (.inl r2), (am_sh, am_mm U2)) ∧ (0 ≤ (w32 ((w32 (16 * (U1 86 40))) + (U1 106 (U1 86 40).toNat))) ∧ (w32 ((w32 (16 * (U1 86 40))) + (U1 106 (U1 86 40).toNat))) < 32) ∧ ∃ (r3 : Int) (U3 : Nat → Nat → Int), Ev kz (d, 269, 0, [some (.inr (.inr 86)), some (.inl 1), none], [], (am_sh, am_mm (am_upd U2 107 (w32 ((w32 (16 * (U1 86 40))) + (U1 106 (U1 86 40).toNat))).toNat r2))) (some (.inl r3), (am_sh, am_mm U3)) ∧ (0 ≤ (w32 ((w32 (16 * (U1 86 40))) + (U1 106 (U1 86 40).toNat))) ∧ (w32 ((w32 (16 * (U1 86 40))) + (U1 106 (U1 86 40).toNat))) < 32) ∧ (((¬ ((am_upd U3 108 (w32 ((w32 (16 * (U1 86 40))) + (U1 106 (U1 86 40).toNat))).toNat r3) 86 8) = 0 : Prop)) → (((((am_upd U3 108 (w32 ((w32 (16 * (U1 86 40))) + (U1 106 (U1 86 40).toNat))).toNat r3) 86 8) ≤ 0 : Prop)) → ∃ U4 : Nat → Nat → Int, Ev kz (d, 93, 0, [some (.inr (.inr 86)), none, none, none, none, none], [], (am_sh, am_mm (am_upd U3 108 (w32 ((w32 (16 * (U1 86 40))) + (U1 106 (U1 86 40).toNat))).toNat r3))) (none, (am_sh, am_mm U4)) ∧ ∃ (r5 : Int) (U5 : Nat → Nat → Int), Ev kz (d, 268, 0, [some (.inr (.inr 86)), some (.inl 1), some (.inl 9999), none], [], (am_sh, am_mm U4)) (some (.inl r5), (am_sh, am_mm U5)) ∧ (0 ≤ (w32 ((w32 (16 * (U1 86 40))) + (U1 106 (U1 86 40).toNat))) ∧ (w32 ((w32 (16 * (U1 86 40))) + (U1 106 (U1 86 40).toNat))) < 32) ∧ (((¬ ((am_upd U5 109 (w32 ((w32 (16 * (U1 86 40))) + (U1 106 (U1 86 40).toNat))).toNat r5) 86 8) = 0 : Prop)) → R = (none, (am_sh, am_mm (am_upd U5 109 (w32 ((w32 (16 * (U1 86 40))) + (U1 106 (U1 86 40).toNat))).toNat r5)))) ∧ (¬ (¬ ((am_upd U5 109 (w32 ((w32 (16 * (U1 86 40))) + (U1 106 (U1 86 40).toNat))).toNat r5) 86 8) = 0) → (0 ≤ ((am_upd U5 109 (w32 ((w32 (16 * (U1 86 40))) + (U1 106 (U1 86 40).toNat))).toNat r5) 86 40) ∧ ((am_upd U5 109 (w32 ((w32 (16 * (U1 86 40))) + (U1 106 (U1 86 40).toNat))).toNat r5) 86 40) < 2) ∧ (0 ≤ ((am_upd U5 109 (w32 ((w32 (16 * (U1 86 40))) + (U1 106 (U1 86 40).toNat))).toNat r5) 86 40) ∧ ((am_upd U5 109 (w32 ((w32 (16 * (U1 86 40))) + (U1 106 (U1 86 40).toNat))).toNat r5) 86 40) < 2) ∧ R = (none, (am_sh, am_mm (am_upd (am_upd U5 109 (w32 ((w32 (16 * (U1 86 40))) + (U1 106 (U1 86 40).toNat))).toNat r5) 106 ((am_upd U5 109 (w32 ((w32 (16 * (U1 86 40))) + (U1 106 (U1 86 40).toNat))).toNat r5) 86 40).toNat (w32 (((am_upd U5 109 (w32 ((w32 (16 * (U1 86 40))) + (U1 106 (U1 86 40).toNat))).toNat r5) 106 ((am_upd U5 109 (w32 ((w32 (16 * (U1 86 40))) + (U1 106 (U1 86 40).toNat))).toNat r5) 86 40).toNat) + 1))))))) ∧ (¬ (((am_upd U3 108 (w32 ((w32 (16 * (U1 86 40))) + (U1 106 (U1 86 40).toNat))).toNat r3) 86 8) ≤ 0) → R = (none, (am_sh, am_mm (am_upd U3 108 (w32 ((w32 (16 * (U1 86 40))) + (U1 106 (U1 86 40).toNat))).toNat r3))))) ∧ (¬ (¬ ((am_upd U3 108 (w32 ((w32 (16 * (U1 86 40))) + (U1 106 (U1 86 40).toNat))).toNat r3) 86 8) = 0) → (0 ≤ (w32 ((w32 (16 * (U1 86 40))) + (U1 106 (U1 86 40).toNat))) ∧ (w32 ((w32 (16 * (U1 86 40))) + (U1 106 (U1 86 40).toNat))) < 32) ∧ (0 ≤ (w32 ((w32 (16 * (U1 86 40))) + (U1 106 (U1 86 40).toNat))) ∧ (w32 ((w32 (16 * (U1 86 40))) + (U1 106 (U1 86 40).toNat))) < 32) ∧ (((¬ ((am_upd U3 108 (w32 ((w32 (16 * (U1 86 40))) + (U1 106 (U1 86 40).toNat))).toNat r3) 107 (w32 ((w32 (16 * (U1 86 40))) + (U1 106 (U1 86 40).toNat))).toNat) = ((am_upd U3 108 (w32 ((w32 (16 * (U1 86 40))) + (U1 106 (U1 86 40).toNat))).toNat r3) 108 (w32 ((w32 (16 * (U1 86 40))) + (U1 106 (U1 86 40).toNat))).toNat) : Prop)) → (((((am_upd U3 108 (w32 ((w32 (16 * (U1 86 40))) + (U1 106 (U1 86 40).toNat))).toNat r3) 86 8) ≤ 0 : Prop)) → ∃ U6 : Nat → Nat → Int, Ev kz (d, 93, 0, [some (.inr (.inr 86)), none, none, none, none, none], [], (am_sh, am_mm (am_upd U3 108 (w32 ((w32 (16 * (U1 86 40))) + (U1 106 (U1 86 40).toNat))).toNat r3))) (none, (am_sh, am_mm U6)) ∧ ∃ (r7 : Int) (U7 : Nat → Nat → Int), Ev kz (d, 268, 0, [some (.inr (.inr 86)), some (.inl 1), some (.inl 9999), none], [], (am_sh, am_mm U6)) (some (.inl r7), (am_sh, am_mm U7)) ∧ (0 ≤ (w32 ((w32 (16 * (U1 86 40))) + (U1 106 (U1 86 40).toNat))) ∧ (w32 ((w32 (16 * (U1 86 40))) + (U1 106 (U1 86 40).toNat))) < 32) ∧ (((¬ ((am_upd U7 109 (w32 ((w32 (16 * (U1 86 40))) + (U1 106 (U1 86 40).toNat))).toNat r7) 86 8) = 0 : Prop)) → R = (none, (am_sh, am_mm (am_upd U7 109 (w32 ((w32 (16 * (U1 86 40))) + (U1 106 (U1 86 40).toNat))).toNat r7)))) ∧ (¬ (¬ ((am_upd U7 109 (w32 ((w32 (16 * (U1 86 40))) + (U1 106 (U1 86 40).toNat))).toNat r7) 86 8) = 0) → (0 ≤ ((am_upd U7 109 (w32 ((w32 (16 * (U1 86 40))) + (U1 106 (U1 86 40).toNat))).toNat r7) 86 40) ∧ ((am_upd U7 109 (w32 ((w32 (16 * (U1 86 40))) + (U1 106 (U1 86 40).toNat))).toNat r7) 86 40) < 2) ∧ (0 ≤ ((am_upd U7 109 (w32 ((w32 (16 * (U1 86 40))) + (U1 106 (U1 86 40).toNat))).toNat r7) 86 40) ∧ ((am_upd U7 109 (w32 ((w32 (16 * (U1 86 40))) + (U1 106 (U1 86 40).toNat))).toNat r7) 86 40) < 2) ∧ R = (none, (am_sh, am_mm (am_upd (am_upd U7 109 (w32 ((w32 (16 * (U1 86 40))) + (U1 106 (U1 86 40).toNat))).toNat r7) 106 ((am_upd U7 109 (w32 ((w32 (16 * (U1 86 40))) + (U1 106 (U1 86 40).toNat))).toNat r7) 86 40).toNat (w32 (((am_upd U7 109 (w32 ((w32 (16 * (U1 86 40))) + (U1 106 (U1 86 40).toNat))).toNat r7) 106 ((am_upd U7 109 (w32 ((w32 (16 * (U1 86 40))) + (U1 106 (U1 86 40).toNat))).toNat r7) 86 40).toNat) + 1))))))) ∧ (¬ (((am_upd U3 108 (w32 ((w32 (16 * (U1 86 40))) + (U1 106 (U1 86 40).toNat))).toNat r3) 86 8) ≤ 0) → R = (none, (am_sh, am_mm (am_upd U3 108 (w32 ((w32 (16 * (U1 86 40))) + (U1 106 (U1 86 40).toNat))).toNat r3))))) ∧ (¬ (¬ ((am_upd U3 108 (w32 ((w32 (16 * (U1 86 40))) + (U1 106 (U1 86 40).toNat))).toNat r3) 107 (w32 ((w32 (16 * (U1 86 40))) + (U1 106 (U1 86 40).toNat))).toNat) = ((am_upd U3 108 (w32 ((w32 (16 * (U1 86 40))) + (U1 106 (U1 86 40).toNat))).toNat r3) 108 (w32 ((w32 (16 * (U1 86 40))) + (U1 106 (U1 86 40).toNat))).toNat)) → ∃ U8 : Nat → Nat → Int, Ev kz (d, 196, 0, [some (.inr (.inr 86)), some (.inl 3), some (.inl ((am_upd U3 108 (w32 ((w32 (16 * (U1 86 40))) + (U1 106 (U1 86 40).toNat))).toNat r3) 86 4))], [], (am_sh, am_mm (am_upd U3 108 (w32 ((w32 (16 * (U1 86 40))) + (U1 106 (U1 86 40).toNat))).toNat r3))) (none, (am_sh, am_mm U8)) ∧ ((((U8 86 8) ≤ 0 : Prop)) → ∃ U9 : Nat → Nat → Int, Ev kz (d, 93, 0, [some (.inr (.inr 86)), none, none, none, none, none], [], (am_sh, am_mm U8)) (none, (am_sh, am_mm U9)) ∧ ∃ (r10 : Int) (U10 : Nat → Nat → Int), Ev kz (d, 268, 0, [some (.inr (.inr 86)), some (.inl 1), some (.inl 9999), none], [], (am_sh, am_mm U9)) (some (.inl r10), (am_sh, am_mm U10)) ∧ (0 ≤ (w32 ((w32 (16 * (U1 86 40))) + (U1 106 (U1 86 40).toNat))) ∧ (w32 ((w32 (16 * (U1 86 40))) + (U1 106 (U1 86 40).toNat))) < 32) ∧ (((¬ ((am_upd U10 109 (w32 ((w32 (16 * (U1 86 40))) + (U1 106 (U1 86 40).toNat))).toNat r10) 86 8) = 0 : Prop)) → R = (none, (am_sh, am_mm (am_upd U10 109 (w32 ((w32 (16 * (U1 86 40))) + (U1 106 (U1 86 40).toNat))).toNat r10)))) ∧ (¬ (¬ ((am_upd U10 109 (w32 ((w32 (16 * (U1 86 40))) + (U1 106 (U1 86 40).toNat))).toNat r10) 86 8) = 0) → (0 ≤ ((am_upd U10 109 (w32 ((w32 (16 * (U1 86 40))) + (U1 106 (U1 86 40).toNat))).toNat r10) 86 40) ∧ ((am_upd U10 109 (w32 ((w32 (16 * (U1 86 40))) + (U1 106 (U1 86 40).toNat))).toNat r10) 86 40) < 2) ∧ (0 ≤ ((am_upd U10 109 (w32 ((w32 (16 * (U1 86 40))) + (U1 106 (U1 86 40).toNat))).toNat r10) 86 40) ∧ ((am_upd U10 109 (w32 ((w32 (16 * (U1 86 40))) + (U1 106 (U1 86 40).toNat))).toNat r10) 86 40) < 2) ∧ R = (none, (am_sh, am_mm (am_upd (am_upd U10 109 (w32 ((w32 (16 * (U1 86 40))) + (U1 106 (U1 86 40).toNat))).toNat r10) 106 ((am_upd U10 109 (w32 ((w32 (16 * (U1 86 40))) + (U1 106 (U1 86 40).toNat))).toNat r10) 86 40).toNat (w32 (((am_upd U10 109 (w32 ((w32 (16 * (U1 86 40))) + (U1 106 (U1 86 40).toNat))).toNat r10) 106 ((am_upd U10 109 (w32 ((w32 (16 * (U1 86 40))) + (U1 106 (U1 86 40).toNat))).toNat r10) 86 40).toNat) + 1))))))) ∧ (¬ ((U8 86 8) ≤ 0) → R = (none, (am_sh, am_mm U8)))))) ∧ (¬ (¬ r1 = 0) → R = (none, (am_sh, am_mm U1)))) ∧ (¬ (¬ (U 106 (U 86 40).toNat) = 16) → ∃ (r11 : Int) (U11 : Nat → Nat → Int), Ev kz (d, 264, 0, [some (.inr (.inr 86)), some (.inl 1)], [], (am_sh, am_mm U)) (some (.inl r11), (am_sh, am_mm U11)) ∧ (((¬ r11 = 0 : Prop)) → (0 ≤ (U11 86 40) ∧ (U11 86 40) < 2) ∧ ∃ (r12 : Int) (U12 : Nat → Nat → Int), Ev kz (d, 267, 0, [some (.inr (.inr 86)), some (.inl 1), none], [], (am_sh, am_mm U11)) (some (.inl r12), (am_sh, am_mm U12)) ∧ (0 ≤ (w32 ((w32 (16 * (U11 86 40))) + (U11 106 (U11 86 40).toNat))) ∧ (w32 ((w32 (16 * (U11 86 40))) + (U11 106 (U11 86 40).toNat))) < 32) ∧ ∃ (r13 : Int) (U13 : Nat → Nat → Int), Ev kz (d, 269, 0, [some (.inr (.inr 86)), some (.inl 1), none], [], (am_sh, am_mm (am_upd U12 107 (w32 ((w32 (16 * (U11 86 40))) + (U11 106 (U11 86 40).toNat))).toNat r12))) (some (.inl r13), (am_sh, am_mm U13)) ∧ (0 ≤ (w32 ((w32 (16 * (U11 86 40))) + (U11 106 (U11 86 40).toNat))) ∧ (w32 ((w32 (16 * (U11 86 40))) + (U11 106 (U11 86 40).toNat))) < 32) ∧ (((¬ ((am_upd U13 108 (w32 ((w32 (16 * (U11 86 40))) + (U11 106 (U11 86 40).toNat))).toNat r13) 86 8) = 0 : Prop)) → (((((am_upd U13 108 (w32 ((w32 (16 * (U11 86 40))) + (U11 106 (U11 86 40).toNat))).toNat r13) 86 8) ≤ 0 : Prop)) → ∃ U14 : Nat → Nat → Int, Ev kz (d, 93, 0, [some (.inr (.inr 86)), none, none, none, none, none], [], (am_sh, am_mm (am_upd U13 108 (w32 ((w32 (16 * (U11 86 40))) + (U11 106 (U11 86 40).toNat))).toNat r13))) (none, (am_sh, am_mm U14)) ∧ ∃ (r15 : Int) (U15 : Nat → Nat → Int), Ev kz (d, 268, 0, [some (.inr (.inr 86)), some (.inl 1), some (.inl 9999), none], [], (am_sh, am_mm U14)) (some (.inl r15), (am_sh, am_mm U15)) ∧ (0 ≤ (w32 ((w32 (16 * (U11 86 40))) + (U11 106 (U11 86 40).toNat))) ∧ (w32 ((w32 (16 * (U11 86 40))) + (U11 106 (U11 86 40).toNat))) < 32) ∧ (((¬ ((am_upd U15 109 (w32 ((w32 (16 * (U11 86 40))) + (U11 106 (U11 86 40).toNat))).toNat r15) 86 8) = 0 : Prop)) → R = (none, (am_sh, am_mm (am_upd U15 109 (w32 ((w32 (16 * (U11 86 40))) + (U11 106 (U11 86 40).toNat))).toNat r15)))) ∧ (¬ (¬ ((am_upd U15 109 (w32 ((w32 (16 * (U11 86 40))) + (U11 106 (U11 86 40).toNat))).toNat r15) 86 8) = 0) → (0 ≤ ((am_upd U15 109 (w32 ((w32 (16 * (U11 86 40))) + (U11 106 (U11 86 40).toNat))).toNat r15) 86 40) ∧ ((am_upd U15 109 (w32 ((w32 (16 * (U11 86 40))) + (U11 106 (U11 86 40).toNat))).toNat r15) 86 40) < 2) ∧ (0 ≤ ((am_upd U15 109 (w32 ((w32 (16 * (U11 86 40))) + (U11 106 (U11 86 40).toNat))).toNat r15) 86 40) ∧ ((am_upd U15 109 (w32 ((w32 (16 * (U11 86 40))) + (U11 106 (U11 86 40).toNat))).toNat r15) 86 40) < 2) ∧ R = (none, (am_sh, am_mm (am_upd (am_upd U15 109 (w32 ((w32 (16 * (U11 86 40))) + (U11 106 (U11 86 40).toNat))).toNat r15) 106 ((am_upd U15 109 (w32 ((w32 (16 * (U11 86 40))) + (U11 106 (U11 86 40).toNat))).toNat r15) 86 40).toNat (w32 (((am_upd U15 109 (w32 ((w32 (16 * (U11 86 40))) + (U11 106 (U11 86 40).toNat))).toNat r15) 106 ((am_upd U15 109 (w32 ((w32 (16 * (U11 86 40))) + (U11 106 (U11 86 40).toNat))).toNat r15) 86 40).toNat) + 1))))))) ∧ (¬ (((am_upd U13 108 (w32 ((w32 (16 * (U11 86 40))) + (U11 106 (U11 86 40).toNat))).toNat r13) 86 8) ≤ 0) → R = (none, (am_sh, am_mm (am_upd U13 108 (w32 ((w32 (16 * (U11 86 40))) + (U11 106 (U11 86 40).toNat))).toNat r13))))) ∧ (¬ (¬ ((am_upd U13 108 (w32 ((w32 (16 * (U11 86 40))) + (U11 106 (U11 86 40).toNat))).toNat r13) 86 8) = 0) → (0 ≤ (w32 ((w32 (16 * (U11 86 40))) + (U11 106 (U11 86 40).toNat))) ∧ (w32 ((w32 (16 * (U11 86 40))) + (U11 106 (U11 86 40).toNat))) < 32) ∧ (0 ≤ (w32 ((w32 (16 * (U11 86 40))) + (U11 106 (U11 86 40).toNat))) ∧ (w32 ((w32 (16 * (U11 86 40))) + (U11 106 (U11 86 40).toNat))) < 32) ∧ (((¬ ((am_upd U13 108 (w32 ((w32 (16 * (U11 86 40))) + (U11 106 (U11 86 40).toNat))).toNat r13) 107 (w32 ((w32 (16 * (U11 86 40))) + (U11 106 (U11 86 40).toNat))).toNat) = ((am_upd U13 108 (w32 ((w32 (16 * (U11 86 40))) + (U11 106 (U11 86 40).toNat))).toNat r13) 108 (w32 ((w32 (16 * (U11 86 40))) + (U11 106 (U11 86 40).toNat))).toNat) : Prop)) → (((((am_upd U13 108 (w32 ((w32 (16 * (U11 86 40))) + (U11 106 (U11 86 40).toNat))).toNat r13) 86 8) ≤ 0 : Prop)) → ∃ U16 : Nat → Nat → Int, Ev kz (d, 93, 0, [some (.inr (.inr 86)), none, none, none, none, none], [], (am_sh, am_mm (am_upd U13 108 (w32 ((w32 (16 * (U11 86 40))) + (U11 106 (U11 86 40).toNat))).toNat r13))) (none, (am_sh, am_mm U16)) ∧ ∃ (r17 : Int) (U17 : Nat → Nat → Int), Ev kz (d, 268, 0, [some (.inr (.inr 86)), some (.inl 1), some (.inl 9999), none], [], (am_sh, am_mm U16)) (some (.inl r17), (am_sh, am_mm U17)) ∧ (0 ≤ (w32 ((w32 (16 * (U11 86 40))) + (U11 106 (U11 86 40).toNat))) ∧ (w32 ((w32 (16 * (U11 86 40))) + (U11 106 (U11 86 40).toNat))) < 32) ∧ (((¬ ((am_upd U17 109 (w32 ((w32 (16 * (U11 86 40))) + (U11 106 (U11 86 40).toNat))).toNat r17) 86 8) = 0 : Prop)) → R = (none, (am_sh, am_mm (am_upd U17 109 (w32 ((w32 (16 * (U11 86 40))) + (U11 106 (U11 86 40).toNat))).toNat r17)))) ∧ (¬ (¬ ((am_upd U17 109 (w32 ((w32 (16 * (U11 86 40))) + (U11 106 (U11 86 40).toNat))).toNat r17) 86 8) = 0) → (0 ≤ ((am_upd U17 109 (w32 ((w32 (16 * (U11 86 40))) + (U11 106 (U11 86 40).toNat))).toNat r17) 86 40) ∧ ((am_upd U17 109 (w32 ((w32 (16 * (U11 86 40))) + (U11 106 (U11 86 40).toNat))).toNat r17) 86 40) < 2) ∧ (0 ≤ ((am_upd U17 109 (w32 ((w32 (16 * (U11 86 40))) + (U11 106 (U11 86 40).toNat))).toNat r17) 86 40) ∧ ((am_upd U17 109 (w32 ((w32 (16 * (U11 86 40))) + (U11 106 (U11 86 40).toNat))).toNat r17) 86 40) < 2) ∧ R = (none, (am_sh, am_mm (am_upd (am_upd U17 109 (w32 ((w32 (16 * (U11 86 40))) + (U11 106 (U11 86 40).toNat))).toNat r17) 106 ((am_upd U17 109 (w32 ((w32 (16 * (U11 86 40))) + (U11 106 (U11 86 40).toNat))).toNat r17) 86 40).toNat (w32 (((am_upd U17 109 (w32 ((w32 (16 * (U11 86 40))) + (U11 106 (U11 86 40).toNat))).toNat r17) 106 ((am_upd U17 109 (w32 ((w32 (16 * (U11 86 40))) + (U11 106 (U11 86 40).toNat))).toNat r17) 86 40).toNat) + 1))))))) ∧ (¬ (((am_upd U13 108 (w32 ((w32 (16 * (U11 86 40))) + (U11 106 (U11 86 40).toNat))).toNat r13) 86 8) ≤ 0) → R = (none, (am_sh, am_mm (am_upd U13 108 (w32 ((w32 (16 * (U11 86 40))) + (U11 106 (U11 86 40).toNat))).toNat r13))))) ∧ (¬ (¬ ((am_upd U13 108 (w32 ((w32 (16 * (U11 86 40))) + (U11 106 (U11 86 40).toNat))).toNat r13) 107 (w32 ((w32 (16 * (U11 86 40))) + (U11 106 (U11 86 40).toNat))).toNat) = ((am_upd U13 108 (w32 ((w32 (16 * (U11 86 40))) + (U11 106 (U11 86 40).toNat))).toNat r13) 108 (w32 ((w32 (16 * (U11 86 40))) + (U11 106 (U11 86 40).toNat))).toNat)) → ∃ U18 : Nat → Nat → Int, Ev kz (d, 196, 0, [some (.inr (.inr 86)), some (.inl 3), some (.inl ((am_upd U13 108 (w32 ((w32 (16 * (U11 86 40))) + (U11 106 (U11 86 40).toNat))).toNat r13) 86 4))], [], (am_sh, am_mm (am_upd U13 108 (w32 ((w32 (16 * (U11 86 40))) + (U11 106 (U11 86 40).toNat))).toNat r13))) (none, (am_sh, am_mm U18)) ∧ ((((U18 86 8) ≤ 0 : Prop)) → ∃ U19 : Nat → Nat → Int, Ev kz (d, 93, 0, [some (.inr (.inr 86)), none, none, none, none, none], [], (am_sh, am_mm U18)) (none, (am_sh, am_mm U19)) ∧ ∃ (r20 : Int) (U20 : Nat → Nat → Int), Ev kz (d, 268, 0, [some (.inr (.inr 86)), some (.inl 1), some (.inl 9999), none], [], (am_sh, am_mm U19)) (some (.inl r20), (am_sh, am_mm U20)) ∧ (0 ≤ (w32 ((w32 (16 * (U11 86 40))) + (U11 106 (U11 86 40).toNat))) ∧ (w32 ((w32 (16 * (U11 86 40))) + (U11 106 (U11 86 40).toNat))) < 32) ∧ (((¬ ((am_upd U20 109 (w32 ((w32 (16 * (U11 86 40))) + (U11 106 (U11 86 40).toNat))).toNat r20) 86 8) = 0 : Prop)) → R = (none, (am_sh, am_mm (am_upd U20 109 (w32 ((w32 (16 * (U11 86 40))) + (U11 106 (U11 86 40).toNat))).toNat r20)))) ∧ (¬ (¬ ((am_upd U20 109 (w32 ((w32 (16 * (U11 86 40))) + (U11 106 (U11 86 40).toNat))).toNat r20) 86 8) = 0) → (0 ≤ ((am_upd U20 109 (w32 ((w32 (16 * (U11 86 40))) + (U11 106 (U11 86 40).toNat))).toNat r20) 86 40) ∧ ((am_upd U20 109 (w32 ((w32 (16 * (U11 86 40))) + (U11 106 (U11 86 40).toNat))).toNat r20) 86 40) < 2) ∧ (0 ≤ ((am_upd U20 109 (w32 ((w32 (16 * (U11 86 40))) + (U11 106 (U11 86 40).toNat))).toNat r20) 86 40) ∧ ((am_upd U20 109 (w32 ((w32 (16 * (U11 86 40))) + (U11 106 (U11 86 40).toNat))).toNat r20) 86 40) < 2) ∧ R = (none, (am_sh, am_mm (am_upd (am_upd U20 109 (w32 ((w32 (16 * (U11 86 40))) + (U11 106 (U11 86 40).toNat))).toNat r20) 106 ((am_upd U20 109 (w32 ((w32 (16 * (U11 86 40))) + (U11 106 (U11 86 40).toNat))).toNat r20) 86 40).toNat (w32 (((am_upd U20 109 (w32 ((w32 (16 * (U11 86 40))) + (U11 106 (U11 86 40).toNat))).toNat r20) 106 ((am_upd U20 109 (w32 ((w32 (16 * (U11 86 40))) + (U11 106 (U11 86 40).toNat))).toNat r20) 86 40).toNat) + 1))))))) ∧ (¬ ((U18 86 8) ≤ 0) → R = (none, (am_sh, am_mm U18)))))) ∧ (¬ (¬ r11 = 0) → R = (none, (am_sh, am_mm U11))))) : Ev kz ((d + 1), 194, 0, [some (.inr (.inr 86)), none], [], (am_sh, am_mm U)) R := by
  refine ev_seg (σ1 := ((d + 1), 194, 9, [some (.inr (.inr 86)), none], [.inl (U 86 40), .inr (.inr 106), .inr (.inr 86)], (am_sh, am_mm U))) 5 (fun _ => rfl) ?_
  refine eu_iald 106 (n := 2) rfl (by decide) rfl (fun _ => rfl) h.1 ?_
  have ha := h.2
  refine ev_br (P := ¬ (U 106 (U 86 40).toNat) = 16) (σ1 := ((d + 1), 194, 19, [some (.inr (.inr 86)), none], [.inr (.inr 86)], (am_sh, am_mm U))) (σ2 := ((d + 1), 194, 15, [some (.inr (.inr 86)), none], [.inr (.inr 86)], (am_sh, am_mm U))) 2 (fun _ => rfl) (fun hc => ?_) (fun hc => ?_)
  · have ha1 := ha.1 hc
    refine ev_seg (σ1 := ((d + 1), 194, 20, [some (.inr (.inr 86)), none], [.inl 0, .inr (.inr 86)], (am_sh, am_mm U))) 1 (fun _ => rfl) ?_
    obtain ⟨r1, U1, ha1c, ha1a⟩ := ha1
    refine ev_cal (σc := (d, 264, 0, [some (.inr (.inr 86)), some (.inl 0)], [], (am_sh, am_mm U))) (fun _ => rfl) ha1c ?_
    show Ev kz ((d + 1), 194, 23, [some (.inr (.inr 86)), none], [.inl r1], (am_sh, am_mm U1)) R
    refine ev_br (P := ¬ r1 = 0) (σ1 := ((d + 1), 194, 27, [some (.inr (.inr 86)), none], [], (am_sh, am_mm U1))) (σ2 := ((d + 1), 194, 26, [some (.inr (.inr 86)), none], [], (am_sh, am_mm U1))) 1 (fun _ => rfl) (fun hc => ?_) (fun hc => ?_)
    · have ha1a1 := ha1a.1 hc
      refine ev_seg (σ1 := ((d + 1), 194, 42, [some (.inr (.inr 86)), none], [.inl (U1 86 40), .inr (.inr 106), .inl (w32 (16 * (U1 86 40)))], (am_sh, am_mm U1))) 8 (fun _ => rfl) ?_
      refine eu_iald 106 (n := 2) rfl (by decide) rfl (fun _ => rfl) ha1a1.1 ?_
      have ha1a1a := ha1a1.2
      refine ev_seg (σ1 := ((d + 1), 194, 52, [some (.inr (.inr 86)), some (.inl (w32 ((w32 (16 * (U1 86 40))) + (U1 106 (U1 86 40).toNat))))], [.inl 1, .inr (.inr 86), .inl (w32 ((w32 (16 * (U1 86 40))) + (U1 106 (U1 86 40).toNat))), .inr (.inr 107)], (am_sh, am_mm U1))) 7 (fun _ => rfl) ?_
      obtain ⟨r2, U2, ha1a1ac, ha1a1aa⟩ := ha1a1a
      refine ev_cal (σc := (d, 267, 0, [some (.inr (.inr 86)), some (.inl 1), none], [], (am_sh, am_mm U1))) (fun _ => rfl) ha1a1ac ?_
      show Ev kz ((d + 1), 194, 55, [some (.inr (.inr 86)), some (.inl (w32 ((w32 (16 * (U1 86 40))) + (U1 106 (U1 86 40).toNat))))], [.inl r2, .inl (w32 ((w32 (16 * (U1 86 40))) + (U1 106 (U1 86 40).toNat))), .inr (.inr 107)], (am_sh, am_mm U2)) R
      refine eu_iast 107 (n := 32) rfl (by decide) rfl (fun _ => rfl) ha1a1aa.1 ?_
      have ha1a1aaa := ha1a1aa.2
      refine ev_seg (σ1 := ((d + 1), 194, 63, [some (.inr (.inr 86)), some (.inl (w32 ((w32 (16 * (U1 86 40))) + (U1 106 (U1 86 40).toNat))))], [.inl 1, .inr (.inr 86), .inl (w32 ((w32 (16 * (U1 86 40))) + (U1 106 (U1 86 40).toNat))), .inr (.inr 108)], (am_sh, am_mm (am_upd U2 107 (w32 ((w32 (16 * (U1 86 40))) + (U1 106 (U1 86 40).toNat))).toNat r2)))) 5 (fun _ => rfl) ?_
      obtain ⟨r3, U3, ha1a1aaac, ha1a1aaaa⟩ := ha1a1aaa
      refine ev_cal (σc := (d, 269, 0, [some (.inr (.inr 86)), some (.inl 1), none], [], (am_sh, am_mm (am_upd U2 107 (w32 ((w32 (16 * (U1 86 40))) + (U1 106 (U1 86 40).toNat))).toNat r2)))) (fun _ => rfl) ha1a1aaac ?_
      show Ev kz ((d + 1), 194, 66, [some (.inr (.inr 86)), some (.inl (w32 ((w32 (16 * (U1 86 40))) + (U1 106 (U1 86 40).toNat))))], [.inl r3, .inl (w32 ((w32 (16 * (U1 86 40))) + (U1 106 (U1 86 40).toNat))), .inr (.inr 108)], (am_sh, am_mm U3)) R
      refine eu_iast 108 (n := 32) rfl (by decide) rfl (fun _ => rfl) ha1a1aaaa.1 ?_
      have ha1a1aaaaa := ha1a1aaaa.2
      refine ev_br (P := ¬ ((am_upd U3 108 (w32 ((w32 (16 * (U1 86 40))) + (U1 106 (U1 86 40).toNat))).toNat r3) 86 8) = 0) (σ1 := ((d + 1), 194, 98, [some (.inr (.inr 86)), some (.inl (w32 ((w32 (16 * (U1 86 40))) + (U1 106 (U1 86 40).toNat))))], [], (am_sh, am_mm (am_upd U3 108 (w32 ((w32 (16 * (U1 86 40))) + (U1 106 (U1 86 40).toNat))).toNat r3)))) (σ2 := ((d + 1), 194, 74, [some (.inr (.inr 86)), some (.inl (w32 ((w32 (16 * (U1 86 40))) + (U1 106 (U1 86 40).toNat))))], [], (am_sh, am_mm (am_upd U3 108 (w32 ((w32 (16 * (U1 86 40))) + (U1 106 (U1 86 40).toNat))).toNat r3)))) 3 (fun _ => rfl) (fun hc => ?_) (fun hc => ?_)
      · have ha1a1aaaaa1 := ha1a1aaaaa.1 hc
        refine ev_br (P := ((am_upd U3 108 (w32 ((w32 (16 * (U1 86 40))) + (U1 106 (U1 86 40).toNat))).toNat r3) 86 8) ≤ 0) (σ1 := ((d + 1), 194, 106, [some (.inr (.inr 86)), some (.inl (w32 ((w32 (16 * (U1 86 40))) + (U1 106 (U1 86 40).toNat))))], [], (am_sh, am_mm (am_upd U3 108 (w32 ((w32 (16 * (U1 86 40))) + (U1 106 (U1 86 40).toNat))).toNat r3)))) (σ2 := ((d + 1), 194, 105, [some (.inr (.inr 86)), some (.inl (w32 ((w32 (16 * (U1 86 40))) + (U1 106 (U1 86 40).toNat))))], [], (am_sh, am_mm (am_upd U3 108 (w32 ((w32 (16 * (U1 86 40))) + (U1 106 (U1 86 40).toNat))).toNat r3)))) 3 (fun _ => rfl) (fun hc => ?_) (fun hc => ?_)
        · have ha1a1aaaaa11 := ha1a1aaaaa1.1 hc
          refine ev_seg (σ1 := ((d + 1), 194, 107, [some (.inr (.inr 86)), some (.inl (w32 ((w32 (16 * (U1 86 40))) + (U1 106 (U1 86 40).toNat))))], [.inr (.inr 86)], (am_sh, am_mm (am_upd U3 108 (w32 ((w32 (16 * (U1 86 40))) + (U1 106 (U1 86 40).toNat))).toNat r3)))) 1 (fun _ => rfl) ?_
          obtain ⟨U4, ha1a1aaaaa11c, ha1a1aaaaa11a⟩ := ha1a1aaaaa11
          refine ev_cal (σc := (d, 93, 0, [some (.inr (.inr 86)), none, none, none, none, none], [], (am_sh, am_mm (am_upd U3 108 (w32 ((w32 (16 * (U1 86 40))) + (U1 106 (U1 86 40).toNat))).toNat r3)))) (fun _ => rfl) ha1a1aaaaa11c ?_
          show Ev kz ((d + 1), 194, 110, [some (.inr (.inr 86)), some (.inl (w32 ((w32 (16 * (U1 86 40))) + (U1 106 (U1 86 40).toNat))))], [], (am_sh, am_mm U4)) R
          refine ev_seg (σ1 := ((d + 1), 194, 120, [some (.inr (.inr 86)), some (.inl (w32 ((w32 (16 * (U1 86 40))) + (U1 106 (U1 86 40).toNat))))], [.inl 9999, .inl 1, .inr (.inr 86), .inl (w32 ((w32 (16 * (U1 86 40))) + (U1 106 (U1 86 40).toNat))), .inr (.inr 109)], (am_sh, am_mm U4))) 6 (fun _ => rfl) ?_
          obtain ⟨r5, U5, ha1a1aaaaa11ac, ha1a1aaaaa11aa⟩ := ha1a1aaaaa11a
          refine ev_cal (σc := (d, 268, 0, [some (.inr (.inr 86)), some (.inl 1), some (.inl 9999), none], [], (am_sh, am_mm U4))) (fun _ => rfl) ha1a1aaaaa11ac ?_
          show Ev kz ((d + 1), 194, 123, [some (.inr (.inr 86)), some (.inl (w32 ((w32 (16 * (U1 86 40))) + (U1 106 (U1 86 40).toNat))))], [.inl r5, .inl (w32 ((w32 (16 * (U1 86 40))) + (U1 106 (U1 86 40).toNat))), .inr (.inr 109)], (am_sh, am_mm U5)) R
          refine eu_iast 109 (n := 32) rfl (by decide) rfl (fun _ => rfl) ha1a1aaaaa11aa.1 ?_
          have ha1a1aaaaa11aaa := ha1a1aaaaa11aa.2
          refine ev_br (P := ¬ ((am_upd U5 109 (w32 ((w32 (16 * (U1 86 40))) + (U1 106 (U1 86 40).toNat))).toNat r5) 86 8) = 0) (σ1 := ((d + 1), 194, 144, [some (.inr (.inr 86)), some (.inl (w32 ((w32 (16 * (U1 86 40))) + (U1 106 (U1 86 40).toNat))))], [], (am_sh, am_mm (am_upd U5 109 (w32 ((w32 (16 * (U1 86 40))) + (U1 106 (U1 86 40).toNat))).toNat r5)))) (σ2 := ((d + 1), 194, 131, [some (.inr (.inr 86)), some (.inl (w32 ((w32 (16 * (U1 86 40))) + (U1 106 (U1 86 40).toNat))))], [], (am_sh, am_mm (am_upd U5 109 (w32 ((w32 (16 * (U1 86 40))) + (U1 106 (U1 86 40).toNat))).toNat r5)))) 3 (fun _ => rfl) (fun hc => ?_) (fun hc => ?_)
          · have ha1a1aaaaa11aaa1 := ha1a1aaaaa11aaa.1 hc
            subst ha1a1aaaaa11aaa1
            exact ev_end 1 (fun _ => rfl)
          · have ha1a1aaaaa11aaa2 := ha1a1aaaaa11aaa.2 hc
            refine ev_seg (σ1 := ((d + 1), 194, 140, [some (.inr (.inr 86)), some (.inl (w32 ((w32 (16 * (U1 86 40))) + (U1 106 (U1 86 40).toNat))))], [.inl ((am_upd U5 109 (w32 ((w32 (16 * (U1 86 40))) + (U1 106 (U1 86 40).toNat))).toNat r5) 86 40), .inr (.inr 106), .inl ((am_upd U5 109 (w32 ((w32 (16 * (U1 86 40))) + (U1 106 (U1 86 40).toNat))).toNat r5) 86 40), .inr (.inr 106)], (am_sh, am_mm (am_upd U5 109 (w32 ((w32 (16 * (U1 86 40))) + (U1 106 (U1 86 40).toNat))).toNat r5)))) 5 (fun _ => rfl) ?_
            refine eu_iald 106 (n := 2) rfl (by decide) rfl (fun _ => rfl) ha1a1aaaaa11aaa2.1 ?_
            have ha1a1aaaaa11aaa2a := ha1a1aaaaa11aaa2.2
            refine ev_seg (σ1 := ((d + 1), 194, 143, [some (.inr (.inr 86)), some (.inl (w32 ((w32 (16 * (U1 86 40))) + (U1 106 (U1 86 40).toNat))))], [.inl (w32 (((am_upd U5 109 (w32 ((w32 (16 * (U1 86 40))) + (U1 106 (U1 86 40).toNat))).toNat r5) 106 ((am_upd U5 109 (w32 ((w32 (16 * (U1 86 40))) + (U1 106 (U1 86 40).toNat))).toNat r5) 86 40).toNat) + 1)), .inl ((am_upd U5 109 (w32 ((w32 (16 * (U1 86 40))) + (U1 106 (U1 86 40).toNat))).toNat r5) 86 40), .inr (.inr 106)], (am_sh, am_mm (am_upd U5 109 (w32 ((w32 (16 * (U1 86 40))) + (U1 106 (U1 86 40).toNat))).toNat r5)))) 2 (fun _ => rfl) ?_
            refine eu_iast 106 (n := 2) rfl (by decide) rfl (fun _ => rfl) ha1a1aaaaa11aaa2a.1 ?_
            have ha1a1aaaaa11aaa2aa := ha1a1aaaaa11aaa2a.2
            subst ha1a1aaaaa11aaa2aa
            exact ev_end 1 (fun _ => rfl)
        · have ha1a1aaaaa12 := ha1a1aaaaa1.2 hc
          subst ha1a1aaaaa12
          exact ev_end 1 (fun _ => rfl)
      · have ha1a1aaaaa2 := ha1a1aaaaa.2 hc
        refine ev_seg (σ1 := ((d + 1), 194, 79, [some (.inr (.inr 86)), some (.inl (w32 ((w32 (16 * (U1 86 40))) + (U1 106 (U1 86 40).toNat))))], [.inl (w32 ((w32 (16 * (U1 86 40))) + (U1 106 (U1 86 40).toNat))), .inr (.inr 107)], (am_sh, am_mm (am_upd U3 108 (w32 ((w32 (16 * (U1 86 40))) + (U1 106 (U1 86 40).toNat))).toNat r3)))) 3 (fun _ => rfl) ?_
        refine eu_iald 107 (n := 32) rfl (by decide) rfl (fun _ => rfl) ha1a1aaaaa2.1 ?_
        have ha1a1aaaaa2a := ha1a1aaaaa2.2
        refine ev_seg (σ1 := ((d + 1), 194, 85, [some (.inr (.inr 86)), some (.inl (w32 ((w32 (16 * (U1 86 40))) + (U1 106 (U1 86 40).toNat))))], [.inl (w32 ((w32 (16 * (U1 86 40))) + (U1 106 (U1 86 40).toNat))), .inr (.inr 108), .inl ((am_upd U3 108 (w32 ((w32 (16 * (U1 86 40))) + (U1 106 (U1 86 40).toNat))).toNat r3) 107 (w32 ((w32 (16 * (U1 86 40))) + (U1 106 (U1 86 40).toNat))).toNat)], (am_sh, am_mm (am_upd U3 108 (w32 ((w32 (16 * (U1 86 40))) + (U1 106 (U1 86 40).toNat))).toNat r3)))) 3 (fun _ => rfl) ?_
        refine eu_iald 108 (n := 32) rfl (by decide) rfl (fun _ => rfl) ha1a1aaaaa2a.1 ?_
        have ha1a1aaaaa2aa := ha1a1aaaaa2a.2
        refine ev_br (P := ¬ ((am_upd U3 108 (w32 ((w32 (16 * (U1 86 40))) + (U1 106 (U1 86 40).toNat))).toNat r3) 107 (w32 ((w32 (16 * (U1 86 40))) + (U1 106 (U1 86 40).toNat))).toNat) = ((am_upd U3 108 (w32 ((w32 (16 * (U1 86 40))) + (U1 106 (U1 86 40).toNat))).toNat r3) 108 (w32 ((w32 (16 * (U1 86 40))) + (U1 106 (U1 86 40).toNat))).toNat)) (σ1 := ((d + 1), 194, 98, [some (.inr (.inr 86)), some (.inl (w32 ((w32 (16 * (U1 86 40))) + (U1 106 (U1 86 40).toNat))))], [], (am_sh, am_mm (am_upd U3 108 (w32 ((w32 (16 * (U1 86 40))) + (U1 106 (U1 86 40).toNat))).toNat r3)))) (σ2 := ((d + 1), 194, 89, [some (.inr (.inr 86)), some (.inl (w32 ((w32 (16 * (U1 86 40))) + (U1 106 (U1 86 40).toNat))))], [], (am_sh, am_mm (am_upd U3 108 (w32 ((w32 (16 * (U1 86 40))) + (U1 106 (U1 86 40).toNat))).toNat r3)))) 1 (fun _ => rfl) (fun hc => ?_) (fun hc => ?_)
        · have ha1a1aaaaa2aa1 := ha1a1aaaaa2aa.1 hc
          refine ev_br (P := ((am_upd U3 108 (w32 ((w32 (16 * (U1 86 40))) + (U1 106 (U1 86 40).toNat))).toNat r3) 86 8) ≤ 0) (σ1 := ((d + 1), 194, 106, [some (.inr (.inr 86)), some (.inl (w32 ((w32 (16 * (U1 86 40))) + (U1 106 (U1 86 40).toNat))))], [], (am_sh, am_mm (am_upd U3 108 (w32 ((w32 (16 * (U1 86 40))) + (U1 106 (U1 86 40).toNat))).toNat r3)))) (σ2 := ((d + 1), 194, 105, [some (.inr (.inr 86)), some (.inl (w32 ((w32 (16 * (U1 86 40))) + (U1 106 (U1 86 40).toNat))))], [], (am_sh, am_mm (am_upd U3 108 (w32 ((w32 (16 * (U1 86 40))) + (U1 106 (U1 86 40).toNat))).toNat r3)))) 3 (fun _ => rfl) (fun hc => ?_) (fun hc => ?_)
          · have ha1a1aaaaa2aa11 := ha1a1aaaaa2aa1.1 hc
            refine ev_seg (σ1 := ((d + 1), 194, 107, [some (.inr (.inr 86)), some (.inl (w32 ((w32 (16 * (U1 86 40))) + (U1 106 (U1 86 40).toNat))))], [.inr (.inr 86)], (am_sh, am_mm (am_upd U3 108 (w32 ((w32 (16 * (U1 86 40))) + (U1 106 (U1 86 40).toNat))).toNat r3)))) 1 (fun _ => rfl) ?_
            obtain ⟨U6, ha1a1aaaaa2aa11c, ha1a1aaaaa2aa11a⟩ := ha1a1aaaaa2aa11
            refine ev_cal (σc := (d, 93, 0, [some (.inr (.inr 86)), none, none, none, none, none], [], (am_sh, am_mm (am_upd U3 108 (w32 ((w32 (16 * (U1 86 40))) + (U1 106 (U1 86 40).toNat))).toNat r3)))) (fun _ => rfl) ha1a1aaaaa2aa11c ?_
            show Ev kz ((d + 1), 194, 110, [some (.inr (.inr 86)), some (.inl (w32 ((w32 (16 * (U1 86 40))) + (U1 106 (U1 86 40).toNat))))], [], (am_sh, am_mm U6)) R
            refine ev_seg (σ1 := ((d + 1), 194, 120, [some (.inr (.inr 86)), some (.inl (w32 ((w32 (16 * (U1 86 40))) + (U1 106 (U1 86 40).toNat))))], [.inl 9999, .inl 1, .inr (.inr 86), .inl (w32 ((w32 (16 * (U1 86 40))) + (U1 106 (U1 86 40).toNat))), .inr (.inr 109)], (am_sh, am_mm U6))) 6 (fun _ => rfl) ?_
            obtain ⟨r7, U7, ha1a1aaaaa2aa11ac, ha1a1aaaaa2aa11aa⟩ := ha1a1aaaaa2aa11a
            refine ev_cal (σc := (d, 268, 0, [some (.inr (.inr 86)), some (.inl 1), some (.inl 9999), none], [], (am_sh, am_mm U6))) (fun _ => rfl) ha1a1aaaaa2aa11ac ?_
            show Ev kz ((d + 1), 194, 123, [some (.inr (.inr 86)), some (.inl (w32 ((w32 (16 * (U1 86 40))) + (U1 106 (U1 86 40).toNat))))], [.inl r7, .inl (w32 ((w32 (16 * (U1 86 40))) + (U1 106 (U1 86 40).toNat))), .inr (.inr 109)], (am_sh, am_mm U7)) R
            refine eu_iast 109 (n := 32) rfl (by decide) rfl (fun _ => rfl) ha1a1aaaaa2aa11aa.1 ?_
            have ha1a1aaaaa2aa11aaa := ha1a1aaaaa2aa11aa.2
            refine ev_br (P := ¬ ((am_upd U7 109 (w32 ((w32 (16 * (U1 86 40))) + (U1 106 (U1 86 40).toNat))).toNat r7) 86 8) = 0) (σ1 := ((d + 1), 194, 144, [some (.inr (.inr 86)), some (.inl (w32 ((w32 (16 * (U1 86 40))) + (U1 106 (U1 86 40).toNat))))], [], (am_sh, am_mm (am_upd U7 109 (w32 ((w32 (16 * (U1 86 40))) + (U1 106 (U1 86 40).toNat))).toNat r7)))) (σ2 := ((d + 1), 194, 131, [some (.inr (.inr 86)), some (.inl (w32 ((w32 (16 * (U1 86 40))) + (U1 106 (U1 86 40).toNat))))], [], (am_sh, am_mm (am_upd U7 109 (w32 ((w32 (16 * (U1 86 40))) + (U1 106 (U1 86 40).toNat))).toNat r7)))) 3 (fun _ => rfl) (fun hc => ?_) (fun hc => ?_)
            · have ha1a1aaaaa2aa11aaa1 := ha1a1aaaaa2aa11aaa.1 hc
              subst ha1a1aaaaa2aa11aaa1
              exact ev_end 1 (fun _ => rfl)
            · have ha1a1aaaaa2aa11aaa2 := ha1a1aaaaa2aa11aaa.2 hc
              refine ev_seg (σ1 := ((d + 1), 194, 140, [some (.inr (.inr 86)), some (.inl (w32 ((w32 (16 * (U1 86 40))) + (U1 106 (U1 86 40).toNat))))], [.inl ((am_upd U7 109 (w32 ((w32 (16 * (U1 86 40))) + (U1 106 (U1 86 40).toNat))).toNat r7) 86 40), .inr (.inr 106), .inl ((am_upd U7 109 (w32 ((w32 (16 * (U1 86 40))) + (U1 106 (U1 86 40).toNat))).toNat r7) 86 40), .inr (.inr 106)], (am_sh, am_mm (am_upd U7 109 (w32 ((w32 (16 * (U1 86 40))) + (U1 106 (U1 86 40).toNat))).toNat r7)))) 5 (fun _ => rfl) ?_
              refine eu_iald 106 (n := 2) rfl (by decide) rfl (fun _ => rfl) ha1a1aaaaa2aa11aaa2.1 ?_
              have ha1a1aaaaa2aa11aaa2a := ha1a1aaaaa2aa11aaa2.2
              refine ev_seg (σ1 := ((d + 1), 194, 143, [some (.inr (.inr 86)), some (.inl (w32 ((w32 (16 * (U1 86 40))) + (U1 106 (U1 86 40).toNat))))], [.inl (w32 (((am_upd U7 109 (w32 ((w32 (16 * (U1 86 40))) + (U1 106 (U1 86 40).toNat))).toNat r7) 106 ((am_upd U7 109 (w32 ((w32 (16 * (U1 86 40))) + (U1 106 (U1 86 40).toNat))).toNat r7) 86 40).toNat) + 1)), .inl ((am_upd U7 109 (w32 ((w32 (16 * (U1 86 40))) + (U1 106 (U1 86 40).toNat))).toNat r7) 86 40), .inr (.inr 106)], (am_sh, am_mm (am_upd U7 109 (w32 ((w32 (16 * (U1 86 40))) + (U1 106 (U1 86 40).toNat))).toNat r7)))) 2 (fun _ => rfl) ?_
              refine eu_iast 106 (n := 2) rfl (by decide) rfl (fun _ => rfl) ha1a1aaaaa2aa11aaa2a.1 ?_
              have ha1a1aaaaa2aa11aaa2aa := ha1a1aaaaa2aa11aaa2a.2
              subst ha1a1aaaaa2aa11aaa2aa
              exact ev_end 1 (fun _ => rfl)
          · have ha1a1aaaaa2aa12 := ha1a1aaaaa2aa1.2 hc
            subst ha1a1aaaaa2aa12
            exact ev_end 1 (fun _ => rfl)
        · have ha1a1aaaaa2aa2 := ha1a1aaaaa2aa.2 hc
          refine ev_seg (σ1 := ((d + 1), 194, 95, [some (.inr (.inr 86)), some (.inl (w32 ((w32 (16 * (U1 86 40))) + (U1 106 (U1 86 40).toNat))))], [.inl ((am_upd U3 108 (w32 ((w32 (16 * (U1 86 40))) + (U1 106 (U1 86 40).toNat))).toNat r3) 86 4), .inl 3, .inr (.inr 86)], (am_sh, am_mm (am_upd U3 108 (w32 ((w32 (16 * (U1 86 40))) + (U1 106 (U1 86 40).toNat))).toNat r3)))) 4 (fun _ => rfl) ?_
          obtain ⟨U8, ha1a1aaaaa2aa2c, ha1a1aaaaa2aa2a⟩ := ha1a1aaaaa2aa2
          refine ev_cal (σc := (d, 196, 0, [some (.inr (.inr 86)), some (.inl 3), some (.inl ((am_upd U3 108 (w32 ((w32 (16 * (U1 86 40))) + (U1 106 (U1 86 40).toNat))).toNat r3) 86 4))], [], (am_sh, am_mm (am_upd U3 108 (w32 ((w32 (16 * (U1 86 40))) + (U1 106 (U1 86 40).toNat))).toNat r3)))) (fun _ => rfl) ha1a1aaaaa2aa2c ?_
          show Ev kz ((d + 1), 194, 98, [some (.inr (.inr 86)), some (.inl (w32 ((w32 (16 * (U1 86 40))) + (U1 106 (U1 86 40).toNat))))], [], (am_sh, am_mm U8)) R
          refine ev_br (P := (U8 86 8) ≤ 0) (σ1 := ((d + 1), 194, 106, [some (.inr (.inr 86)), some (.inl (w32 ((w32 (16 * (U1 86 40))) + (U1 106 (U1 86 40).toNat))))], [], (am_sh, am_mm U8))) (σ2 := ((d + 1), 194, 105, [some (.inr (.inr 86)), some (.inl (w32 ((w32 (16 * (U1 86 40))) + (U1 106 (U1 86 40).toNat))))], [], (am_sh, am_mm U8))) 3 (fun _ => rfl) (fun hc => ?_) (fun hc => ?_)
          · have ha1a1aaaaa2aa2a1 := ha1a1aaaaa2aa2a.1 hc
            refine ev_seg (σ1 := ((d + 1), 194, 107, [some (.inr (.inr 86)), some (.inl (w32 ((w32 (16 * (U1 86 40))) + (U1 106 (U1 86 40).toNat))))], [.inr (.inr 86)], (am_sh, am_mm U8))) 1 (fun _ => rfl) ?_
            obtain ⟨U9, ha1a1aaaaa2aa2a1c, ha1a1aaaaa2aa2a1a⟩ := ha1a1aaaaa2aa2a1
            refine ev_cal (σc := (d, 93, 0, [some (.inr (.inr 86)), none, none, none, none, none], [], (am_sh, am_mm U8))) (fun _ => rfl) ha1a1aaaaa2aa2a1c ?_
            show Ev kz ((d + 1), 194, 110, [some (.inr (.inr 86)), some (.inl (w32 ((w32 (16 * (U1 86 40))) + (U1 106 (U1 86 40).toNat))))], [], (am_sh, am_mm U9)) R
            refine ev_seg (σ1 := ((d + 1), 194, 120, [some (.inr (.inr 86)), some (.inl (w32 ((w32 (16 * (U1 86 40))) + (U1 106 (U1 86 40).toNat))))], [.inl 9999, .inl 1, .inr (.inr 86), .inl (w32 ((w32 (16 * (U1 86 40))) + (U1 106 (U1 86 40).toNat))), .inr (.inr 109)], (am_sh, am_mm U9))) 6 (fun _ => rfl) ?_
            obtain ⟨r10, U10, ha1a1aaaaa2aa2a1ac, ha1a1aaaaa2aa2a1aa⟩ := ha1a1aaaaa2aa2a1a
            refine ev_cal (σc := (d, 268, 0, [some (.inr (.inr 86)), some (.inl 1), some (.inl 9999), none], [], (am_sh, am_mm U9))) (fun _ => rfl) ha1a1aaaaa2aa2a1ac ?_
            show Ev kz ((d + 1), 194, 123, [some (.inr (.inr 86)), some (.inl (w32 ((w32 (16 * (U1 86 40))) + (U1 106 (U1 86 40).toNat))))], [.inl r10, .inl (w32 ((w32 (16 * (U1 86 40))) + (U1 106 (U1 86 40).toNat))), .inr (.inr 109)], (am_sh, am_mm U10)) R
            refine eu_iast 109 (n := 32) rfl (by decide) rfl (fun _ => rfl) ha1a1aaaaa2aa2a1aa.1 ?_
            have ha1a1aaaaa2aa2a1aaa := ha1a1aaaaa2aa2a1aa.2
            refine ev_br (P := ¬ ((am_upd U10 109 (w32 ((w32 (16 * (U1 86 40))) + (U1 106 (U1 86 40).toNat))).toNat r10) 86 8) = 0) (σ1 := ((d + 1), 194, 144, [some (.inr (.inr 86)), some (.inl (w32 ((w32 (16 * (U1 86 40))) + (U1 106 (U1 86 40).toNat))))], [], (am_sh, am_mm (am_upd U10 109 (w32 ((w32 (16 * (U1 86 40))) + (U1 106 (U1 86 40).toNat))).toNat r10)))) (σ2 := ((d + 1), 194, 131, [some (.inr (.inr 86)), some (.inl (w32 ((w32 (16 * (U1 86 40))) + (U1 106 (U1 86 40).toNat))))], [], (am_sh, am_mm (am_upd U10 109 (w32 ((w32 (16 * (U1 86 40))) + (U1 106 (U1 86 40).toNat))).toNat r10)))) 3 (fun _ => rfl) (fun hc => ?_) (fun hc => ?_)
            · have ha1a1aaaaa2aa2a1aaa1 := ha1a1aaaaa2aa2a1aaa.1 hc
              subst ha1a1aaaaa2aa2a1aaa1
              exact ev_end 1 (fun _ => rfl)
            · have ha1a1aaaaa2aa2a1aaa2 := ha1a1aaaaa2aa2a1aaa.2 hc
              refine ev_seg (σ1 := ((d + 1), 194, 140, [some (.inr (.inr 86)), some (.inl (w32 ((w32 (16 * (U1 86 40))) + (U1 106 (U1 86 40).toNat))))], [.inl ((am_upd U10 109 (w32 ((w32 (16 * (U1 86 40))) + (U1 106 (U1 86 40).toNat))).toNat r10) 86 40), .inr (.inr 106), .inl ((am_upd U10 109 (w32 ((w32 (16 * (U1 86 40))) + (U1 106 (U1 86 40).toNat))).toNat r10) 86 40), .inr (.inr 106)], (am_sh, am_mm (am_upd U10 109 (w32 ((w32 (16 * (U1 86 40))) + (U1 106 (U1 86 40).toNat))).toNat r10)))) 5 (fun _ => rfl) ?_
              refine eu_iald 106 (n := 2) rfl (by decide) rfl (fun _ => rfl) ha1a1aaaaa2aa2a1aaa2.1 ?_
              have ha1a1aaaaa2aa2a1aaa2a := ha1a1aaaaa2aa2a1aaa2.2
              refine ev_seg (σ1 := ((d + 1), 194, 143, [some (.inr (.inr 86)), some (.inl (w32 ((w32 (16 * (U1 86 40))) + (U1 106 (U1 86 40).toNat))))], [.inl (w32 (((am_upd U10 109 (w32 ((w32 (16 * (U1 86 40))) + (U1 106 (U1 86 40).toNat))).toNat r10) 106 ((am_upd U10 109 (w32 ((w32 (16 * (U1 86 40))) + (U1 106 (U1 86 40).toNat))).toNat r10) 86 40).toNat) + 1)), .inl ((am_upd U10 109 (w32 ((w32 (16 * (U1 86 40))) + (U1 106 (U1 86 40).toNat))).toNat r10) 86 40), .inr (.inr 106)], (am_sh, am_mm (am_upd U10 109 (w32 ((w32 (16 * (U1 86 40))) + (U1 106 (U1 86 40).toNat))).toNat r10)))) 2 (fun _ => rfl) ?_
              refine eu_iast 106 (n := 2) rfl (by decide) rfl (fun _ => rfl) ha1a1aaaaa2aa2a1aaa2a.1 ?_
              have ha1a1aaaaa2aa2a1aaa2aa := ha1a1aaaaa2aa2a1aaa2a.2
              subst ha1a1aaaaa2aa2a1aaa2aa
              exact ev_end 1 (fun _ => rfl)
          · have ha1a1aaaaa2aa2a2 := ha1a1aaaaa2aa2a.2 hc
            subst ha1a1aaaaa2aa2a2
            exact ev_end 1 (fun _ => rfl)
    · have ha1a2 := ha1a.2 hc
      subst ha1a2
      exact ev_end 1 (fun _ => rfl)
  · have ha2 := ha.2 hc
    refine ev_seg (σ1 := ((d + 1), 194, 20, [some (.inr (.inr 86)), none], [.inl 1, .inr (.inr 86)], (am_sh, am_mm U))) 2 (fun _ => rfl) ?_
    obtain ⟨r11, U11, ha2c, ha2a⟩ := ha2
    refine ev_cal (σc := (d, 264, 0, [some (.inr (.inr 86)), some (.inl 1)], [], (am_sh, am_mm U))) (fun _ => rfl) ha2c ?_
    show Ev kz ((d + 1), 194, 23, [some (.inr (.inr 86)), none], [.inl r11], (am_sh, am_mm U11)) R
    refine ev_br (P := ¬ r11 = 0) (σ1 := ((d + 1), 194, 27, [some (.inr (.inr 86)), none], [], (am_sh, am_mm U11))) (σ2 := ((d + 1), 194, 26, [some (.inr (.inr 86)), none], [], (am_sh, am_mm U11))) 1 (fun _ => rfl) (fun hc => ?_) (fun hc => ?_)
    · have ha2a1 := ha2a.1 hc
      refine ev_seg (σ1 := ((d + 1), 194, 42, [some (.inr (.inr 86)), none], [.inl (U11 86 40), .inr (.inr 106), .inl (w32 (16 * (U11 86 40)))], (am_sh, am_mm U11))) 8 (fun _ => rfl) ?_
      refine eu_iald 106 (n := 2) rfl (by decide) rfl (fun _ => rfl) ha2a1.1 ?_
      have ha2a1a := ha2a1.2
      refine ev_seg (σ1 := ((d + 1), 194, 52, [some (.inr (.inr 86)), some (.inl (w32 ((w32 (16 * (U11 86 40))) + (U11 106 (U11 86 40).toNat))))], [.inl 1, .inr (.inr 86), .inl (w32 ((w32 (16 * (U11 86 40))) + (U11 106 (U11 86 40).toNat))), .inr (.inr 107)], (am_sh, am_mm U11))) 7 (fun _ => rfl) ?_
      obtain ⟨r12, U12, ha2a1ac, ha2a1aa⟩ := ha2a1a
      refine ev_cal (σc := (d, 267, 0, [some (.inr (.inr 86)), some (.inl 1), none], [], (am_sh, am_mm U11))) (fun _ => rfl) ha2a1ac ?_
      show Ev kz ((d + 1), 194, 55, [some (.inr (.inr 86)), some (.inl (w32 ((w32 (16 * (U11 86 40))) + (U11 106 (U11 86 40).toNat))))], [.inl r12, .inl (w32 ((w32 (16 * (U11 86 40))) + (U11 106 (U11 86 40).toNat))), .inr (.inr 107)], (am_sh, am_mm U12)) R
      refine eu_iast 107 (n := 32) rfl (by decide) rfl (fun _ => rfl) ha2a1aa.1 ?_
      have ha2a1aaa := ha2a1aa.2
      refine ev_seg (σ1 := ((d + 1), 194, 63, [some (.inr (.inr 86)), some (.inl (w32 ((w32 (16 * (U11 86 40))) + (U11 106 (U11 86 40).toNat))))], [.inl 1, .inr (.inr 86), .inl (w32 ((w32 (16 * (U11 86 40))) + (U11 106 (U11 86 40).toNat))), .inr (.inr 108)], (am_sh, am_mm (am_upd U12 107 (w32 ((w32 (16 * (U11 86 40))) + (U11 106 (U11 86 40).toNat))).toNat r12)))) 5 (fun _ => rfl) ?_
      obtain ⟨r13, U13, ha2a1aaac, ha2a1aaaa⟩ := ha2a1aaa
      refine ev_cal (σc := (d, 269, 0, [some (.inr (.inr 86)), some (.inl 1), none], [], (am_sh, am_mm (am_upd U12 107 (w32 ((w32 (16 * (U11 86 40))) + (U11 106 (U11 86 40).toNat))).toNat r12)))) (fun _ => rfl) ha2a1aaac ?_
      show Ev kz ((d + 1), 194, 66, [some (.inr (.inr 86)), some (.inl (w32 ((w32 (16 * (U11 86 40))) + (U11 106 (U11 86 40).toNat))))], [.inl r13, .inl (w32 ((w32 (16 * (U11 86 40))) + (U11 106 (U11 86 40).toNat))), .inr (.inr 108)], (am_sh, am_mm U13)) R
      refine eu_iast 108 (n := 32) rfl (by decide) rfl (fun _ => rfl) ha2a1aaaa.1 ?_
      have ha2a1aaaaa := ha2a1aaaa.2
      refine ev_br (P := ¬ ((am_upd U13 108 (w32 ((w32 (16 * (U11 86 40))) + (U11 106 (U11 86 40).toNat))).toNat r13) 86 8) = 0) (σ1 := ((d + 1), 194, 98, [some (.inr (.inr 86)), some (.inl (w32 ((w32 (16 * (U11 86 40))) + (U11 106 (U11 86 40).toNat))))], [], (am_sh, am_mm (am_upd U13 108 (w32 ((w32 (16 * (U11 86 40))) + (U11 106 (U11 86 40).toNat))).toNat r13)))) (σ2 := ((d + 1), 194, 74, [some (.inr (.inr 86)), some (.inl (w32 ((w32 (16 * (U11 86 40))) + (U11 106 (U11 86 40).toNat))))], [], (am_sh, am_mm (am_upd U13 108 (w32 ((w32 (16 * (U11 86 40))) + (U11 106 (U11 86 40).toNat))).toNat r13)))) 3 (fun _ => rfl) (fun hc => ?_) (fun hc => ?_)
      · have ha2a1aaaaa1 := ha2a1aaaaa.1 hc
        refine ev_br (P := ((am_upd U13 108 (w32 ((w32 (16 * (U11 86 40))) + (U11 106 (U11 86 40).toNat))).toNat r13) 86 8) ≤ 0) (σ1 := ((d + 1), 194, 106, [some (.inr (.inr 86)), some (.inl (w32 ((w32 (16 * (U11 86 40))) + (U11 106 (U11 86 40).toNat))))], [], (am_sh, am_mm (am_upd U13 108 (w32 ((w32 (16 * (U11 86 40))) + (U11 106 (U11 86 40).toNat))).toNat r13)))) (σ2 := ((d + 1), 194, 105, [some (.inr (.inr 86)), some (.inl (w32 ((w32 (16 * (U11 86 40))) + (U11 106 (U11 86 40).toNat))))], [], (am_sh, am_mm (am_upd U13 108 (w32 ((w32 (16 * (U11 86 40))) + (U11 106 (U11 86 40).toNat))).toNat r13)))) 3 (fun _ => rfl) (fun hc => ?_) (fun hc => ?_)
        · have ha2a1aaaaa11 := ha2a1aaaaa1.1 hc
          refine ev_seg (σ1 := ((d + 1), 194, 107, [some (.inr (.inr 86)), some (.inl (w32 ((w32 (16 * (U11 86 40))) + (U11 106 (U11 86 40).toNat))))], [.inr (.inr 86)], (am_sh, am_mm (am_upd U13 108 (w32 ((w32 (16 * (U11 86 40))) + (U11 106 (U11 86 40).toNat))).toNat r13)))) 1 (fun _ => rfl) ?_
          obtain ⟨U14, ha2a1aaaaa11c, ha2a1aaaaa11a⟩ := ha2a1aaaaa11
          refine ev_cal (σc := (d, 93, 0, [some (.inr (.inr 86)), none, none, none, none, none], [], (am_sh, am_mm (am_upd U13 108 (w32 ((w32 (16 * (U11 86 40))) + (U11 106 (U11 86 40).toNat))).toNat r13)))) (fun _ => rfl) ha2a1aaaaa11c ?_
          show Ev kz ((d + 1), 194, 110, [some (.inr (.inr 86)), some (.inl (w32 ((w32 (16 * (U11 86 40))) + (U11 106 (U11 86 40).toNat))))], [], (am_sh, am_mm U14)) R
          refine ev_seg (σ1 := ((d + 1), 194, 120, [some (.inr (.inr 86)), some (.inl (w32 ((w32 (16 * (U11 86 40))) + (U11 106 (U11 86 40).toNat))))], [.inl 9999, .inl 1, .inr (.inr 86), .inl (w32 ((w32 (16 * (U11 86 40))) + (U11 106 (U11 86 40).toNat))), .inr (.inr 109)], (am_sh, am_mm U14))) 6 (fun _ => rfl) ?_
          obtain ⟨r15, U15, ha2a1aaaaa11ac, ha2a1aaaaa11aa⟩ := ha2a1aaaaa11a
          refine ev_cal (σc := (d, 268, 0, [some (.inr (.inr 86)), some (.inl 1), some (.inl 9999), none], [], (am_sh, am_mm U14))) (fun _ => rfl) ha2a1aaaaa11ac ?_
          show Ev kz ((d + 1), 194, 123, [some (.inr (.inr 86)), some (.inl (w32 ((w32 (16 * (U11 86 40))) + (U11 106 (U11 86 40).toNat))))], [.inl r15, .inl (w32 ((w32 (16 * (U11 86 40))) + (U11 106 (U11 86 40).toNat))), .inr (.inr 109)], (am_sh, am_mm U15)) R
          refine eu_iast 109 (n := 32) rfl (by decide) rfl (fun _ => rfl) ha2a1aaaaa11aa.1 ?_
          have ha2a1aaaaa11aaa := ha2a1aaaaa11aa.2
          refine ev_br (P := ¬ ((am_upd U15 109 (w32 ((w32 (16 * (U11 86 40))) + (U11 106 (U11 86 40).toNat))).toNat r15) 86 8) = 0) (σ1 := ((d + 1), 194, 144, [some (.inr (.inr 86)), some (.inl (w32 ((w32 (16 * (U11 86 40))) + (U11 106 (U11 86 40).toNat))))], [], (am_sh, am_mm (am_upd U15 109 (w32 ((w32 (16 * (U11 86 40))) + (U11 106 (U11 86 40).toNat))).toNat r15)))) (σ2 := ((d + 1), 194, 131, [some (.inr (.inr 86)), some (.inl (w32 ((w32 (16 * (U11 86 40))) + (U11 106 (U11 86 40).toNat))))], [], (am_sh, am_mm (am_upd U15 109 (w32 ((w32 (16 * (U11 86 40))) + (U11 106 (U11 86 40).toNat))).toNat r15)))) 3 (fun _ => rfl) (fun hc => ?_) (fun hc => ?_)
          · have ha2a1aaaaa11aaa1 := ha2a1aaaaa11aaa.1 hc
            subst ha2a1aaaaa11aaa1
            exact ev_end 1 (fun _ => rfl)
          · have ha2a1aaaaa11aaa2 := ha2a1aaaaa11aaa.2 hc
            refine ev_seg (σ1 := ((d + 1), 194, 140, [some (.inr (.inr 86)), some (.inl (w32 ((w32 (16 * (U11 86 40))) + (U11 106 (U11 86 40).toNat))))], [.inl ((am_upd U15 109 (w32 ((w32 (16 * (U11 86 40))) + (U11 106 (U11 86 40).toNat))).toNat r15) 86 40), .inr (.inr 106), .inl ((am_upd U15 109 (w32 ((w32 (16 * (U11 86 40))) + (U11 106 (U11 86 40).toNat))).toNat r15) 86 40), .inr (.inr 106)], (am_sh, am_mm (am_upd U15 109 (w32 ((w32 (16 * (U11 86 40))) + (U11 106 (U11 86 40).toNat))).toNat r15)))) 5 (fun _ => rfl) ?_
            refine eu_iald 106 (n := 2) rfl (by decide) rfl (fun _ => rfl) ha2a1aaaaa11aaa2.1 ?_
            have ha2a1aaaaa11aaa2a := ha2a1aaaaa11aaa2.2
            refine ev_seg (σ1 := ((d + 1), 194, 143, [some (.inr (.inr 86)), some (.inl (w32 ((w32 (16 * (U11 86 40))) + (U11 106 (U11 86 40).toNat))))], [.inl (w32 (((am_upd U15 109 (w32 ((w32 (16 * (U11 86 40))) + (U11 106 (U11 86 40).toNat))).toNat r15) 106 ((am_upd U15 109 (w32 ((w32 (16 * (U11 86 40))) + (U11 106 (U11 86 40).toNat))).toNat r15) 86 40).toNat) + 1)), .inl ((am_upd U15 109 (w32 ((w32 (16 * (U11 86 40))) + (U11 106 (U11 86 40).toNat))).toNat r15) 86 40), .inr (.inr 106)], (am_sh, am_mm (am_upd U15 109 (w32 ((w32 (16 * (U11 86 40))) + (U11 106 (U11 86 40).toNat))).toNat r15)))) 2 (fun _ => rfl) ?_
            refine eu_iast 106 (n := 2) rfl (by decide) rfl (fun _ => rfl) ha2a1aaaaa11aaa2a.1 ?_
            have ha2a1aaaaa11aaa2aa := ha2a1aaaaa11aaa2a.2
            subst ha2a1aaaaa11aaa2aa
            exact ev_end 1 (fun _ => rfl)
        · have ha2a1aaaaa12 := ha2a1aaaaa1.2 hc
          subst ha2a1aaaaa12
          exact ev_end 1 (fun _ => rfl)
      · have ha2a1aaaaa2 := ha2a1aaaaa.2 hc
        refine ev_seg (σ1 := ((d + 1), 194, 79, [some (.inr (.inr 86)), some (.inl (w32 ((w32 (16 * (U11 86 40))) + (U11 106 (U11 86 40).toNat))))], [.inl (w32 ((w32 (16 * (U11 86 40))) + (U11 106 (U11 86 40).toNat))), .inr (.inr 107)], (am_sh, am_mm (am_upd U13 108 (w32 ((w32 (16 * (U11 86 40))) + (U11 106 (U11 86 40).toNat))).toNat r13)))) 3 (fun _ => rfl) ?_
        refine eu_iald 107 (n := 32) rfl (by decide) rfl (fun _ => rfl) ha2a1aaaaa2.1 ?_
        have ha2a1aaaaa2a := ha2a1aaaaa2.2
        refine ev_seg (σ1 := ((d + 1), 194, 85, [some (.inr (.inr 86)), some (.inl (w32 ((w32 (16 * (U11 86 40))) + (U11 106 (U11 86 40).toNat))))], [.inl (w32 ((w32 (16 * (U11 86 40))) + (U11 106 (U11 86 40).toNat))), .inr (.inr 108), .inl ((am_upd U13 108 (w32 ((w32 (16 * (U11 86 40))) + (U11 106 (U11 86 40).toNat))).toNat r13) 107 (w32 ((w32 (16 * (U11 86 40))) + (U11 106 (U11 86 40).toNat))).toNat)], (am_sh, am_mm (am_upd U13 108 (w32 ((w32 (16 * (U11 86 40))) + (U11 106 (U11 86 40).toNat))).toNat r13)))) 3 (fun _ => rfl) ?_
        refine eu_iald 108 (n := 32) rfl (by decide) rfl (fun _ => rfl) ha2a1aaaaa2a.1 ?_
        have ha2a1aaaaa2aa := ha2a1aaaaa2a.2
        refine ev_br (P := ¬ ((am_upd U13 108 (w32 ((w32 (16 * (U11 86 40))) + (U11 106 (U11 86 40).toNat))).toNat r13) 107 (w32 ((w32 (16 * (U11 86 40))) + (U11 106 (U11 86 40).toNat))).toNat) = ((am_upd U13 108 (w32 ((w32 (16 * (U11 86 40))) + (U11 106 (U11 86 40).toNat))).toNat r13) 108 (w32 ((w32 (16 * (U11 86 40))) + (U11 106 (U11 86 40).toNat))).toNat)) (σ1 := ((d + 1), 194, 98, [some (.inr (.inr 86)), some (.inl (w32 ((w32 (16 * (U11 86 40))) + (U11 106 (U11 86 40).toNat))))], [], (am_sh, am_mm (am_upd U13 108 (w32 ((w32 (16 * (U11 86 40))) + (U11 106 (U11 86 40).toNat))).toNat r13)))) (σ2 := ((d + 1), 194, 89, [some (.inr (.inr 86)), some (.inl (w32 ((w32 (16 * (U11 86 40))) + (U11 106 (U11 86 40).toNat))))], [], (am_sh, am_mm (am_upd U13 108 (w32 ((w32 (16 * (U11 86 40))) + (U11 106 (U11 86 40).toNat))).toNat r13)))) 1 (fun _ => rfl) (fun hc => ?_) (fun hc => ?_)
        · have ha2a1aaaaa2aa1 := ha2a1aaaaa2aa.1 hc
          refine ev_br (P := ((am_upd U13 108 (w32 ((w32 (16 * (U11 86 40))) + (U11 106 (U11 86 40).toNat))).toNat r13) 86 8) ≤ 0) (σ1 := ((d + 1), 194, 106, [some (.inr (.inr 86)), some (.inl (w32 ((w32 (16 * (U11 86 40))) + (U11 106 (U11 86 40).toNat))))], [], (am_sh, am_mm (am_upd U13 108 (w32 ((w32 (16 * (U11 86 40))) + (U11 106 (U11 86 40).toNat))).toNat r13)))) (σ2 := ((d + 1), 194, 105, [some (.inr (.inr 86)), some (.inl (w32 ((w32 (16 * (U11 86 40))) + (U11 106 (U11 86 40).toNat))))], [], (am_sh, am_mm (am_upd U13 108 (w32 ((w32 (16 * (U11 86 40))) + (U11 106 (U11 86 40).toNat))).toNat r13)))) 3 (fun _ => rfl) (fun hc => ?_) (fun hc => ?_)
          · have ha2a1aaaaa2aa11 := ha2a1aaaaa2aa1.1 hc
            refine ev_seg (σ1 := ((d + 1), 194, 107, [some (.inr (.inr 86)), some (.inl (w32 ((w32 (16 * (U11 86 40))) + (U11 106 (U11 86 40).toNat))))], [.inr (.inr 86)], (am_sh, am_mm (am_upd U13 108 (w32 ((w32 (16 * (U11 86 40))) + (U11 106 (U11 86 40).toNat))).toNat r13)))) 1 (fun _ => rfl) ?_
            obtain ⟨U16, ha2a1aaaaa2aa11c, ha2a1aaaaa2aa11a⟩ := ha2a1aaaaa2aa11
            refine ev_cal (σc := (d, 93, 0, [some (.inr (.inr 86)), none, none, none, none, none], [], (am_sh, am_mm (am_upd U13 108 (w32 ((w32 (16 * (U11 86 40))) + (U11 106 (U11 86 40).toNat))).toNat r13)))) (fun _ => rfl) ha2a1aaaaa2aa11c ?_
            show Ev kz ((d + 1), 194, 110, [some (.inr (.inr 86)), some (.inl (w32 ((w32 (16 * (U11 86 40))) + (U11 106 (U11 86 40).toNat))))], [], (am_sh, am_mm U16)) R
            refine ev_seg (σ1 := ((d + 1), 194, 120, [some (.inr (.inr 86)), some (.inl (w32 ((w32 (16 * (U11 86 40))) + (U11 106 (U11 86 40).toNat))))], [.inl 9999, .inl 1, .inr (.inr 86), .inl (w32 ((w32 (16 * (U11 86 40))) + (U11 106 (U11 86 40).toNat))), .inr (.inr 109)], (am_sh, am_mm U16))) 6 (fun _ => rfl) ?_
            obtain ⟨r17, U17, ha2a1aaaaa2aa11ac, ha2a1aaaaa2aa11aa⟩ := ha2a1aaaaa2aa11a
            refine ev_cal (σc := (d, 268, 0, [some (.inr (.inr 86)), some (.inl 1), some (.inl 9999), none], [], (am_sh, am_mm U16))) (fun _ => rfl) ha2a1aaaaa2aa11ac ?_
            show Ev kz ((d + 1), 194, 123, [some (.inr (.inr 86)), some (.inl (w32 ((w32 (16 * (U11 86 40))) + (U11 106 (U11 86 40).toNat))))], [.inl r17, .inl (w32 ((w32 (16 * (U11 86 40))) + (U11 106 (U11 86 40).toNat))), .inr (.inr 109)], (am_sh, am_mm U17)) R
            refine eu_iast 109 (n := 32) rfl (by decide) rfl (fun _ => rfl) ha2a1aaaaa2aa11aa.1 ?_
            have ha2a1aaaaa2aa11aaa := ha2a1aaaaa2aa11aa.2
            refine ev_br (P := ¬ ((am_upd U17 109 (w32 ((w32 (16 * (U11 86 40))) + (U11 106 (U11 86 40).toNat))).toNat r17) 86 8) = 0) (σ1 := ((d + 1), 194, 144, [some (.inr (.inr 86)), some (.inl (w32 ((w32 (16 * (U11 86 40))) + (U11 106 (U11 86 40).toNat))))], [], (am_sh, am_mm (am_upd U17 109 (w32 ((w32 (16 * (U11 86 40))) + (U11 106 (U11 86 40).toNat))).toNat r17)))) (σ2 := ((d + 1), 194, 131, [some (.inr (.inr 86)), some (.inl (w32 ((w32 (16 * (U11 86 40))) + (U11 106 (U11 86 40).toNat))))], [], (am_sh, am_mm (am_upd U17 109 (w32 ((w32 (16 * (U11 86 40))) + (U11 106 (U11 86 40).toNat))).toNat r17)))) 3 (fun _ => rfl) (fun hc => ?_) (fun hc => ?_)
            · have ha2a1aaaaa2aa11aaa1 := ha2a1aaaaa2aa11aaa.1 hc
              subst ha2a1aaaaa2aa11aaa1
              exact ev_end 1 (fun _ => rfl)
            · have ha2a1aaaaa2aa11aaa2 := ha2a1aaaaa2aa11aaa.2 hc
              refine ev_seg (σ1 := ((d + 1), 194, 140, [some (.inr (.inr 86)), some (.inl (w32 ((w32 (16 * (U11 86 40))) + (U11 106 (U11 86 40).toNat))))], [.inl ((am_upd U17 109 (w32 ((w32 (16 * (U11 86 40))) + (U11 106 (U11 86 40).toNat))).toNat r17) 86 40), .inr (.inr 106), .inl ((am_upd U17 109 (w32 ((w32 (16 * (U11 86 40))) + (U11 106 (U11 86 40).toNat))).toNat r17) 86 40), .inr (.inr 106)], (am_sh, am_mm (am_upd U17 109 (w32 ((w32 (16 * (U11 86 40))) + (U11 106 (U11 86 40).toNat))).toNat r17)))) 5 (fun _ => rfl) ?_
              refine eu_iald 106 (n := 2) rfl (by decide) rfl (fun _ => rfl) ha2a1aaaaa2aa11aaa2.1 ?_
              have ha2a1aaaaa2aa11aaa2a := ha2a1aaaaa2aa11aaa2.2
              refine ev_seg (σ1 := ((d + 1), 194, 143, [some (.inr (.inr 86)), some (.inl (w32 ((w32 (16 * (U11 86 40))) + (U11 106 (U11 86 40).toNat))))], [.inl (w32 (((am_upd U17 109 (w32 ((w32 (16 * (U11 86 40))) + (U11 106 (U11 86 40).toNat))).toNat r17) 106 ((am_upd U17 109 (w32 ((w32 (16 * (U11 86 40))) + (U11 106 (U11 86 40).toNat))).toNat r17) 86 40).toNat) + 1)), .inl ((am_upd U17 109 (w32 ((w32 (16 * (U11 86 40))) + (U11 106 (U11 86 40).toNat))).toNat r17) 86 40), .inr (.inr 106)], (am_sh, am_mm (am_upd U17 109 (w32 ((w32 (16 * (U11 86 40))) + (U11 106 (U11 86 40).toNat))).toNat r17)))) 2 (fun _ => rfl) ?_
              refine eu_iast 106 (n := 2) rfl (by decide) rfl (fun _ => rfl) ha2a1aaaaa2aa11aaa2a.1 ?_
              have ha2a1aaaaa2aa11aaa2aa := ha2a1aaaaa2aa11aaa2a.2
              subst ha2a1aaaaa2aa11aaa2aa
              exact ev_end 1 (fun _ => rfl)
          · have ha2a1aaaaa2aa12 := ha2a1aaaaa2aa1.2 hc
            subst ha2a1aaaaa2aa12
            exact ev_end 1 (fun _ => rfl)
        · have ha2a1aaaaa2aa2 := ha2a1aaaaa2aa.2 hc
          refine ev_seg (σ1 := ((d + 1), 194, 95, [some (.inr (.inr 86)), some (.inl (w32 ((w32 (16 * (U11 86 40))) + (U11 106 (U11 86 40).toNat))))], [.inl ((am_upd U13 108 (w32 ((w32 (16 * (U11 86 40))) + (U11 106 (U11 86 40).toNat))).toNat r13) 86 4), .inl 3, .inr (.inr 86)], (am_sh, am_mm (am_upd U13 108 (w32 ((w32 (16 * (U11 86 40))) + (U11 106 (U11 86 40).toNat))).toNat r13)))) 4 (fun _ => rfl) ?_
          obtain ⟨U18, ha2a1aaaaa2aa2c, ha2a1aaaaa2aa2a⟩ := ha2a1aaaaa2aa2
          refine ev_cal (σc := (d, 196, 0, [some (.inr (.inr 86)), some (.inl 3), some (.inl ((am_upd U13 108 (w32 ((w32 (16 * (U11 86 40))) + (U11 106 (U11 86 40).toNat))).toNat r13) 86 4))], [], (am_sh, am_mm (am_upd U13 108 (w32 ((w32 (16 * (U11 86 40))) + (U11 106 (U11 86 40).toNat))).toNat r13)))) (fun _ => rfl) ha2a1aaaaa2aa2c ?_
          show Ev kz ((d + 1), 194, 98, [some (.inr (.inr 86)), some (.inl (w32 ((w32 (16 * (U11 86 40))) + (U11 106 (U11 86 40).toNat))))], [], (am_sh, am_mm U18)) R
          refine ev_br (P := (U18 86 8) ≤ 0) (σ1 := ((d + 1), 194, 106, [some (.inr (.inr 86)), some (.inl (w32 ((w32 (16 * (U11 86 40))) + (U11 106 (U11 86 40).toNat))))], [], (am_sh, am_mm U18))) (σ2 := ((d + 1), 194, 105, [some (.inr (.inr 86)), some (.inl (w32 ((w32 (16 * (U11 86 40))) + (U11 106 (U11 86 40).toNat))))], [], (am_sh, am_mm U18))) 3 (fun _ => rfl) (fun hc => ?_) (fun hc => ?_)
          · have ha2a1aaaaa2aa2a1 := ha2a1aaaaa2aa2a.1 hc
            refine ev_seg (σ1 := ((d + 1), 194, 107, [some (.inr (.inr 86)), some (.inl (w32 ((w32 (16 * (U11 86 40))) + (U11 106 (U11 86 40).toNat))))], [.inr (.inr 86)], (am_sh, am_mm U18))) 1 (fun _ => rfl) ?_
            obtain ⟨U19, ha2a1aaaaa2aa2a1c, ha2a1aaaaa2aa2a1a⟩ := ha2a1aaaaa2aa2a1
            refine ev_cal (σc := (d, 93, 0, [some (.inr (.inr 86)), none, none, none, none, none], [], (am_sh, am_mm U18))) (fun _ => rfl) ha2a1aaaaa2aa2a1c ?_
            show Ev kz ((d + 1), 194, 110, [some (.inr (.inr 86)), some (.inl (w32 ((w32 (16 * (U11 86 40))) + (U11 106 (U11 86 40).toNat))))], [], (am_sh, am_mm U19)) R
            refine ev_seg (σ1 := ((d + 1), 194, 120, [some (.inr (.inr 86)), some (.inl (w32 ((w32 (16 * (U11 86 40))) + (U11 106 (U11 86 40).toNat))))], [.inl 9999, .inl 1, .inr (.inr 86), .inl (w32 ((w32 (16 * (U11 86 40))) + (U11 106 (U11 86 40).toNat))), .inr (.inr 109)], (am_sh, am_mm U19))) 6 (fun _ => rfl) ?_
            obtain ⟨r20, U20, ha2a1aaaaa2aa2a1ac, ha2a1aaaaa2aa2a1aa⟩ := ha2a1aaaaa2aa2a1a
            refine ev_cal (σc := (d, 268, 0, [some (.inr (.inr 86)), some (.inl 1), some (.inl 9999), none], [], (am_sh, am_mm U19))) (fun _ => rfl) ha2a1aaaaa2aa2a1ac ?_
            show Ev kz ((d + 1), 194, 123, [some (.inr (.inr 86)), some (.inl (w32 ((w32 (16 * (U11 86 40))) + (U11 106 (U11 86 40).toNat))))], [.inl r20, .inl (w32 ((w32 (16 * (U11 86 40))) + (U11 106 (U11 86 40).toNat))), .inr (.inr 109)], (am_sh, am_mm U20)) R
            refine eu_iast 109 (n := 32) rfl (by decide) rfl (fun _ => rfl) ha2a1aaaaa2aa2a1aa.1 ?_
            have ha2a1aaaaa2aa2a1aaa := ha2a1aaaaa2aa2a1aa.2
            refine ev_br (P := ¬ ((am_upd U20 109 (w32 ((w32 (16 * (U11 86 40))) + (U11 106 (U11 86 40).toNat))).toNat r20) 86 8) = 0) (σ1 := ((d + 1), 194, 144, [some (.inr (.inr 86)), some (.inl (w32 ((w32 (16 * (U11 86 40))) + (U11 106 (U11 86 40).toNat))))], [], (am_sh, am_mm (am_upd U20 109 (w32 ((w32 (16 * (U11 86 40))) + (U11 106 (U11 86 40).toNat))).toNat r20)))) (σ2 := ((d + 1), 194, 131, [some (.inr (.inr 86)), some (.inl (w32 ((w32 (16 * (U11 86 40))) + (U11 106 (U11 86 40).toNat))))], [], (am_sh, am_mm (am_upd U20 109 (w32 ((w32 (16 * (U11 86 40))) + (U11 106 (U11 86 40).toNat))).toNat r20)))) 3 (fun _ => rfl) (fun hc => ?_) (fun hc => ?_)
            · have ha2a1aaaaa2aa2a1aaa1 := ha2a1aaaaa2aa2a1aaa.1 hc
              subst ha2a1aaaaa2aa2a1aaa1
              exact ev_end 1 (fun _ => rfl)
            · have ha2a1aaaaa2aa2a1aaa2 := ha2a1aaaaa2aa2a1aaa.2 hc
              refine ev_seg (σ1 := ((d + 1), 194, 140, [some (.inr (.inr 86)), some (.inl (w32 ((w32 (16 * (U11 86 40))) + (U11 106 (U11 86 40).toNat))))], [.inl ((am_upd U20 109 (w32 ((w32 (16 * (U11 86 40))) + (U11 106 (U11 86 40).toNat))).toNat r20) 86 40), .inr (.inr 106), .inl ((am_upd U20 109 (w32 ((w32 (16 * (U11 86 40))) + (U11 106 (U11 86 40).toNat))).toNat r20) 86 40), .inr (.inr 106)], (am_sh, am_mm (am_upd U20 109 (w32 ((w32 (16 * (U11 86 40))) + (U11 106 (U11 86 40).toNat))).toNat r20)))) 5 (fun _ => rfl) ?_
              refine eu_iald 106 (n := 2) rfl (by decide) rfl (fun _ => rfl) ha2a1aaaaa2aa2a1aaa2.1 ?_
              have ha2a1aaaaa2aa2a1aaa2a := ha2a1aaaaa2aa2a1aaa2.2
              refine ev_seg (σ1 := ((d + 1), 194, 143, [some (.inr (.inr 86)), some (.inl (w32 ((w32 (16 * (U11 86 40))) + (U11 106 (U11 86 40).toNat))))], [.inl (w32 (((am_upd U20 109 (w32 ((w32 (16 * (U11 86 40))) + (U11 106 (U11 86 40).toNat))).toNat r20) 106 ((am_upd U20 109 (w32 ((w32 (16 * (U11 86 40))) + (U11 106 (U11 86 40).toNat))).toNat r20) 86 40).toNat) + 1)), .inl ((am_upd U20 109 (w32 ((w32 (16 * (U11 86 40))) + (U11 106 (U11 86 40).toNat))).toNat r20) 86 40), .inr (.inr 106)], (am_sh, am_mm (am_upd U20 109 (w32 ((w32 (16 * (U11 86 40))) + (U11 106 (U11 86 40).toNat))).toNat r20)))) 2 (fun _ => rfl) ?_
              refine eu_iast 106 (n := 2) rfl (by decide) rfl (fun _ => rfl) ha2a1aaaaa2aa2a1aaa2a.1 ?_
              have ha2a1aaaaa2aa2a1aaa2aa := ha2a1aaaaa2aa2a1aaa2a.2
              subst ha2a1aaaaa2aa2a1aaa2aa
              exact ev_end 1 (fun _ => rfl)
          · have ha2a1aaaaa2aa2a2 := ha2a1aaaaa2aa2a.2 hc
            subst ha2a1aaaaa2aa2a2
            exact ev_end 1 (fun _ => rfl)
    · have ha2a2 := ha2a.2 hc
      subst ha2a2
      exact ev_end 1 (fun _ => rfl)
set_option maxRecDepth 8000 in
theorem st193_86_0 (kz : am_Z) (d : Nat) (U : Nat → Nat → Int) (R : Option am_V × am_M) (h : (0 ≤ (U 86 40) ∧ (U 86 40) < 2) ∧ ((((U 104 (U 86 40).toNat) = (-1) : Prop)) → ∃ (r1 : Int) (U1 : Nat → Nat → Int), Ev kz (d, 264, 0, [some (.inr (.inr 86)), some (.inl 0)], [], (am_sh, am_mm U)) (some (.inl r1), (am_sh, am_mm U1)) ∧ (((¬ r1 = 0 : Prop)) → (0 ≤ (U1 86 40) ∧ (U1 86 40) < 2) ∧ ∃ U2 : Nat → Nat → Int, Ev kz (d, 271, 0, [some (.inr (.inr 86)), some (.inl 1), none], [], (am_sh, am_mm (am_upd U1 104 (U1 86 40).toNat (U1 86 39)))) (none, (am_sh, am_mm U2)) ∧ (0 ≤ (U2 86 40) ∧ (U2 86 40) < 2) ∧ R = (none, (am_sh, am_mm (am_upd U2 105 (U2 86 40).toNat (U2 86 39))))) ∧ (¬ (¬ r1 = 0) → R = (none, (am_sh, am_mm U1)))) ∧ (¬ ((U 104 (U 86 40).toNat) = (-1)) → ∃ (r3 : Int) (U3 : Nat → Nat → Int), Ev kz (d, 264, 0, [some (.inr (.inr 86)), some (.inl 1)], [], (am_sh, am_mm U)) (some (.inl r3), (am_sh, am_mm U3)) ∧ (((¬ r3 = 0 : Prop)) → (0 ≤ (U3 86 40) ∧ (U3 86 40) < 2) ∧ ∃ U4 : Nat → Nat → Int, Ev kz (d, 271, 0, [some (.inr (.inr 86)), some (.inl 1), none], [], (am_sh, am_mm (am_upd U3 104 (U3 86 40).toNat (U3 86 39)))) (none, (am_sh, am_mm U4)) ∧ (0 ≤ (U4 86 40) ∧ (U4 86 40) < 2) ∧ R = (none, (am_sh, am_mm (am_upd U4 105 (U4 86 40).toNat (U4 86 39))))) ∧ (¬ (¬ r3 = 0) → R = (none, (am_sh, am_mm U3))))) : Ev kz ((d + 1), 193, 0, [some (.inr (.inr 86))], [], (am_sh, am_mm U)) R := by
  refine ev_seg (σ1 := ((d + 1), 193, 9, [some (.inr (.inr 86))], [.inl (U 86 40), .inr (.inr 104), .inr (.inr 86)], (am_sh, am_mm U))) 5 (fun _ => rfl) ?_
  refine eu_iald 104 (n := 2) rfl (by decide) rfl (fun _ => rfl) h.1 ?_
  have ha := h.2
  refine ev_br (P := (U 104 (U 86 40).toNat) = (-1)) (σ1 := ((d + 1), 193, 18, [some (.inr (.inr 86))], [.inr (.inr 86)], (am_sh, am_mm U))) (σ2 := ((d + 1), 193, 14, [some (.inr (.inr 86))], [.inr (.inr 86)], (am_sh, am_mm U))) 2 (fun _ => rfl) (fun hc => ?_) (fun hc => ?_)
  · have ha1 := ha.1 hc
    refine ev_seg (σ1 := ((d + 1), 193, 19, [some (.inr (.inr 86))], [.inl 0, .inr (.inr 86)], (am_sh, am_mm U))) 1 (fun _ => rfl) ?_
    obtain ⟨r1, U1, ha1c, ha1a⟩ := ha1
    refine ev_cal (σc := (d, 264, 0, [some (.inr (.inr 86)), some (.inl 0)], [], (am_sh, am_mm U))) (fun _ => rfl) ha1c ?_
    show Ev kz ((d + 1), 193, 22, [some (.inr (.inr 86))], [.inl r1], (am_sh, am_mm U1)) R
    refine ev_br (P := ¬ r1 = 0) (σ1 := ((d + 1), 193, 26, [some (.inr (.inr 86))], [], (am_sh, am_mm U1))) (σ2 := ((d + 1), 193, 25, [some (.inr (.inr 86))], [], (am_sh, am_mm U1))) 1 (fun _ => rfl) (fun hc => ?_) (fun hc => ?_)
    · have ha1a1 := ha1a.1 hc
      refine ev_seg (σ1 := ((d + 1), 193, 38, [some (.inr (.inr 86))], [.inl (U1 86 39), .inl (U1 86 40), .inr (.inr 104)], (am_sh, am_mm U1))) 6 (fun _ => rfl) ?_
      refine eu_iast 104 (n := 2) rfl (by decide) rfl (fun _ => rfl) ha1a1.1 ?_
      have ha1a1a := ha1a1.2
      refine ev_seg (σ1 := ((d + 1), 193, 41, [some (.inr (.inr 86))], [.inl 1, .inr (.inr 86)], (am_sh, am_mm (am_upd U1 104 (U1 86 40).toNat (U1 86 39))))) 2 (fun _ => rfl) ?_
      obtain ⟨U2, ha1a1ac, ha1a1aa⟩ := ha1a1a
      refine ev_cal (σc := (d, 271, 0, [some (.inr (.inr 86)), some (.inl 1), none], [], (am_sh, am_mm (am_upd U1 104 (U1 86 40).toNat (U1 86 39))))) (fun _ => rfl) ha1a1ac ?_
      show Ev kz ((d + 1), 193, 44, [some (.inr (.inr 86))], [], (am_sh, am_mm U2)) R
      refine ev_seg (σ1 := ((d + 1), 193, 56, [some (.inr (.inr 86))], [.inl (U2 86 39), .inl (U2 86 40), .inr (.inr 105)], (am_sh, am_mm U2))) 6 (fun _ => rfl) ?_
      refine eu_iast 105 (n := 2) rfl (by decide) rfl (fun _ => rfl) ha1a1aa.1 ?_
      have ha1a1aaa := ha1a1aa.2
      subst ha1a1aaa
      exact ev_end 1 (fun _ => rfl)
    · have ha1a2 := ha1a.2 hc
      subst ha1a2
      exact ev_end 1 (fun _ => rfl)
  · have ha2 := ha.2 hc
    refine ev_seg (σ1 := ((d + 1), 193, 19, [some (.inr (.inr 86))], [.inl 1, .inr (.inr 86)], (am_sh, am_mm U))) 2 (fun _ => rfl) ?_
    obtain ⟨r3, U3, ha2c, ha2a⟩ := ha2
    refine ev_cal (σc := (d, 264, 0, [some (.inr (.inr 86)), some (.inl 1)], [], (am_sh, am_mm U))) (fun _ => rfl) ha2c ?_
    show Ev kz ((d + 1), 193, 22, [some (.inr (.inr 86))], [.inl r3], (am_sh, am_mm U3)) R
    refine ev_br (P := ¬ r3 = 0) (σ1 := ((d + 1), 193, 26, [some (.inr (.inr 86))], [], (am_sh, am_mm U3))) (σ2 := ((d + 1), 193, 25, [some (.inr (.inr 86))], [], (am_sh, am_mm U3))) 1 (fun _ => rfl) (fun hc => ?_) (fun hc => ?_)
    · have ha2a1 := ha2a.1 hc
      refine ev_seg (σ1 := ((d + 1), 193, 38, [some (.inr (.inr 86))], [.inl (U3 86 39), .inl (U3 86 40), .inr (.inr 104)], (am_sh, am_mm U3))) 6 (fun _ => rfl) ?_
      refine eu_iast 104 (n := 2) rfl (by decide) rfl (fun _ => rfl) ha2a1.1 ?_
      have ha2a1a := ha2a1.2
      refine ev_seg (σ1 := ((d + 1), 193, 41, [some (.inr (.inr 86))], [.inl 1, .inr (.inr 86)], (am_sh, am_mm (am_upd U3 104 (U3 86 40).toNat (U3 86 39))))) 2 (fun _ => rfl) ?_
      obtain ⟨U4, ha2a1ac, ha2a1aa⟩ := ha2a1a
      refine ev_cal (σc := (d, 271, 0, [some (.inr (.inr 86)), some (.inl 1), none], [], (am_sh, am_mm (am_upd U3 104 (U3 86 40).toNat (U3 86 39))))) (fun _ => rfl) ha2a1ac ?_
      show Ev kz ((d + 1), 193, 44, [some (.inr (.inr 86))], [], (am_sh, am_mm U4)) R
      refine ev_seg (σ1 := ((d + 1), 193, 56, [some (.inr (.inr 86))], [.inl (U4 86 39), .inl (U4 86 40), .inr (.inr 105)], (am_sh, am_mm U4))) 6 (fun _ => rfl) ?_
      refine eu_iast 105 (n := 2) rfl (by decide) rfl (fun _ => rfl) ha2a1aa.1 ?_
      have ha2a1aaa := ha2a1aa.2
      subst ha2a1aaa
      exact ev_end 1 (fun _ => rfl)
    · have ha2a2 := ha2a.2 hc
      subst ha2a2
      exact ev_end 1 (fun _ => rfl)
set_option maxRecDepth 8000 in
theorem st191_86_0 (kz : am_Z) (d : Nat) (U : Nat → Nat → Int) (R : Option am_V × am_M) (h : (0 ≤ (U 86 40) ∧ (U 86 40) < 2) ∧ (((¬ (U 97 (U 86 40).toNat) = 16 : Prop)) → Ev kz ((d + 1), 191, 20, [some (.inr (.inr 86)), none, none, none, none, none, none], [.inl 0, .inr (.inr 86)], (am_sh, am_mm U)) R) ∧ (¬ (¬ (U 97 (U 86 40).toNat) = 16) → Ev kz ((d + 1), 191, 20, [some (.inr (.inr 86)), none, none, none, none, none, none], [.inl 1, .inr (.inr 86)], (am_sh, am_mm U)) R)) : Ev kz ((d + 1), 191, 0, [some (.inr (.inr 86)), none, none, none, none, none, none], [], (am_sh, am_mm U)) R := by
  refine ev_seg (σ1 := ((d + 1), 191, 9, [some (.inr (.inr 86)), none, none, none, none, none, none], [.inl (U 86 40), .inr (.inr 97), .inr (.inr 86)], (am_sh, am_mm U))) 5 (fun _ => rfl) ?_
  refine eu_iald 97 (n := 2) rfl (by decide) rfl (fun _ => rfl) h.1 ?_
  have ha := h.2
  refine ev_br (P := ¬ (U 97 (U 86 40).toNat) = 16) (σ1 := ((d + 1), 191, 19, [some (.inr (.inr 86)), none, none, none, none, none, none], [.inr (.inr 86)], (am_sh, am_mm U))) (σ2 := ((d + 1), 191, 15, [some (.inr (.inr 86)), none, none, none, none, none, none], [.inr (.inr 86)], (am_sh, am_mm U))) 2 (fun _ => rfl) (fun hc => ?_) (fun hc => ?_)
  · have ha1 := ha.1 hc
    refine ev_seg (σ1 := ((d + 1), 191, 20, [some (.inr (.inr 86)), none, none, none, none, none, none], [.inl 0, .inr (.inr 86)], (am_sh, am_mm U))) 1 (fun _ => rfl) ?_
    exact ha1
  · have ha2 := ha.2 hc
    refine ev_seg (σ1 := ((d + 1), 191, 20, [some (.inr (.inr 86)), none, none, none, none, none, none], [.inl 1, .inr (.inr 86)], (am_sh, am_mm U))) 2 (fun _ => rfl) ?_
    exact ha2
set_option maxRecDepth 8000 in
theorem st191_86_20 (kz : am_Z) (d : Nat) (s1 : Int) (U : Nat → Nat → Int) (R : Option am_V × am_M) (h : ∃ (r1 : Int) (U1 : Nat → Nat → Int), Ev kz (d, 264, 0, [some (.inr (.inr 86)), some (.inl s1)], [], (am_sh, am_mm U)) (some (.inl r1), (am_sh, am_mm U1)) ∧ (((¬ r1 = 0 : Prop)) → (0 ≤ (U1 86 40) ∧ (U1 86 40) < 2) ∧ ∃ U2 : Nat → Nat → Int, Ev kz (d, 186, 0, [some (.inr (.inr 86))], [], (am_sh, am_mm U1)) (none, (am_sh, am_mm U2)) ∧ (((¬ (U2 86 8) = 0 : Prop)) → (((0 = 0 : Prop)) → ∃ U3 : Nat → Nat → Int, Ev kz (d, 186, 0, [some (.inr (.inr 86))], [], (am_sh, am_mm U2)) (none, (am_sh, am_mm U3)) ∧ (((¬ (U3 86 8) = 0 : Prop)) → Ev kz ((d + 1), 191, 112, [some (.inr (.inr 86)), some (.inl (w32 ((w32 (16 * (U1 86 40))) + (U1 97 (U1 86 40).toNat)))), some (.inl 0), some (.inl (U2 86 4)), none, none, none], [], (am_sh, am_mm U3)) R) ∧ (¬ (¬ (U3 86 8) = 0) → ((((U3 86 3) = 2 : Prop)) → Ev kz ((d + 1), 191, 112, [some (.inr (.inr 86)), some (.inl (w32 ((w32 (16 * (U1 86 40))) + (U1 97 (U1 86 40).toNat)))), some (.inl 0), some (.inl (U2 86 4)), none, none, none], [], (am_sh, am_mm U3)) R) ∧ (¬ ((U3 86 3) = 2) → ∃ U4 : Nat → Nat → Int, Ev kz (d, 196, 0, [some (.inr (.inr 86)), some (.inl 1), some (.inl (U3 86 4))], [], (am_sh, am_mm U3)) (none, (am_sh, am_mm U4)) ∧ Ev kz ((d + 1), 191, 112, [some (.inr (.inr 86)), some (.inl (w32 ((w32 (16 * (U1 86 40))) + (U1 97 (U1 86 40).toNat)))), some (.inl 0), some (.inl (U2 86 4)), none, none, none], [], (am_sh, am_mm U4)) R))) ∧ (¬ (0 = 0) → ∃ U5 : Nat → Nat → Int, Ev kz (d, 93, 0, [some (.inr (.inr 86)), none, none, none, none, none], [], (am_sh, am_mm U2)) (none, (am_sh, am_mm U5)) ∧ ∃ U6 : Nat → Nat → Int, Ev kz (d, 186, 0, [some (.inr (.inr 86))], [], (am_sh, am_mm U5)) (none, (am_sh, am_mm U6)) ∧ (((¬ (U6 86 8) = 0 : Prop)) → Ev kz ((d + 1), 191, 112, [some (.inr (.inr 86)), some (.inl (w32 ((w32 (16 * (U1 86 40))) + (U1 97 (U1 86 40).toNat)))), some (.inl 0), some (.inl (U2 86 4)), none, none, none], [], (am_sh, am_mm U6)) R) ∧ (¬ (¬ (U6 86 8) = 0) → ((((U6 86 3) = 2 : Prop)) → Ev kz ((d + 1), 191, 112, [some (.inr (.inr 86)), some (.inl (w32 ((w32 (16 * (U1 86 40))) + (U1 97 (U1 86 40).toNat)))), some (.inl 0), some (.inl (U2 86 4)), none, none, none], [], (am_sh, am_mm U6)) R) ∧ (¬ ((U6 86 3) = 2) → ∃ U7 : Nat → Nat → Int, Ev kz (d, 196, 0, [some (.inr (.inr 86)), some (.inl 1), some (.inl (U6 86 4))], [], (am_sh, am_mm U6)) (none, (am_sh, am_mm U7)) ∧ Ev kz ((d + 1), 191, 112, [some (.inr (.inr 86)), some (.inl (w32 ((w32 (16 * (U1 86 40))) + (U1 97 (U1 86 40).toNat)))), some (.inl 0), some (.inl (U2 86 4)), none, none, none], [], (am_sh, am_mm U7)) R)))) ∧ (¬ (¬ (U2 86 8) = 0) → ∃ (r8 : Int) (U8 : Nat → Nat → Int), Ev kz (d, 197, 0, [some (.inr (.inr 86)), some (.inl 45)], [], (am_sh, am_mm U2)) (some (.inl r8), (am_sh, am_mm U8)) ∧ (((r8 = 0 : Prop)) → (((0 = 0 : Prop)) → ∃ U9 : Nat → Nat → Int, Ev kz (d, 186, 0, [some (.inr (.inr 86))], [], (am_sh, am_mm U8)) (none, (am_sh, am_mm U9)) ∧ (((¬ (U9 86 8) = 0 : Prop)) → Ev kz ((d + 1), 191, 112, [some (.inr (.inr 86)), some (.inl (w32 ((w32 (16 * (U1 86 40))) + (U1 97 (U1 86 40).toNat)))), some (.inl 0), some (.inl (U8 86 4)), none, none, none], [], (am_sh, am_mm U9)) R) ∧ (¬ (¬ (U9 86 8) = 0) → ((((U9 86 3) = 2 : Prop)) → Ev kz ((d + 1), 191, 112, [some (.inr (.inr 86)), some (.inl (w32 ((w32 (16 * (U1 86 40))) + (U1 97 (U1 86 40).toNat)))), some (.inl 0), some (.inl (U8 86 4)), none, none, none], [], (am_sh, am_mm U9)) R) ∧ (¬ ((U9 86 3) = 2) → ∃ U10 : Nat → Nat → Int, Ev kz (d, 196, 0, [some (.inr (.inr 86)), some (.inl 1), some (.inl (U9 86 4))], [], (am_sh, am_mm U9)) (none, (am_sh, am_mm U10)) ∧ Ev kz ((d + 1), 191, 112, [some (.inr (.inr 86)), some (.inl (w32 ((w32 (16 * (U1 86 40))) + (U1 97 (U1 86 40).toNat)))), some (.inl 0), some (.inl (U8 86 4)), none, none, none], [], (am_sh, am_mm U10)) R))) ∧ (¬ (0 = 0) → ∃ U11 : Nat → Nat → Int, Ev kz (d, 93, 0, [some (.inr (.inr 86)), none, none, none, none, none], [], (am_sh, am_mm U8)) (none, (am_sh, am_mm U11)) ∧ ∃ U12 : Nat → Nat → Int, Ev kz (d, 186, 0, [some (.inr (.inr 86))], [], (am_sh, am_mm U11)) (none, (am_sh, am_mm U12)) ∧ (((¬ (U12 86 8) = 0 : Prop)) → Ev kz ((d + 1), 191, 112, [some (.inr (.inr 86)), some (.inl (w32 ((w32 (16 * (U1 86 40))) + (U1 97 (U1 86 40).toNat)))), some (.inl 0), some (.inl (U8 86 4)), none, none, none], [], (am_sh, am_mm U12)) R) ∧ (¬ (¬ (U12 86 8) = 0) → ((((U12 86 3) = 2 : Prop)) → Ev kz ((d + 1), 191, 112, [some (.inr (.inr 86)), some (.inl (w32 ((w32 (16 * (U1 86 40))) + (U1 97 (U1 86 40).toNat)))), some (.inl 0), some (.inl (U8 86 4)), none, none, none], [], (am_sh, am_mm U12)) R) ∧ (¬ ((U12 86 3) = 2) → ∃ U13 : Nat → Nat → Int, Ev kz (d, 196, 0, [some (.inr (.inr 86)), some (.inl 1), some (.inl (U12 86 4))], [], (am_sh, am_mm U12)) (none, (am_sh, am_mm U13)) ∧ Ev kz ((d + 1), 191, 112, [some (.inr (.inr 86)), some (.inl (w32 ((w32 (16 * (U1 86 40))) + (U1 97 (U1 86 40).toNat)))), some (.inl 0), some (.inl (U8 86 4)), none, none, none], [], (am_sh, am_mm U13)) R)))) ∧ (¬ (r8 = 0) → (((1 = 0 : Prop)) → ∃ U14 : Nat → Nat → Int, Ev kz (d, 186, 0, [some (.inr (.inr 86))], [], (am_sh, am_mm U8)) (none, (am_sh, am_mm U14)) ∧ (((¬ (U14 86 8) = 0 : Prop)) → Ev kz ((d + 1), 191, 112, [some (.inr (.inr 86)), some (.inl (w32 ((w32 (16 * (U1 86 40))) + (U1 97 (U1 86 40).toNat)))), some (.inl 1), some (.inl (U8 86 4)), none, none, none], [], (am_sh, am_mm U14)) R) ∧ (¬ (¬ (U14 86 8) = 0) → ((((U14 86 3) = 2 : Prop)) → Ev kz ((d + 1), 191, 112, [some (.inr (.inr 86)), some (.inl (w32 ((w32 (16 * (U1 86 40))) + (U1 97 (U1 86 40).toNat)))), some (.inl 1), some (.inl (U8 86 4)), none, none, none], [], (am_sh, am_mm U14)) R) ∧ (¬ ((U14 86 3) = 2) → ∃ U15 : Nat → Nat → Int, Ev kz (d, 196, 0, [some (.inr (.inr 86)), some (.inl 1), some (.inl (U14 86 4))], [], (am_sh, am_mm U14)) (none, (am_sh, am_mm U15)) ∧ Ev kz ((d + 1), 191, 112, [some (.inr (.inr 86)), some (.inl (w32 ((w32 (16 * (U1 86 40))) + (U1 97 (U1 86 40).toNat)))), some (.inl 1), some (.inl (U8 86 4)), none, none, none], [], (am_sh, am_mm U15)) R))) ∧ (¬ (1 = 0) → ∃ U16 : Nat → Nat → Int, Ev kz (d, 93, 0, [some (.inr (.inr 86)), none, none, none, none, none], [], (am_sh, am_mm U8)) (none, (am_sh, am_mm U16)) ∧ ∃ U17 : Nat → Nat → Int, Ev kz (d, 186, 0, [some (.inr (.inr 86))], [], (am_sh, am_mm U16)) (none, (am_sh, am_mm U17)) ∧ (((¬ (U17 86 8) = 0 : Prop)) → Ev kz ((d + 1), 191, 112, [some (.inr (.inr 86)), some (.inl (w32 ((w32 (16 * (U1 86 40))) + (U1 97 (U1 86 40).toNat)))), some (.inl 1), some (.inl (U8 86 4)), none, none, none], [], (am_sh, am_mm U17)) R) ∧ (¬ (¬ (U17 86 8) = 0) → ((((U17 86 3) = 2 : Prop)) → Ev kz ((d + 1), 191, 112, [some (.inr (.inr 86)), some (.inl (w32 ((w32 (16 * (U1 86 40))) + (U1 97 (U1 86 40).toNat)))), some (.inl 1), some (.inl (U8 86 4)), none, none, none], [], (am_sh, am_mm U17)) R) ∧ (¬ ((U17 86 3) = 2) → ∃ U18 : Nat → Nat → Int, Ev kz (d, 196, 0, [some (.inr (.inr 86)), some (.inl 1), some (.inl (U17 86 4))], [], (am_sh, am_mm U17)) (none, (am_sh, am_mm U18)) ∧ Ev kz ((d + 1), 191, 112, [some (.inr (.inr 86)), some (.inl (w32 ((w32 (16 * (U1 86 40))) + (U1 97 (U1 86 40).toNat)))), some (.inl 1), some (.inl (U8 86 4)), none, none, none], [], (am_sh, am_mm U18)) R)))))) ∧ (¬ (¬ r1 = 0) → R = (none, (am_sh, am_mm U1)))) : Ev kz ((d + 1), 191, 20, [some (.inr (.inr 86)), none, none, none, none, none, none], [.inl s1, .inr (.inr 86)], (am_sh, am_mm U)) R := by
  obtain ⟨r1, U1, hc, ha⟩ := h
  refine ev_cal (σc := (d, 264, 0, [some (.inr (.inr 86)), some (.inl s1)], [], (am_sh, am_mm U))) (fun _ => rfl) hc ?_
  show Ev kz ((d + 1), 191, 23, [some (.inr (.inr 86)), none, none, none, none, none, none], [.inl r1], (am_sh, am_mm U1)) R
  refine ev_br (P := ¬ r1 = 0) (σ1 := ((d + 1), 191, 27, [some (.inr (.inr 86)), none, none, none, none, none, none], [], (am_sh, am_mm U1))) (σ2 := ((d + 1), 191, 26, [some (.inr (.inr 86)), none, none, none, none, none, none], [], (am_sh, am_mm U1))) 1 (fun _ => rfl) (fun hc => ?_) (fun hc => ?_)
  · have ha1 := ha.1 hc
    refine ev_seg (σ1 := ((d + 1), 191, 42, [some (.inr (.inr 86)), none, none, none, none, none, none], [.inl (U1 86 40), .inr (.inr 97), .inl (w32 (16 * (U1 86 40)))], (am_sh, am_mm U1))) 8 (fun _ => rfl) ?_
    refine eu_iald 97 (n := 2) rfl (by decide) rfl (fun _ => rfl) ha1.1 ?_
    have ha1a := ha1.2
    refine ev_seg (σ1 := ((d + 1), 191, 46, [some (.inr (.inr 86)), some (.inl (w32 ((w32 (16 * (U1 86 40))) + (U1 97 (U1 86 40).toNat)))), none, none, none, none, none], [.inr (.inr 86)], (am_sh, am_mm U1))) 3 (fun _ => rfl) ?_
    obtain ⟨U2, ha1ac, ha1aa⟩ := ha1a
    refine ev_cal (σc := (d, 186, 0, [some (.inr (.inr 86))], [], (am_sh, am_mm U1))) (fun _ => rfl) ha1ac ?_
    show Ev kz ((d + 1), 191, 49, [some (.inr (.inr 86)), some (.inl (w32 ((w32 (16 * (U1 86 40))) + (U1 97 (U1 86 40).toNat)))), none, none, none, none, none], [], (am_sh, am_mm U2)) R
    refine ev_br (P := ¬ (U2 86 8) = 0) (σ1 := ((d + 1), 191, 69, [some (.inr (.inr 86)), some (.inl (w32 ((w32 (16 * (U1 86 40))) + (U1 97 (U1 86 40).toNat)))), none, none, none, none, none], [], (am_sh, am_mm U2))) (σ2 := ((d + 1), 191, 56, [some (.inr (.inr 86)), some (.inl (w32 ((w32 (16 * (U1 86 40))) + (U1 97 (U1 86 40).toNat)))), none, none, none, none, none], [], (am_sh, am_mm U2))) 3 (fun _ => rfl) (fun hc => ?_) (fun hc => ?_)
    · have ha1aa1 := ha1aa.1 hc
      refine ev_br (P := 0 = 0) (σ1 := ((d + 1), 191, 84, [some (.inr (.inr 86)), some (.inl (w32 ((w32 (16 * (U1 86 40))) + (U1 97 (U1 86 40).toNat)))), some (.inl 0), some (.inl (U2 86 4)), none, none, none], [], (am_sh, am_mm U2))) (σ2 := ((d + 1), 191, 80, [some (.inr (.inr 86)), some (.inl (w32 ((w32 (16 * (U1 86 40))) + (U1 97 (U1 86 40).toNat)))), some (.inl 0), some (.inl (U2 86 4)), none, none, none], [], (am_sh, am_mm U2))) 7 (fun _ => rfl) (fun hc => ?_) (fun hc => ?_)
      · have ha1aa11 := ha1aa1.1 hc
        refine ev_seg (σ1 := ((d + 1), 191, 85, [some (.inr (.inr 86)), some (.inl (w32 ((w32 (16 * (U1 86 40))) + (U1 97 (U1 86 40).toNat)))), some (.inl 0), some (.inl (U2 86 4)), none, none, none], [.inr (.inr 86)], (am_sh, am_mm U2))) 1 (fun _ => rfl) ?_
        obtain ⟨U3, ha1aa11c, ha1aa11a⟩ := ha1aa11
        refine ev_cal (σc := (d, 186, 0, [some (.inr (.inr 86))], [], (am_sh, am_mm U2))) (fun _ => rfl) ha1aa11c ?_
        show Ev kz ((d + 1), 191, 88, [some (.inr (.inr 86)), some (.inl (w32 ((w32 (16 * (U1 86 40))) + (U1 97 (U1 86 40).toNat)))), some (.inl 0), some (.inl (U2 86 4)), none, none, none], [], (am_sh, am_mm U3)) R
        refine ev_br (P := ¬ (U3 86 8) = 0) (σ1 := ((d + 1), 191, 112, [some (.inr (.inr 86)), some (.inl (w32 ((w32 (16 * (U1 86 40))) + (U1 97 (U1 86 40).toNat)))), some (.inl 0), some (.inl (U2 86 4)), none, none, none], [], (am_sh, am_mm U3))) (σ2 := ((d + 1), 191, 95, [some (.inr (.inr 86)), some (.inl (w32 ((w32 (16 * (U1 86 40))) + (U1 97 (U1 86 40).toNat)))), some (.inl 0), some (.inl (U2 86 4)), none, none, none], [], (am_sh, am_mm U3))) 3 (fun _ => rfl) (fun hc => ?_) (fun hc => ?_)
        · have ha1aa11a1 := ha1aa11a.1 hc
          exact ha1aa11a1
        · have ha1aa11a2 := ha1aa11a.2 hc
          refine ev_br (P := (U3 86 3) = 2) (σ1 := ((d + 1), 191, 112, [some (.inr (.inr 86)), some (.inl (w32 ((w32 (16 * (U1 86 40))) + (U1 97 (U1 86 40).toNat)))), some (.inl 0), some (.inl (U2 86 4)), none, none, none], [], (am_sh, am_mm U3))) (σ2 := ((d + 1), 191, 103, [some (.inr (.inr 86)), some (.inl (w32 ((w32 (16 * (U1 86 40))) + (U1 97 (U1 86 40).toNat)))), some (.inl 0), some (.inl (U2 86 4)), none, none, none], [], (am_sh, am_mm U3))) 4 (fun _ => rfl) (fun hc => ?_) (fun hc => ?_)
          · have ha1aa11a21 := ha1aa11a2.1 hc
            exact ha1aa11a21
          · have ha1aa11a22 := ha1aa11a2.2 hc
            refine ev_seg (σ1 := ((d + 1), 191, 109, [some (.inr (.inr 86)), some (.inl (w32 ((w32 (16 * (U1 86 40))) + (U1 97 (U1 86 40).toNat)))), some (.inl 0), some (.inl (U2 86 4)), none, none, none], [.inl (U3 86 4), .inl 1, .inr (.inr 86)], (am_sh, am_mm U3))) 4 (fun _ => rfl) ?_
            obtain ⟨U4, ha1aa11a22c, ha1aa11a22a⟩ := ha1aa11a22
            refine ev_cal (σc := (d, 196, 0, [some (.inr (.inr 86)), some (.inl 1), some (.inl (U3 86 4))], [], (am_sh, am_mm U3))) (fun _ => rfl) ha1aa11a22c ?_
            show Ev kz ((d + 1), 191, 112, [some (.inr (.inr 86)), some (.inl (w32 ((w32 (16 * (U1 86 40))) + (U1 97 (U1 86 40).toNat)))), some (.inl 0), some (.inl (U2 86 4)), none, none, none], [], (am_sh, am_mm U4)) R
            exact ha1aa11a22a
      · have ha1aa12 := ha1aa1.2 hc
        refine ev_seg (σ1 := ((d + 1), 191, 81, [some (.inr (.inr 86)), some (.inl (w32 ((w32 (16 * (U1 86 40))) + (U1 97 (U1 86 40).toNat)))), some (.inl 0), some (.inl (U2 86 4)), none, none, none], [.inr (.inr 86)], (am_sh, am_mm U2))) 1 (fun _ => rfl) ?_
        obtain ⟨U5, ha1aa12c, ha1aa12a⟩ := ha1aa12
        refine ev_cal (σc := (d, 93, 0, [some (.inr (.inr 86)), none, none, none, none, none], [], (am_sh, am_mm U2))) (fun _ => rfl) ha1aa12c ?_
        show Ev kz ((d + 1), 191, 84, [some (.inr (.inr 86)), some (.inl (w32 ((w32 (16 * (U1 86 40))) + (U1 97 (U1 86 40).toNat)))), some (.inl 0), some (.inl (U2 86 4)), none, none, none], [], (am_sh, am_mm U5)) R
        refine ev_seg (σ1 := ((d + 1), 191, 85, [some (.inr (.inr 86)), some (.inl (w32 ((w32 (16 * (U1 86 40))) + (U1 97 (U1 86 40).toNat)))), some (.inl 0), some (.inl (U2 86 4)), none, none, none], [.inr (.inr 86)], (am_sh, am_mm U5))) 1 (fun _ => rfl) ?_
        obtain ⟨U6, ha1aa12ac, ha1aa12aa⟩ := ha1aa12a
        refine ev_cal (σc := (d, 186, 0, [some (.inr (.inr 86))], [], (am_sh, am_mm U5))) (fun _ => rfl) ha1aa12ac ?_
        show Ev kz ((d + 1), 191, 88, [some (.inr (.inr 86)), some (.inl (w32 ((w32 (16 * (U1 86 40))) + (U1 97 (U1 86 40).toNat)))), some (.inl 0), some (.inl (U2 86 4)), none, none, none], [], (am_sh, am_mm U6)) R
        refine ev_br (P := ¬ (U6 86 8) = 0) (σ1 := ((d + 1), 191, 112, [some (.inr (.inr 86)), some (.inl (w32 ((w32 (16 * (U1 86 40))) + (U1 97 (U1 86 40).toNat)))), some (.inl 0), some (.inl (U2 86 4)), none, none, none], [], (am_sh, am_mm U6))) (σ2 := ((d + 1), 191, 95, [some (.inr (.inr 86)), some (.inl (w32 ((w32 (16 * (U1 86 40))) + (U1 97 (U1 86 40).toNat)))), some (.inl 0), some (.inl (U2 86 4)), none, none, none], [], (am_sh, am_mm U6))) 3 (fun _ => rfl) (fun hc => ?_) (fun hc => ?_)
        · have ha1aa12aa1 := ha1aa12aa.1 hc
          exact ha1aa12aa1
        · have ha1aa12aa2 := ha1aa12aa.2 hc
          refine ev_br (P := (U6 86 3) = 2) (σ1 := ((d + 1), 191, 112, [some (.inr (.inr 86)), some (.inl (w32 ((w32 (16 * (U1 86 40))) + (U1 97 (U1 86 40).toNat)))), some (.inl 0), some (.inl (U2 86 4)), none, none, none], [], (am_sh, am_mm U6))) (σ2 := ((d + 1), 191, 103, [some (.inr (.inr 86)), some (.inl (w32 ((w32 (16 * (U1 86 40))) + (U1 97 (U1 86 40).toNat)))), some (.inl 0), some (.inl (U2 86 4)), none, none, none], [], (am_sh, am_mm U6))) 4 (fun _ => rfl) (fun hc => ?_) (fun hc => ?_)
          · have ha1aa12aa21 := ha1aa12aa2.1 hc
            exact ha1aa12aa21
          · have ha1aa12aa22 := ha1aa12aa2.2 hc
            refine ev_seg (σ1 := ((d + 1), 191, 109, [some (.inr (.inr 86)), some (.inl (w32 ((w32 (16 * (U1 86 40))) + (U1 97 (U1 86 40).toNat)))), some (.inl 0), some (.inl (U2 86 4)), none, none, none], [.inl (U6 86 4), .inl 1, .inr (.inr 86)], (am_sh, am_mm U6))) 4 (fun _ => rfl) ?_
            obtain ⟨U7, ha1aa12aa22c, ha1aa12aa22a⟩ := ha1aa12aa22
            refine ev_cal (σc := (d, 196, 0, [some (.inr (.inr 86)), some (.inl 1), some (.inl (U6 86 4))], [], (am_sh, am_mm U6))) (fun _ => rfl) ha1aa12aa22c ?_
            show Ev kz ((d + 1), 191, 112, [some (.inr (.inr 86)), some (.inl (w32 ((w32 (16 * (U1 86 40))) + (U1 97 (U1 86 40).toNat)))), some (.inl 0), some (.inl (U2 86 4)), none, none, none], [], (am_sh, am_mm U7)) R
            exact ha1aa12aa22a
    · have ha1aa2 := ha1aa.2 hc
      refine ev_seg (σ1 := ((d + 1), 191, 59, [some (.inr (.inr 86)), some (.inl (w32 ((w32 (16 * (U1 86 40))) + (U1 97 (U1 86 40).toNat)))), none, none, none, none, none], [.inl 45, .inr (.inr 86)], (am_sh, am_mm U2))) 2 (fun _ => rfl) ?_
      obtain ⟨r8, U8, ha1aa2c, ha1aa2a⟩ := ha1aa2
      refine ev_cal (σc := (d, 197, 0, [some (.inr (.inr 86)), some (.inl 45)], [], (am_sh, am_mm U2))) (fun _ => rfl) ha1aa2c ?_
      show Ev kz ((d + 1), 191, 62, [some (.inr (.inr 86)), some (.inl (w32 ((w32 (16 * (U1 86 40))) + (U1 97 (U1 86 40).toNat)))), none, none, none, none, none], [.inl r8], (am_sh, am_mm U8)) R
      refine ev_br (P := r8 = 0) (σ1 := ((d + 1), 191, 69, [some (.inr (.inr 86)), some (.inl (w32 ((w32 (16 * (U1 86 40))) + (U1 97 (U1 86 40).toNat)))), none, none, none, none, none], [], (am_sh, am_mm U8))) (σ2 := ((d + 1), 191, 65, [some (.inr (.inr 86)), some (.inl (w32 ((w32 (16 * (U1 86 40))) + (U1 97 (U1 86 40).toNat)))), none, none, none, none, none], [], (am_sh, am_mm U8))) 1 (fun _ => rfl) (fun hc => ?_) (fun hc => ?_)
      · have ha1aa2a1 := ha1aa2a.1 hc
        refine ev_br (P := 0 = 0) (σ1 := ((d + 1), 191, 84, [some (.inr (.inr 86)), some (.inl (w32 ((w32 (16 * (U1 86 40))) + (U1 97 (U1 86 40).toNat)))), some (.inl 0), some (.inl (U8 86 4)), none, none, none], [], (am_sh, am_mm U8))) (σ2 := ((d + 1), 191, 80, [some (.inr (.inr 86)), some (.inl (w32 ((w32 (16 * (U1 86 40))) + (U1 97 (U1 86 40).toNat)))), some (.inl 0), some (.inl (U8 86 4)), none, none, none], [], (am_sh, am_mm U8))) 7 (fun _ => rfl) (fun hc => ?_) (fun hc => ?_)
        · have ha1aa2a11 := ha1aa2a1.1 hc
          refine ev_seg (σ1 := ((d + 1), 191, 85, [some (.inr (.inr 86)), some (.inl (w32 ((w32 (16 * (U1 86 40))) + (U1 97 (U1 86 40).toNat)))), some (.inl 0), some (.inl (U8 86 4)), none, none, none], [.inr (.inr 86)], (am_sh, am_mm U8))) 1 (fun _ => rfl) ?_
          obtain ⟨U9, ha1aa2a11c, ha1aa2a11a⟩ := ha1aa2a11
          refine ev_cal (σc := (d, 186, 0, [some (.inr (.inr 86))], [], (am_sh, am_mm U8))) (fun _ => rfl) ha1aa2a11c ?_
          show Ev kz ((d + 1), 191, 88, [some (.inr (.inr 86)), some (.inl (w32 ((w32 (16 * (U1 86 40))) + (U1 97 (U1 86 40).toNat)))), some (.inl 0), some (.inl (U8 86 4)), none, none, none], [], (am_sh, am_mm U9)) R
          refine ev_br (P := ¬ (U9 86 8) = 0) (σ1 := ((d + 1), 191, 112, [some (.inr (.inr 86)), some (.inl (w32 ((w32 (16 * (U1 86 40))) + (U1 97 (U1 86 40).toNat)))), some (.inl 0), some (.inl (U8 86 4)), none, none, none], [], (am_sh, am_mm U9))) (σ2 := ((d + 1), 191, 95, [some (.inr (.inr 86)), some (.inl (w32 ((w32 (16 * (U1 86 40))) + (U1 97 (U1 86 40).toNat)))), some (.inl 0), some (.inl (U8 86 4)), none, none, none], [], (am_sh, am_mm U9))) 3 (fun _ => rfl) (fun hc => ?_) (fun hc => ?_)
          · have ha1aa2a11a1 := ha1aa2a11a.1 hc
            exact ha1aa2a11a1
          · have ha1aa2a11a2 := ha1aa2a11a.2 hc
            refine ev_br (P := (U9 86 3) = 2) (σ1 := ((d + 1), 191, 112, [some (.inr (.inr 86)), some (.inl (w32 ((w32 (16 * (U1 86 40))) + (U1 97 (U1 86 40).toNat)))), some (.inl 0), some (.inl (U8 86 4)), none, none, none], [], (am_sh, am_mm U9))) (σ2 := ((d + 1), 191, 103, [some (.inr (.inr 86)), some (.inl (w32 ((w32 (16 * (U1 86 40))) + (U1 97 (U1 86 40).toNat)))), some (.inl 0), some (.inl (U8 86 4)), none, none, none], [], (am_sh, am_mm U9))) 4 (fun _ => rfl) (fun hc => ?_) (fun hc => ?_)
            · have ha1aa2a11a21 := ha1aa2a11a2.1 hc
              exact ha1aa2a11a21
            · have ha1aa2a11a22 := ha1aa2a11a2.2 hc
              refine ev_seg (σ1 := ((d + 1), 191, 109, [some (.inr (.inr 86)), some (.inl (w32 ((w32 (16 * (U1 86 40))) + (U1 97 (U1 86 40).toNat)))), some (.inl 0), some (.inl (U8 86 4)), none, none, none], [.inl (U9 86 4), .inl 1, .inr (.inr 86)], (am_sh, am_mm U9))) 4 (fun _ => rfl) ?_
              obtain ⟨U10, ha1aa2a11a22c, ha1aa2a11a22a⟩ := ha1aa2a11a22
              refine ev_cal (σc := (d, 196, 0, [some (.inr (.inr 86)), some (.inl 1), some (.inl (U9 86 4))], [], (am_sh, am_mm U9))) (fun _ => rfl) ha1aa2a11a22c ?_
              show Ev kz ((d + 1), 191, 112, [some (.inr (.inr 86)), some (.inl (w32 ((w32 (16 * (U1 86 40))) + (U1 97 (U1 86 40).toNat)))), some (.inl 0), some (.inl (U8 86 4)), none, none, none], [], (am_sh, am_mm U10)) R
              exact ha1aa2a11a22a
        · have ha1aa2a12 := ha1aa2a1.2 hc
          refine ev_seg (σ1 := ((d + 1), 191, 81, [some (.inr (.inr 86)), some (.inl (w32 ((w32 (16 * (U1 86 40))) + (U1 97 (U1 86 40).toNat)))), some (.inl 0), some (.inl (U8 86 4)), none, none, none], [.inr (.inr 86)], (am_sh, am_mm U8))) 1 (fun _ => rfl) ?_
          obtain ⟨U11, ha1aa2a12c, ha1aa2a12a⟩ := ha1aa2a12
          refine ev_cal (σc := (d, 93, 0, [some (.inr (.inr 86)), none, none, none, none, none], [], (am_sh, am_mm U8))) (fun _ => rfl) ha1aa2a12c ?_
          show Ev kz ((d + 1), 191, 84, [some (.inr (.inr 86)), some (.inl (w32 ((w32 (16 * (U1 86 40))) + (U1 97 (U1 86 40).toNat)))), some (.inl 0), some (.inl (U8 86 4)), none, none, none], [], (am_sh, am_mm U11)) R
          refine ev_seg (σ1 := ((d + 1), 191, 85, [some (.inr (.inr 86)), some (.inl (w32 ((w32 (16 * (U1 86 40))) + (U1 97 (U1 86 40).toNat)))), some (.inl 0), some (.inl (U8 86 4)), none, none, none], [.inr (.inr 86)], (am_sh, am_mm U11))) 1 (fun _ => rfl) ?_
          obtain ⟨U12, ha1aa2a12ac, ha1aa2a12aa⟩ := ha1aa2a12a
          refine ev_cal (σc := (d, 186, 0, [some (.inr (.inr 86))], [], (am_sh, am_mm U11))) (fun _ => rfl) ha1aa2a12ac ?_
          show Ev kz ((d + 1), 191, 88, [some (.inr (.inr 86)), some (.inl (w32 ((w32 (16 * (U1 86 40))) + (U1 97 (U1 86 40).toNat)))), some (.inl 0), some (.inl (U8 86 4)), none, none, none], [], (am_sh, am_mm U12)) R
          refine ev_br (P := ¬ (U12 86 8) = 0) (σ1 := ((d + 1), 191, 112, [some (.inr (.inr 86)), some (.inl (w32 ((w32 (16 * (U1 86 40))) + (U1 97 (U1 86 40).toNat)))), some (.inl 0), some (.inl (U8 86 4)), none, none, none], [], (am_sh, am_mm U12))) (σ2 := ((d + 1), 191, 95, [some (.inr (.inr 86)), some (.inl (w32 ((w32 (16 * (U1 86 40))) + (U1 97 (U1 86 40).toNat)))), some (.inl 0), some (.inl (U8 86 4)), none, none, none], [], (am_sh, am_mm U12))) 3 (fun _ => rfl) (fun hc => ?_) (fun hc => ?_)
          · have ha1aa2a12aa1 := ha1aa2a12aa.1 hc
            exact ha1aa2a12aa1
          · have ha1aa2a12aa2 := ha1aa2a12aa.2 hc
            refine ev_br (P := (U12 86 3) = 2) (σ1 := ((d + 1), 191, 112, [some (.inr (.inr 86)), some (.inl (w32 ((w32 (16 * (U1 86 40))) + (U1 97 (U1 86 40).toNat)))), some (.inl 0), some (.inl (U8 86 4)), none, none, none], [], (am_sh, am_mm U12))) (σ2 := ((d + 1), 191, 103, [some (.inr (.inr 86)), some (.inl (w32 ((w32 (16 * (U1 86 40))) + (U1 97 (U1 86 40).toNat)))), some (.inl 0), some (.inl (U8 86 4)), none, none, none], [], (am_sh, am_mm U12))) 4 (fun _ => rfl) (fun hc => ?_) (fun hc => ?_)
            · have ha1aa2a12aa21 := ha1aa2a12aa2.1 hc
              exact ha1aa2a12aa21
            · have ha1aa2a12aa22 := ha1aa2a12aa2.2 hc
              refine ev_seg (σ1 := ((d + 1), 191, 109, [some (.inr (.inr 86)), some (.inl (w32 ((w32 (16 * (U1 86 40))) + (U1 97 (U1 86 40).toNat)))), some (.inl 0), some (.inl (U8 86 4)), none, none, none], [.inl (U12 86 4), .inl 1, .inr (.inr 86)], (am_sh, am_mm U12))) 4 (fun _ => rfl) ?_
              obtain ⟨U13, ha1aa2a12aa22c, ha1aa2a12aa22a⟩ := ha1aa2a12aa22
              refine ev_cal (σc := (d, 196, 0, [some (.inr (.inr 86)), some (.inl 1), some (.inl (U12 86 4))], [], (am_sh, am_mm U12))) (fun _ => rfl) ha1aa2a12aa22c ?_
              show Ev kz ((d + 1), 191, 112, [some (.inr (.inr 86)), some (.inl (w32 ((w32 (16 * (U1 86 40))) + (U1 97 (U1 86 40).toNat)))), some (.inl 0), some (.inl (U8 86 4)), none, none, none], [], (am_sh, am_mm U13)) R
              exact ha1aa2a12aa22a
      · have ha1aa2a2 := ha1aa2a.2 hc
        refine ev_br (P := 1 = 0) (σ1 := ((d + 1), 191, 84, [some (.inr (.inr 86)), some (.inl (w32 ((w32 (16 * (U1 86 40))) + (U1 97 (U1 86 40).toNat)))), some (.inl 1), some (.inl (U8 86 4)), none, none, none], [], (am_sh, am_mm U8))) (σ2 := ((d + 1), 191, 80, [some (.inr (.inr 86)), some (.inl (w32 ((w32 (16 * (U1 86 40))) + (U1 97 (U1 86 40).toNat)))), some (.inl 1), some (.inl (U8 86 4)), none, none, none], [], (am_sh, am_mm U8))) 8 (fun _ => rfl) (fun hc => ?_) (fun hc => ?_)
        · have ha1aa2a21 := ha1aa2a2.1 hc
          refine ev_seg (σ1 := ((d + 1), 191, 85, [some (.inr (.inr 86)), some (.inl (w32 ((w32 (16 * (U1 86 40))) + (U1 97 (U1 86 40).toNat)))), some (.inl 1), some (.inl (U8 86 4)), none, none, none], [.inr (.inr 86)], (am_sh, am_mm U8))) 1 (fun _ => rfl) ?_
          obtain ⟨U14, ha1aa2a21c, ha1aa2a21a⟩ := ha1aa2a21
          refine ev_cal (σc := (d, 186, 0, [some (.inr (.inr 86))], [], (am_sh, am_mm U8))) (fun _ => rfl) ha1aa2a21c ?_
          show Ev kz ((d + 1), 191, 88, [some (.inr (.inr 86)), some (.inl (w32 ((w32 (16 * (U1 86 40))) + (U1 97 (U1 86 40).toNat)))), some (.inl 1), some (.inl (U8 86 4)), none, none, none], [], (am_sh, am_mm U14)) R
          refine ev_br (P := ¬ (U14 86 8) = 0) (σ1 := ((d + 1), 191, 112, [some (.inr (.inr 86)), some (.inl (w32 ((w32 (16 * (U1 86 40))) + (U1 97 (U1 86 40).toNat)))), some (.inl 1), some (.inl (U8 86 4)), none, none, none], [], (am_sh, am_mm U14))) (σ2 := ((d + 1), 191, 95, [some (.inr (.inr 86)), some (.inl (w32 ((w32 (16 * (U1 86 40))) + (U1 97 (U1 86 40).toNat)))), some (.inl 1), some (.inl (U8 86 4)), none, none, none], [], (am_sh, am_mm U14))) 3 (fun _ => rfl) (fun hc => ?_) (fun hc => ?_)
          · have ha1aa2a21a1 := ha1aa2a21a.1 hc
            exact ha1aa2a21a1
          · have ha1aa2a21a2 := ha1aa2a21a.2 hc
            refine ev_br (P := (U14 86 3) = 2) (σ1 := ((d + 1), 191, 112, [some (.inr (.inr 86)), some (.inl (w32 ((w32 (16 * (U1 86 40))) + (U1 97 (U1 86 40).toNat)))), some (.inl 1), some (.inl (U8 86 4)), none, none, none], [], (am_sh, am_mm U14))) (σ2 := ((d + 1), 191, 103, [some (.inr (.inr 86)), some (.inl (w32 ((w32 (16 * (U1 86 40))) + (U1 97 (U1 86 40).toNat)))), some (.inl 1), some (.inl (U8 86 4)), none, none, none], [], (am_sh, am_mm U14))) 4 (fun _ => rfl) (fun hc => ?_) (fun hc => ?_)
            · have ha1aa2a21a21 := ha1aa2a21a2.1 hc
              exact ha1aa2a21a21
            · have ha1aa2a21a22 := ha1aa2a21a2.2 hc
              refine ev_seg (σ1 := ((d + 1), 191, 109, [some (.inr (.inr 86)), some (.inl (w32 ((w32 (16 * (U1 86 40))) + (U1 97 (U1 86 40).toNat)))), some (.inl 1), some (.inl (U8 86 4)), none, none, none], [.inl (U14 86 4), .inl 1, .inr (.inr 86)], (am_sh, am_mm U14))) 4 (fun _ => rfl) ?_
              obtain ⟨U15, ha1aa2a21a22c, ha1aa2a21a22a⟩ := ha1aa2a21a22
              refine ev_cal (σc := (d, 196, 0, [some (.inr (.inr 86)), some (.inl 1), some (.inl (U14 86 4))], [], (am_sh, am_mm U14))) (fun _ => rfl) ha1aa2a21a22c ?_
              show Ev kz ((d + 1), 191, 112, [some (.inr (.inr 86)), some (.inl (w32 ((w32 (16 * (U1 86 40))) + (U1 97 (U1 86 40).toNat)))), some (.inl 1), some (.inl (U8 86 4)), none, none, none], [], (am_sh, am_mm U15)) R
              exact ha1aa2a21a22a
        · have ha1aa2a22 := ha1aa2a2.2 hc
          refine ev_seg (σ1 := ((d + 1), 191, 81, [some (.inr (.inr 86)), some (.inl (w32 ((w32 (16 * (U1 86 40))) + (U1 97 (U1 86 40).toNat)))), some (.inl 1), some (.inl (U8 86 4)), none, none, none], [.inr (.inr 86)], (am_sh, am_mm U8))) 1 (fun _ => rfl) ?_
          obtain ⟨U16, ha1aa2a22c, ha1aa2a22a⟩ := ha1aa2a22
          refine ev_cal (σc := (d, 93, 0, [some (.inr (.inr 86)), none, none, none, none, none], [], (am_sh, am_mm U8))) (fun _ => rfl) ha1aa2a22c ?_
          show Ev kz ((d + 1), 191, 84, [some (.inr (.inr 86)), some (.inl (w32 ((w32 (16 * (U1 86 40))) + (U1 97 (U1 86 40).toNat)))), some (.inl 1), some (.inl (U8 86 4)), none, none, none], [], (am_sh, am_mm U16)) R
          refine ev_seg (σ1 := ((d + 1), 191, 85, [some (.inr (.inr 86)), some (.inl (w32 ((w32 (16 * (U1 86 40))) + (U1 97 (U1 86 40).toNat)))), some (.inl 1), some (.inl (U8 86 4)), none, none, none], [.inr (.inr 86)], (am_sh, am_mm U16))) 1 (fun _ => rfl) ?_
          obtain ⟨U17, ha1aa2a22ac, ha1aa2a22aa⟩ := ha1aa2a22a
          refine ev_cal (σc := (d, 186, 0, [some (.inr (.inr 86))], [], (am_sh, am_mm U16))) (fun _ => rfl) ha1aa2a22ac ?_
          show Ev kz ((d + 1), 191, 88, [some (.inr (.inr 86)), some (.inl (w32 ((w32 (16 * (U1 86 40))) + (U1 97 (U1 86 40).toNat)))), some (.inl 1), some (.inl (U8 86 4)), none, none, none], [], (am_sh, am_mm U17)) R
          refine ev_br (P := ¬ (U17 86 8) = 0) (σ1 := ((d + 1), 191, 112, [some (.inr (.inr 86)), some (.inl (w32 ((w32 (16 * (U1 86 40))) + (U1 97 (U1 86 40).toNat)))), some (.inl 1), some (.inl (U8 86 4)), none, none, none], [], (am_sh, am_mm U17))) (σ2 := ((d + 1), 191, 95, [some (.inr (.inr 86)), some (.inl (w32 ((w32 (16 * (U1 86 40))) + (U1 97 (U1 86 40).toNat)))), some (.inl 1), some (.inl (U8 86 4)), none, none, none], [], (am_sh, am_mm U17))) 3 (fun _ => rfl) (fun hc => ?_) (fun hc => ?_)
          · have ha1aa2a22aa1 := ha1aa2a22aa.1 hc
            exact ha1aa2a22aa1
          · have ha1aa2a22aa2 := ha1aa2a22aa.2 hc
            refine ev_br (P := (U17 86 3) = 2) (σ1 := ((d + 1), 191, 112, [some (.inr (.inr 86)), some (.inl (w32 ((w32 (16 * (U1 86 40))) + (U1 97 (U1 86 40).toNat)))), some (.inl 1), some (.inl (U8 86 4)), none, none, none], [], (am_sh, am_mm U17))) (σ2 := ((d + 1), 191, 103, [some (.inr (.inr 86)), some (.inl (w32 ((w32 (16 * (U1 86 40))) + (U1 97 (U1 86 40).toNat)))), some (.inl 1), some (.inl (U8 86 4)), none, none, none], [], (am_sh, am_mm U17))) 4 (fun _ => rfl) (fun hc => ?_) (fun hc => ?_)
            · have ha1aa2a22aa21 := ha1aa2a22aa2.1 hc
              exact ha1aa2a22aa21
            · have ha1aa2a22aa22 := ha1aa2a22aa2.2 hc
              refine ev_seg (σ1 := ((d + 1), 191, 109, [some (.inr (.inr 86)), some (.inl (w32 ((w32 (16 * (U1 86 40))) + (U1 97 (U1 86 40).toNat)))), some (.inl 1), some (.inl (U8 86 4)), none, none, none], [.inl (U17 86 4), .inl 1, .inr (.inr 86)], (am_sh, am_mm U17))) 4 (fun _ => rfl) ?_
              obtain ⟨U18, ha1aa2a22aa22c, ha1aa2a22aa22a⟩ := ha1aa2a22aa22
              refine ev_cal (σc := (d, 196, 0, [some (.inr (.inr 86)), some (.inl 1), some (.inl (U17 86 4))], [], (am_sh, am_mm U17))) (fun _ => rfl) ha1aa2a22aa22c ?_
              show Ev kz ((d + 1), 191, 112, [some (.inr (.inr 86)), some (.inl (w32 ((w32 (16 * (U1 86 40))) + (U1 97 (U1 86 40).toNat)))), some (.inl 1), some (.inl (U8 86 4)), none, none, none], [], (am_sh, am_mm U18)) R
              exact ha1aa2a22aa22a
  · have ha2 := ha.2 hc
    subst ha2
    exact ev_end 1 (fun _ => rfl)
set_option maxRecDepth 8000 in
theorem st191_86_112 (kz : am_Z) (d : Nat) (x1 x2 x3 : Int) (U : Nat → Nat → Int) (R : Option am_V × am_M) (h : ((((U 86 8) ≤ 0 : Prop)) → (((x2 = 0 : Prop)) → (((¬ (U 86 6) = 0 : Prop)) → Ev kz ((d + 1), 191, 153, [some (.inr (.inr 86)), some (.inl x1), some (.inl x2), some (.inl x3), some (.inl (U 86 6)), some (.inl 0), some (.inl 0)], [], (am_sh, am_mm U)) R) ∧ (¬ (¬ (U 86 6) = 0) → Ev kz ((d + 1), 191, 153, [some (.inr (.inr 86)), some (.inl x1), some (.inl x2), some (.inl x3), some (.inl (U 86 6)), some (.inl 1), some (.inl 0)], [], (am_sh, am_mm U)) R)) ∧ (¬ (x2 = 0) → (((¬ (w32 (-(U 86 6))) = 0 : Prop)) → Ev kz ((d + 1), 191, 153, [some (.inr (.inr 86)), some (.inl x1), some (.inl x2), some (.inl x3), some (.inl (w32 (-(U 86 6)))), some (.inl 0), some (.inl 0)], [], (am_sh, am_mm U)) R) ∧ (¬ (¬ (w32 (-(U 86 6))) = 0) → Ev kz ((d + 1), 191, 153, [some (.inr (.inr 86)), some (.inl x1), some (.inl x2), some (.inl x3), some (.inl (w32 (-(U 86 6)))), some (.inl 1), some (.inl 0)], [], (am_sh, am_mm U)) R))) ∧ (¬ ((U 86 8) ≤ 0) → R = (none, (am_sh, am_mm U)))) : Ev kz ((d + 1), 191, 112, [some (.inr (.inr 86)), some (.inl x1), some (.inl x2), some (.inl x3), none, none, none], [], (am_sh, am_mm U)) R := by
  refine ev_br (P := (U 86 8) ≤ 0) (σ1 := ((d + 1), 191, 120, [some (.inr (.inr 86)), some (.inl x1), some (.inl x2), some (.inl x3), none, none, none], [], (am_sh, am_mm U))) (σ2 := ((d + 1), 191, 119, [some (.inr (.inr 86)), some (.inl x1), some (.inl x2), some (.inl x3), none, none, none], [], (am_sh, am_mm U))) 3 (fun _ => rfl) (fun hc => ?_) (fun hc => ?_)
  · have h1 := h.1 hc
    refine ev_br (P := x2 = 0) (σ1 := ((d + 1), 191, 132, [some (.inr (.inr 86)), some (.inl x1), some (.inl x2), some (.inl x3), none, none, none], [], (am_sh, am_mm U))) (σ2 := ((d + 1), 191, 124, [some (.inr (.inr 86)), some (.inl x1), some (.inl x2), some (.inl x3), none, none, none], [], (am_sh, am_mm U))) 2 (fun _ => rfl) (fun hc => ?_) (fun hc => ?_)
    · have h11 := h1.1 hc
      refine ev_br (P := ¬ (U 86 6) = 0) (σ1 := ((d + 1), 191, 147, [some (.inr (.inr 86)), some (.inl x1), some (.inl x2), some (.inl x3), some (.inl (U 86 6)), none, none], [], (am_sh, am_mm U))) (σ2 := ((d + 1), 191, 143, [some (.inr (.inr 86)), some (.inl x1), some (.inl x2), some (.inl x3), some (.inl (U 86 6)), none, none], [], (am_sh, am_mm U))) 5 (fun _ => rfl) (fun hc => ?_) (fun hc => ?_)
      · have h111 := h11.1 hc
        refine ev_seg (σ1 := ((d + 1), 191, 153, [some (.inr (.inr 86)), some (.inl x1), some (.inl x2), some (.inl x3), some (.inl (U 86 6)), some (.inl 0), some (.inl 0)], [], (am_sh, am_mm U))) 4 (fun _ => rfl) ?_
        exact h111
      · have h112 := h11.2 hc
        refine ev_seg (σ1 := ((d + 1), 191, 153, [some (.inr (.inr 86)), some (.inl x1), some (.inl x2), some (.inl x3), some (.inl (U 86 6)), some (.inl 1), some (.inl 0)], [], (am_sh, am_mm U))) 5 (fun _ => rfl) ?_
        exact h112
    · have h12 := h1.2 hc
      refine ev_br (P := ¬ (w32 (-(U 86 6))) = 0) (σ1 := ((d + 1), 191, 147, [some (.inr (.inr 86)), some (.inl x1), some (.inl x2), some (.inl x3), some (.inl (w32 (-(U 86 6)))), none, none], [], (am_sh, am_mm U))) (σ2 := ((d + 1), 191, 143, [some (.inr (.inr 86)), some (.inl x1), some (.inl x2), some (.inl x3), some (.inl (w32 (-(U 86 6)))), none, none], [], (am_sh, am_mm U))) 7 (fun _ => rfl) (fun hc => ?_) (fun hc => ?_)
      · have h121 := h12.1 hc
        refine ev_seg (σ1 := ((d + 1), 191, 153, [some (.inr (.inr 86)), some (.inl x1), some (.inl x2), some (.inl x3), some (.inl (w32 (-(U 86 6)))), some (.inl 0), some (.inl 0)], [], (am_sh, am_mm U))) 4 (fun _ => rfl) ?_
        exact h121
      · have h122 := h12.2 hc
        refine ev_seg (σ1 := ((d + 1), 191, 153, [some (.inr (.inr 86)), some (.inl x1), some (.inl x2), some (.inl x3), some (.inl (w32 (-(U 86 6)))), some (.inl 1), some (.inl 0)], [], (am_sh, am_mm U))) 5 (fun _ => rfl) ?_
        exact h122
  · have h2 := h.2 hc
    subst h2
    exact ev_end 1 (fun _ => rfl)
set_option maxRecDepth 8000 in
theorem st191_86_153 (kz : am_Z) (d : Nat) (x1 x2 x3 x4 x5 x6 : Int) (U : Nat → Nat → Int) (R : Option am_V × am_M) (h : (0 ≤ (U 86 40) ∧ (U 86 40) < 2) ∧ ((((U 97 (U 86 40).toNat) ≤ x6 : Prop)) → (((x5 = 0 : Prop)) → ((((U 86 8) ≤ 0 : Prop)) → ∃ U1 : Nat → Nat → Int, Ev kz (d, 93, 0, [some (.inr (.inr 86)), none, none, none, none, none], [], (am_sh, am_mm U)) (none, (am_sh, am_mm U1)) ∧ (0 ≤ x1 ∧ x1 < 32) ∧ (0 ≤ x1 ∧ x1 < 32) ∧ (((¬ ((am_upd (am_upd U1 98 x1.toNat x4) 99 x1.toNat (-1)) 86 12) = (-1) : Prop)) → Ev kz ((d + 1), 191, 342, [some (.inr (.inr 86)), some (.inl x1), some (.inl x2), some (.inl x3), some (.inl x4), some (.inl x5), some (.inl x6)], [], (am_sh, am_mm (am_upd (am_upd U1 98 x1.toNat x4) 99 x1.toNat (-1)))) R) ∧ (¬ (¬ ((am_upd (am_upd U1 98 x1.toNat x4) 99 x1.toNat (-1)) 86 12) = (-1)) → ∃ (r2 : Int) (U2 : Nat → Nat → Int), Ev kz (d, 187, 0, [some (.inr (.inr 86)), some (.inr (.inl 26990)), none], [], (am_sh, am_mm (am_upd (am_upd U1 98 x1.toNat x4) 99 x1.toNat (-1)))) (some (.inl r2), (am_sh, am_mm U2)) ∧ (((r2 = 0 : Prop)) → Ev kz ((d + 1), 191, 342, [some (.inr (.inr 86)), some (.inl x1), some (.inl x2), some (.inl x3), some (.inl x4), some (.inl x5), some (.inl x6)], [], (am_sh, am_mm U2)) R) ∧ (¬ (r2 = 0) → ∃ U3 : Nat → Nat → Int, Ev kz (d, 93, 0, [some (.inr (.inr 86)), none, none, none, none, none], [], (am_sh, am_mm U2)) (none, (am_sh, am_mm U3)) ∧ ∃ (r4 : Int) (U4 : Nat → Nat → Int), Ev kz (d, 269, 0, [some (.inr (.inr 86)), some (.inl 1), none], [], (am_sh, am_mm U3)) (some (.inl r4), (am_sh, am_mm U4)) ∧ (((¬ (U4 86 8) = 0 : Prop)) → Ev kz ((d + 1), 191, 323, [some (.inr (.inr 86)), some (.inl x1), some (.inl x2), some (.inl x3), some (.inl x4), some (.inl x5), some (.inl r4)], [], (am_sh, am_mm U4)) R) ∧ (¬ (¬ (U4 86 8) = 0) → ∃ (r5 : Int) (U5 : Nat → Nat → Int), Ev kz (d, 270, 0, [some (.inr (.inr 86)), some (.inl r4), none, none], [], (am_sh, am_mm U4)) (some (.inl r5), (am_sh, am_mm U5)) ∧ (0 ≤ (w32 ((w32 (12 * (U5 86 40))) + r4)) ∧ (w32 ((w32 (12 * (U5 86 40))) + r4)) < 24) ∧ (((¬ r5 = (U5 93 (w32 ((w32 (12 * (U5 86 40))) + r4)).toNat) : Prop)) → Ev kz ((d + 1), 191, 323, [some (.inr (.inr 86)), some (.inl x1), some (.inl x2), some (.inl x3), some (.inl x4), some (.inl x5), some (.inl r4)], [], (am_sh, am_mm U5)) R) ∧ (¬ (¬ r5 = (U5 93 (w32 ((w32 (12 * (U5 86 40))) + r4)).toNat)) → ∃ U6 : Nat → Nat → Int, Ev kz (d, 196, 0, [some (.inr (.inr 86)), some (.inl 3), some (.inl (U5 86 4))], [], (am_sh, am_mm U5)) (none, (am_sh, am_mm U6)) ∧ Ev kz ((d + 1), 191, 323, [some (.inr (.inr 86)), some (.inl x1), some (.inl x2), some (.inl x3), some (.inl x4), some (.inl x5), some (.inl r4)], [], (am_sh, am_mm U6)) R))))) ∧ (¬ ((U 86 8) ≤ 0) → R = (none, (am_sh, am_mm U)))) ∧ (¬ (x5 = 0) → (((x2 = 0 : Prop)) → ∃ U7 : Nat → Nat → Int, Ev kz (d, 196, 0, [some (.inr (.inr 86)), some (.inl 4), some (.inl (U 86 4))], [], (am_sh, am_mm U)) (none, (am_sh, am_mm U7)) ∧ ((((U7 86 8) ≤ 0 : Prop)) → ∃ U8 : Nat → Nat → Int, Ev kz (d, 93, 0, [some (.inr (.inr 86)), none, none, none, none, none], [], (am_sh, am_mm U7)) (none, (am_sh, am_mm U8)) ∧ (0 ≤ x1 ∧ x1 < 32) ∧ (0 ≤ x1 ∧ x1 < 32) ∧ (((¬ ((am_upd (am_upd U8 98 x1.toNat x4) 99 x1.toNat (-1)) 86 12) = (-1) : Prop)) → Ev kz ((d + 1), 191, 342, [some (.inr (.inr 86)), some (.inl x1), some (.inl x2), some (.inl x3), some (.inl x4), some (.inl x5), some (.inl x6)], [], (am_sh, am_mm (am_upd (am_upd U8 98 x1.toNat x4) 99 x1.toNat (-1)))) R) ∧ (¬ (¬ ((am_upd (am_upd U8 98 x1.toNat x4) 99 x1.toNat (-1)) 86 12) = (-1)) → ∃ (r9 : Int) (U9 : Nat → Nat → Int), Ev kz (d, 187, 0, [some (.inr (.inr 86)), some (.inr (.inl 26990)), none], [], (am_sh, am_mm (am_upd (am_upd U8 98 x1.toNat x4) 99 x1.toNat (-1)))) (some (.inl r9), (am_sh, am_mm U9)) ∧ (((r9 = 0 : Prop)) → Ev kz ((d + 1), 191, 342, [some (.inr (.inr 86)), some (.inl x1), some (.inl x2), some (.inl x3), some (.inl x4), some (.inl x5), some (.inl x6)], [], (am_sh, am_mm U9)) R) ∧ (¬ (r9 = 0) → ∃ U10 : Nat → Nat → Int, Ev kz (d, 93, 0, [some (.inr (.inr 86)), none, none, none, none, none], [], (am_sh, am_mm U9)) (none, (am_sh, am_mm U10)) ∧ ∃ (r11 : Int) (U11 : Nat → Nat → Int), Ev kz (d, 269, 0, [some (.inr (.inr 86)), some (.inl 1), none], [], (am_sh, am_mm U10)) (some (.inl r11), (am_sh, am_mm U11)) ∧ (((¬ (U11 86 8) = 0 : Prop)) → Ev kz ((d + 1), 191, 323, [some (.inr (.inr 86)), some (.inl x1), some (.inl x2), some (.inl x3), some (.inl x4), some (.inl x5), some (.inl r11)], [], (am_sh, am_mm U11)) R) ∧ (¬ (¬ (U11 86 8) = 0) → ∃ (r12 : Int) (U12 : Nat → Nat → Int), Ev kz (d, 270, 0, [some (.inr (.inr 86)), some (.inl r11), none, none], [], (am_sh, am_mm U11)) (some (.inl r12), (am_sh, am_mm U12)) ∧ (0 ≤ (w32 ((w32 (12 * (U12 86 40))) + r11)) ∧ (w32 ((w32 (12 * (U12 86 40))) + r11)) < 24) ∧ (((¬ r12 = (U12 93 (w32 ((w32 (12 * (U12 86 40))) + r11)).toNat) : Prop)) → Ev kz ((d + 1), 191, 323, [some (.inr (.inr 86)), some (.inl x1), some (.inl x2), some (.inl x3), some (.inl x4), some (.inl x5), some (.inl r11)], [], (am_sh, am_mm U12)) R) ∧ (¬ (¬ r12 = (U12 93 (w32 ((w32 (12 * (U12 86 40))) + r11)).toNat)) → ∃ U13 : Nat → Nat → Int, Ev kz (d, 196, 0, [some (.inr (.inr 86)), some (.inl 3), some (.inl (U12 86 4))], [], (am_sh, am_mm U12)) (none, (am_sh, am_mm U13)) ∧ Ev kz ((d + 1), 191, 323, [some (.inr (.inr 86)), some (.inl x1), some (.inl x2), some (.inl x3), some (.inl x4), some (.inl x5), some (.inl r11)], [], (am_sh, am_mm U13)) R))))) ∧ (¬ ((U7 86 8) ≤ 0) → R = (none, (am_sh, am_mm U7)))) ∧ (¬ (x2 = 0) → ∃ U14 : Nat → Nat → Int, Ev kz (d, 196, 0, [some (.inr (.inr 86)), some (.inl 4), some (.inl x3)], [], (am_sh, am_mm U)) (none, (am_sh, am_mm U14)) ∧ ((((U14 86 8) ≤ 0 : Prop)) → ∃ U15 : Nat → Nat → Int, Ev kz (d, 93, 0, [some (.inr (.inr 86)), none, none, none, none, none], [], (am_sh, am_mm U14)) (none, (am_sh, am_mm U15)) ∧ (0 ≤ x1 ∧ x1 < 32) ∧ (0 ≤ x1 ∧ x1 < 32) ∧ (((¬ ((am_upd (am_upd U15 98 x1.toNat x4) 99 x1.toNat (-1)) 86 12) = (-1) : Prop)) → Ev kz ((d + 1), 191, 342, [some (.inr (.inr 86)), some (.inl x1), some (.inl x2), some (.inl x3), some (.inl x4), some (.inl x5), some (.inl x6)], [], (am_sh, am_mm (am_upd (am_upd U15 98 x1.toNat x4) 99 x1.toNat (-1)))) R) ∧ (¬ (¬ ((am_upd (am_upd U15 98 x1.toNat x4) 99 x1.toNat (-1)) 86 12) = (-1)) → ∃ (r16 : Int) (U16 : Nat → Nat → Int), Ev kz (d, 187, 0, [some (.inr (.inr 86)), some (.inr (.inl 26990)), none], [], (am_sh, am_mm (am_upd (am_upd U15 98 x1.toNat x4) 99 x1.toNat (-1)))) (some (.inl r16), (am_sh, am_mm U16)) ∧ (((r16 = 0 : Prop)) → Ev kz ((d + 1), 191, 342, [some (.inr (.inr 86)), some (.inl x1), some (.inl x2), some (.inl x3), some (.inl x4), some (.inl x5), some (.inl x6)], [], (am_sh, am_mm U16)) R) ∧ (¬ (r16 = 0) → ∃ U17 : Nat → Nat → Int, Ev kz (d, 93, 0, [some (.inr (.inr 86)), none, none, none, none, none], [], (am_sh, am_mm U16)) (none, (am_sh, am_mm U17)) ∧ ∃ (r18 : Int) (U18 : Nat → Nat → Int), Ev kz (d, 269, 0, [some (.inr (.inr 86)), some (.inl 1), none], [], (am_sh, am_mm U17)) (some (.inl r18), (am_sh, am_mm U18)) ∧ (((¬ (U18 86 8) = 0 : Prop)) → Ev kz ((d + 1), 191, 323, [some (.inr (.inr 86)), some (.inl x1), some (.inl x2), some (.inl x3), some (.inl x4), some (.inl x5), some (.inl r18)], [], (am_sh, am_mm U18)) R) ∧ (¬ (¬ (U18 86 8) = 0) → ∃ (r19 : Int) (U19 : Nat → Nat → Int), Ev kz (d, 270, 0, [some (.inr (.inr 86)), some (.inl r18), none, none], [], (am_sh, am_mm U18)) (some (.inl r19), (am_sh, am_mm U19)) ∧ (0 ≤ (w32 ((w32 (12 * (U19 86 40))) + r18)) ∧ (w32 ((w32 (12 * (U19 86 40))) + r18)) < 24) ∧ (((¬ r19 = (U19 93 (w32 ((w32 (12 * (U19 86 40))) + r18)).toNat) : Prop)) → Ev kz ((d + 1), 191, 323, [some (.inr (.inr 86)), some (.inl x1), some (.inl x2), some (.inl x3), some (.inl x4), some (.inl x5), some (.inl r18)], [], (am_sh, am_mm U19)) R) ∧ (¬ (¬ r19 = (U19 93 (w32 ((w32 (12 * (U19 86 40))) + r18)).toNat)) → ∃ U20 : Nat → Nat → Int, Ev kz (d, 196, 0, [some (.inr (.inr 86)), some (.inl 3), some (.inl (U19 86 4))], [], (am_sh, am_mm U19)) (none, (am_sh, am_mm U20)) ∧ Ev kz ((d + 1), 191, 323, [some (.inr (.inr 86)), some (.inl x1), some (.inl x2), some (.inl x3), some (.inl x4), some (.inl x5), some (.inl r18)], [], (am_sh, am_mm U20)) R))))) ∧ (¬ ((U14 86 8) ≤ 0) → R = (none, (am_sh, am_mm U14)))))) ∧ (¬ ((U 97 (U 86 40).toNat) ≤ x6) → (((¬ x5 = 0 : Prop)) → Ev kz ((d + 1), 191, 153, [some (.inr (.inr 86)), some (.inl x1), some (.inl x2), some (.inl x3), some (.inl x4), some (.inl 1), some (.inl (w32 (x6 + 1)))], [], (am_sh, am_mm U)) R) ∧ (¬ (¬ x5 = 0) → (0 ≤ (w32 ((w32 (16 * (U 86 40))) + x6)) ∧ (w32 ((w32 (16 * (U 86 40))) + x6)) < 32) ∧ (((¬ (U 98 (w32 ((w32 (16 * (U 86 40))) + x6)).toNat) = x4 : Prop)) → Ev kz ((d + 1), 191, 153, [some (.inr (.inr 86)), some (.inl x1), some (.inl x2), some (.inl x3), some (.inl x4), some (.inl 0), some (.inl (w32 (x6 + 1)))], [], (am_sh, am_mm U)) R) ∧ (¬ (¬ (U 98 (w32 ((w32 (16 * (U 86 40))) + x6)).toNat) = x4) → Ev kz ((d + 1), 191, 153, [some (.inr (.inr 86)), some (.inl x1), some (.inl x2), some (.inl x3), some (.inl x4), some (.inl 1), some (.inl (w32 (x6 + 1)))], [], (am_sh, am_mm U)) R)))) : Ev kz ((d + 1), 191, 153, [some (.inr (.inr 86)), some (.inl x1), some (.inl x2), some (.inl x3), some (.inl x4), some (.inl x5), some (.inl x6)], [], (am_sh, am_mm U)) R := by
  refine ev_seg (σ1 := ((d + 1), 191, 163, [some (.inr (.inr 86)), some (.inl x1), some (.inl x2), some (.inl x3), some (.inl x4), some (.inl x5), some (.inl x6)], [.inl (U 86 40), .inr (.inr 97), .inl x6], (am_sh, am_mm U))) 5 (fun _ => rfl) ?_
  refine eu_iald 97 (n := 2) rfl (by decide) rfl (fun _ => rfl) h.1 ?_
  have ha := h.2
  refine ev_br (P := (U 97 (U 86 40).toNat) ≤ x6) (σ1 := ((d + 1), 191, 205, [some (.inr (.inr 86)), some (.inl x1), some (.inl x2), some (.inl x3), some (.inl x4), some (.inl x5), some (.inl x6)], [], (am_sh, am_mm U))) (σ2 := ((d + 1), 191, 167, [some (.inr (.inr 86)), some (.inl x1), some (.inl x2), some (.inl x3), some (.inl x4), some (.inl x5), some (.inl x6)], [], (am_sh, am_mm U))) 1 (fun _ => rfl) (fun hc => ?_) (fun hc => ?_)
  · have ha1 := ha.1 hc
    refine ev_br (P := x5 = 0) (σ1 := ((d + 1), 191, 227, [some (.inr (.inr 86)), some (.inl x1), some (.inl x2), some (.inl x3), some (.inl x4), some (.inl x5), some (.inl x6)], [], (am_sh, am_mm U))) (σ2 := ((d + 1), 191, 210, [some (.inr (.inr 86)), some (.inl x1), some (.inl x2), some (.inl x3), some (.inl x4), some (.inl x5), some (.inl x6)], [], (am_sh, am_mm U))) 2 (fun _ => rfl) (fun hc => ?_) (fun hc => ?_)
    · have ha11 := ha1.1 hc
      refine ev_br (P := (U 86 8) ≤ 0) (σ1 := ((d + 1), 191, 235, [some (.inr (.inr 86)), some (.inl x1), some (.inl x2), some (.inl x3), some (.inl x4), some (.inl x5), some (.inl x6)], [], (am_sh, am_mm U))) (σ2 := ((d + 1), 191, 234, [some (.inr (.inr 86)), some (.inl x1), some (.inl x2), some (.inl x3), some (.inl x4), some (.inl x5), some (.inl x6)], [], (am_sh, am_mm U))) 3 (fun _ => rfl) (fun hc => ?_) (fun hc => ?_)
      · have ha111 := ha11.1 hc
        refine ev_seg (σ1 := ((d + 1), 191, 236, [some (.inr (.inr 86)), some (.inl x1), some (.inl x2), some (.inl x3), some (.inl x4), some (.inl x5), some (.inl x6)], [.inr (.inr 86)], (am_sh, am_mm U))) 1 (fun _ => rfl) ?_
        obtain ⟨U1, ha111c, ha111a⟩ := ha111
        refine ev_cal (σc := (d, 93, 0, [some (.inr (.inr 86)), none, none, none, none, none], [], (am_sh, am_mm U))) (fun _ => rfl) ha111c ?_
        show Ev kz ((d + 1), 191, 239, [some (.inr (.inr 86)), some (.inl x1), some (.inl x2), some (.inl x3), some (.inl x4), some (.inl x5), some (.inl x6)], [], (am_sh, am_mm U1)) R
        refine ev_seg (σ1 := ((d + 1), 191, 246, [some (.inr (.inr 86)), some (.inl x1), some (.inl x2), some (.inl x3), some (.inl x4), some (.inl x5), some (.inl x6)], [.inl x4, .inl x1, .inr (.inr 98)], (am_sh, am_mm U1))) 4 (fun _ => rfl) ?_
        refine eu_iast 98 (n := 32) rfl (by decide) rfl (fun _ => rfl) ha111a.1 ?_
        have ha111aa := ha111a.2
        refine ev_seg (σ1 := ((d + 1), 191, 253, [some (.inr (.inr 86)), some (.inl x1), some (.inl x2), some (.inl x3), some (.inl x4), some (.inl x5), some (.inl x6)], [.inl (-1), .inl x1, .inr (.inr 99)], (am_sh, am_mm (am_upd U1 98 x1.toNat x4)))) 4 (fun _ => rfl) ?_
        refine eu_iast 99 (n := 32) rfl (by decide) rfl (fun _ => rfl) ha111aa.1 ?_
        have ha111aaa := ha111aa.2
        refine ev_br (P := ¬ ((am_upd (am_upd U1 98 x1.toNat x4) 99 x1.toNat (-1)) 86 12) = (-1)) (σ1 := ((d + 1), 191, 342, [some (.inr (.inr 86)), some (.inl x1), some (.inl x2), some (.inl x3), some (.inl x4), some (.inl x5), some (.inl x6)], [], (am_sh, am_mm (am_upd (am_upd U1 98 x1.toNat x4) 99 x1.toNat (-1))))) (σ2 := ((d + 1), 191, 262, [some (.inr (.inr 86)), some (.inl x1), some (.inl x2), some (.inl x3), some (.inl x4), some (.inl x5), some (.inl x6)], [], (am_sh, am_mm (am_upd (am_upd U1 98 x1.toNat x4) 99 x1.toNat (-1))))) 4 (fun _ => rfl) (fun hc => ?_) (fun hc => ?_)
        · have ha111aaa1 := ha111aaa.1 hc
          exact ha111aaa1
        · have ha111aaa2 := ha111aaa.2 hc
          refine ev_seg (σ1 := ((d + 1), 191, 266, [some (.inr (.inr 86)), some (.inl x1), some (.inl x2), some (.inl x3), some (.inl x4), some (.inl x5), some (.inl x6)], [.inr (.inl 26990), .inr (.inr 86)], (am_sh, am_mm (am_upd (am_upd U1 98 x1.toNat x4) 99 x1.toNat (-1))))) 2 (fun _ => rfl) ?_
          obtain ⟨r2, U2, ha111aaa2c, ha111aaa2a⟩ := ha111aaa2
          refine ev_cal (σc := (d, 187, 0, [some (.inr (.inr 86)), some (.inr (.inl 26990)), none], [], (am_sh, am_mm (am_upd (am_upd U1 98 x1.toNat x4) 99 x1.toNat (-1))))) (fun _ => rfl) ha111aaa2c ?_
          show Ev kz ((d + 1), 191, 269, [some (.inr (.inr 86)), some (.inl x1), some (.inl x2), some (.inl x3), some (.inl x4), some (.inl x5), some (.inl x6)], [.inl r2], (am_sh, am_mm U2)) R
          refine ev_br (P := r2 = 0) (σ1 := ((d + 1), 191, 342, [some (.inr (.inr 86)), some (.inl x1), some (.inl x2), some (.inl x3), some (.inl x4), some (.inl x5), some (.inl x6)], [], (am_sh, am_mm U2))) (σ2 := ((d + 1), 191, 272, [some (.inr (.inr 86)), some (.inl x1), some (.inl x2), some (.inl x3), some (.inl x4), some (.inl x5), some (.inl x6)], [], (am_sh, am_mm U2))) 1 (fun _ => rfl) (fun hc => ?_) (fun hc => ?_)
          · have ha111aaa2a1 := ha111aaa2a.1 hc
            exact ha111aaa2a1
          · have ha111aaa2a2 := ha111aaa2a.2 hc
            refine ev_seg (σ1 := ((d + 1), 191, 273, [some (.inr (.inr 86)), some (.inl x1), some (.inl x2), some (.inl x3), some (.inl x4), some (.inl x5), some (.inl x6)], [.inr (.inr 86)], (am_sh, am_mm U2))) 1 (fun _ => rfl) ?_
            obtain ⟨U3, ha111aaa2a2c, ha111aaa2a2a⟩ := ha111aaa2a2
            refine ev_cal (σc := (d, 93, 0, [some (.inr (.inr 86)), none, none, none, none, none], [], (am_sh, am_mm U2))) (fun _ => rfl) ha111aaa2a2c ?_
            show Ev kz ((d + 1), 191, 276, [some (.inr (.inr 86)), some (.inl x1), some (.inl x2), some (.inl x3), some (.inl x4), some (.inl x5), some (.inl x6)], [], (am_sh, am_mm U3)) R
            refine ev_seg (σ1 := ((d + 1), 191, 278, [some (.inr (.inr 86)), some (.inl x1), some (.inl x2), some (.inl x3), some (.inl x4), some (.inl x5), some (.inl x6)], [.inl 1, .inr (.inr 86)], (am_sh, am_mm U3))) 2 (fun _ => rfl) ?_
            obtain ⟨r4, U4, ha111aaa2a2ac, ha111aaa2a2aa⟩ := ha111aaa2a2a
            refine ev_cal (σc := (d, 269, 0, [some (.inr (.inr 86)), some (.inl 1), none], [], (am_sh, am_mm U3))) (fun _ => rfl) ha111aaa2a2ac ?_
            show Ev kz ((d + 1), 191, 281, [some (.inr (.inr 86)), some (.inl x1), some (.inl x2), some (.inl x3), some (.inl x4), some (.inl x5), some (.inl x6)], [.inl r4], (am_sh, am_mm U4)) R
            refine ev_br (P := ¬ (U4 86 8) = 0) (σ1 := ((d + 1), 191, 323, [some (.inr (.inr 86)), some (.inl x1), some (.inl x2), some (.inl x3), some (.inl x4), some (.inl x5), some (.inl r4)], [], (am_sh, am_mm U4))) (σ2 := ((d + 1), 191, 290, [some (.inr (.inr 86)), some (.inl x1), some (.inl x2), some (.inl x3), some (.inl x4), some (.inl x5), some (.inl r4)], [], (am_sh, am_mm U4))) 4 (fun _ => rfl) (fun hc => ?_) (fun hc => ?_)
            · have ha111aaa2a2aa1 := ha111aaa2a2aa.1 hc
              exact ha111aaa2a2aa1
            · have ha111aaa2a2aa2 := ha111aaa2a2aa.2 hc
              refine ev_seg (σ1 := ((d + 1), 191, 293, [some (.inr (.inr 86)), some (.inl x1), some (.inl x2), some (.inl x3), some (.inl x4), some (.inl x5), some (.inl r4)], [.inl r4, .inr (.inr 86)], (am_sh, am_mm U4))) 2 (fun _ => rfl) ?_
              obtain ⟨r5, U5, ha111aaa2a2aa2c, ha111aaa2a2aa2a⟩ := ha111aaa2a2aa2
              refine ev_cal (σc := (d, 270, 0, [some (.inr (.inr 86)), some (.inl r4), none, none], [], (am_sh, am_mm U4))) (fun _ => rfl) ha111aaa2a2aa2c ?_
              show Ev kz ((d + 1), 191, 296, [some (.inr (.inr 86)), some (.inl x1), some (.inl x2), some (.inl x3), some (.inl x4), some (.inl x5), some (.inl r4)], [.inl r5], (am_sh, am_mm U5)) R
              refine ev_seg (σ1 := ((d + 1), 191, 310, [some (.inr (.inr 86)), some (.inl x1), some (.inl x2), some (.inl x3), some (.inl x4), some (.inl x5), some (.inl r4)], [.inl (w32 ((w32 (12 * (U5 86 40))) + r4)), .inr (.inr 93), .inl r5], (am_sh, am_mm U5))) 8 (fun _ => rfl) ?_
              refine eu_iald 93 (n := 24) rfl (by decide) rfl (fun _ => rfl) ha111aaa2a2aa2a.1 ?_
              have ha111aaa2a2aa2aa := ha111aaa2a2aa2a.2
              refine ev_br (P := ¬ r5 = (U5 93 (w32 ((w32 (12 * (U5 86 40))) + r4)).toNat)) (σ1 := ((d + 1), 191, 323, [some (.inr (.inr 86)), some (.inl x1), some (.inl x2), some (.inl x3), some (.inl x4), some (.inl x5), some (.inl r4)], [], (am_sh, am_mm U5))) (σ2 := ((d + 1), 191, 314, [some (.inr (.inr 86)), some (.inl x1), some (.inl x2), some (.inl x3), some (.inl x4), some (.inl x5), some (.inl r4)], [], (am_sh, am_mm U5))) 1 (fun _ => rfl) (fun hc => ?_) (fun hc => ?_)
              · have ha111aaa2a2aa2aa1 := ha111aaa2a2aa2aa.1 hc
                exact ha111aaa2a2aa2aa1
              · have ha111aaa2a2aa2aa2 := ha111aaa2a2aa2aa.2 hc
                refine ev_seg (σ1 := ((d + 1), 191, 320, [some (.inr (.inr 86)), some (.inl x1), some (.inl x2), some (.inl x3), some (.inl x4), some (.inl x5), some (.inl r4)], [.inl (U5 86 4), .inl 3, .inr (.inr 86)], (am_sh, am_mm U5))) 4 (fun _ => rfl) ?_
                obtain ⟨U6, ha111aaa2a2aa2aa2c, ha111aaa2a2aa2aa2a⟩ := ha111aaa2a2aa2aa2
                refine ev_cal (σc := (d, 196, 0, [some (.inr (.inr 86)), some (.inl 3), some (.inl (U5 86 4))], [], (am_sh, am_mm U5))) (fun _ => rfl) ha111aaa2a2aa2aa2c ?_
                show Ev kz ((d + 1), 191, 323, [some (.inr (.inr 86)), some (.inl x1), some (.inl x2), some (.inl x3), some (.inl x4), some (.inl x5), some (.inl r4)], [], (am_sh, am_mm U6)) R
                exact ha111aaa2a2aa2aa2a
      · have ha112 := ha11.2 hc
        subst ha112
        exact ev_end 1 (fun _ => rfl)
    · have ha12 := ha1.2 hc
      refine ev_br (P := x2 = 0) (σ1 := ((d + 1), 191, 220, [some (.inr (.inr 86)), some (.inl x1), some (.inl x2), some (.inl x3), some (.inl x4), some (.inl x5), some (.inl x6)], [.inl 4, .inr (.inr 86)], (am_sh, am_mm U))) (σ2 := ((d + 1), 191, 216, [some (.inr (.inr 86)), some (.inl x1), some (.inl x2), some (.inl x3), some (.inl x4), some (.inl x5), some (.inl x6)], [.inl 4, .inr (.inr 86)], (am_sh, am_mm U))) 4 (fun _ => rfl) (fun hc => ?_) (fun hc => ?_)
      · have ha121 := ha12.1 hc
        refine ev_seg (σ1 := ((d + 1), 191, 224, [some (.inr (.inr 86)), some (.inl x1), some (.inl x2), some (.inl x3), some (.inl x4), some (.inl x5), some (.inl x6)], [.inl (U 86 4), .inl 4, .inr (.inr 86)], (am_sh, am_mm U))) 2 (fun _ => rfl) ?_
        obtain ⟨U7, ha121c, ha121a⟩ := ha121
        refine ev_cal (σc := (d, 196, 0, [some (.inr (.inr 86)), some (.inl 4), some (.inl (U 86 4))], [], (am_sh, am_mm U))) (fun _ => rfl) ha121c ?_
        show Ev kz ((d + 1), 191, 227, [some (.inr (.inr 86)), some (.inl x1), some (.inl x2), some (.inl x3), some (.inl x4), some (.inl x5), some (.inl x6)], [], (am_sh, am_mm U7)) R
        refine ev_br (P := (U7 86 8) ≤ 0) (σ1 := ((d + 1), 191, 235, [some (.inr (.inr 86)), some (.inl x1), some (.inl x2), some (.inl x3), some (.inl x4), some (.inl x5), some (.inl x6)], [], (am_sh, am_mm U7))) (σ2 := ((d + 1), 191, 234, [some (.inr (.inr 86)), some (.inl x1), some (.inl x2), some (.inl x3), some (.inl x4), some (.inl x5), some (.inl x6)], [], (am_sh, am_mm U7))) 3 (fun _ => rfl) (fun hc => ?_) (fun hc => ?_)
        · have ha121a1 := ha121a.1 hc
          refine ev_seg (σ1 := ((d + 1), 191, 236, [some (.inr (.inr 86)), some (.inl x1), some (.inl x2), some (.inl x3), some (.inl x4), some (.inl x5), some (.inl x6)], [.inr (.inr 86)], (am_sh, am_mm U7))) 1 (fun _ => rfl) ?_
          obtain ⟨U8, ha121a1c, ha121a1a⟩ := ha121a1
          refine ev_cal (σc := (d, 93, 0, [some (.inr (.inr 86)), none, none, none, none, none], [], (am_sh, am_mm U7))) (fun _ => rfl) ha121a1c ?_
          show Ev kz ((d + 1), 191, 239, [some (.inr (.inr 86)), some (.inl x1), some (.inl x2), some (.inl x3), some (.inl x4), some (.inl x5), some (.inl x6)], [], (am_sh, am_mm U8)) R
          refine ev_seg (σ1 := ((d + 1), 191, 246, [some (.inr (.inr 86)), some (.inl x1), some (.inl x2), some (.inl x3), some (.inl x4), some (.inl x5), some (.inl x6)], [.inl x4, .inl x1, .inr (.inr 98)], (am_sh, am_mm U8))) 4 (fun _ => rfl) ?_
          refine eu_iast 98 (n := 32) rfl (by decide) rfl (fun _ => rfl) ha121a1a.1 ?_
          have ha121a1aa := ha121a1a.2
          refine ev_seg (σ1 := ((d + 1), 191, 253, [some (.inr (.inr 86)), some (.inl x1), some (.inl x2), some (.inl x3), some (.inl x4), some (.inl x5), some (.inl x6)], [.inl (-1), .inl x1, .inr (.inr 99)], (am_sh, am_mm (am_upd U8 98 x1.toNat x4)))) 4 (fun _ => rfl) ?_
          refine eu_iast 99 (n := 32) rfl (by decide) rfl (fun _ => rfl) ha121a1aa.1 ?_
          have ha121a1aaa := ha121a1aa.2
          refine ev_br (P := ¬ ((am_upd (am_upd U8 98 x1.toNat x4) 99 x1.toNat (-1)) 86 12) = (-1)) (σ1 := ((d + 1), 191, 342, [some (.inr (.inr 86)), some (.inl x1), some (.inl x2), some (.inl x3), some (.inl x4), some (.inl x5), some (.inl x6)], [], (am_sh, am_mm (am_upd (am_upd U8 98 x1.toNat x4) 99 x1.toNat (-1))))) (σ2 := ((d + 1), 191, 262, [some (.inr (.inr 86)), some (.inl x1), some (.inl x2), some (.inl x3), some (.inl x4), some (.inl x5), some (.inl x6)], [], (am_sh, am_mm (am_upd (am_upd U8 98 x1.toNat x4) 99 x1.toNat (-1))))) 4 (fun _ => rfl) (fun hc => ?_) (fun hc => ?_)
          · have ha121a1aaa1 := ha121a1aaa.1 hc
            exact ha121a1aaa1
          · have ha121a1aaa2 := ha121a1aaa.2 hc
            refine ev_seg (σ1 := ((d + 1), 191, 266, [some (.inr (.inr 86)), some (.inl x1), some (.inl x2), some (.inl x3), some (.inl x4), some (.inl x5), some (.inl x6)], [.inr (.inl 26990), .inr (.inr 86)], (am_sh, am_mm (am_upd (am_upd U8 98 x1.toNat x4) 99 x1.toNat (-1))))) 2 (fun _ => rfl) ?_
            obtain ⟨r9, U9, ha121a1aaa2c, ha121a1aaa2a⟩ := ha121a1aaa2
            refine ev_cal (σc := (d, 187, 0, [some (.inr (.inr 86)), some (.inr (.inl 26990)), none], [], (am_sh, am_mm (am_upd (am_upd U8 98 x1.toNat x4) 99 x1.toNat (-1))))) (fun _ => rfl) ha121a1aaa2c ?_
            show Ev kz ((d + 1), 191, 269, [some (.inr (.inr 86)), some (.inl x1), some (.inl x2), some (.inl x3), some (.inl x4), some (.inl x5), some (.inl x6)], [.inl r9], (am_sh, am_mm U9)) R
            refine ev_br (P := r9 = 0) (σ1 := ((d + 1), 191, 342, [some (.inr (.inr 86)), some (.inl x1), some (.inl x2), some (.inl x3), some (.inl x4), some (.inl x5), some (.inl x6)], [], (am_sh, am_mm U9))) (σ2 := ((d + 1), 191, 272, [some (.inr (.inr 86)), some (.inl x1), some (.inl x2), some (.inl x3), some (.inl x4), some (.inl x5), some (.inl x6)], [], (am_sh, am_mm U9))) 1 (fun _ => rfl) (fun hc => ?_) (fun hc => ?_)
            · have ha121a1aaa2a1 := ha121a1aaa2a.1 hc
              exact ha121a1aaa2a1
            · have ha121a1aaa2a2 := ha121a1aaa2a.2 hc
              refine ev_seg (σ1 := ((d + 1), 191, 273, [some (.inr (.inr 86)), some (.inl x1), some (.inl x2), some (.inl x3), some (.inl x4), some (.inl x5), some (.inl x6)], [.inr (.inr 86)], (am_sh, am_mm U9))) 1 (fun _ => rfl) ?_
              obtain ⟨U10, ha121a1aaa2a2c, ha121a1aaa2a2a⟩ := ha121a1aaa2a2
              refine ev_cal (σc := (d, 93, 0, [some (.inr (.inr 86)), none, none, none, none, none], [], (am_sh, am_mm U9))) (fun _ => rfl) ha121a1aaa2a2c ?_
              show Ev kz ((d + 1), 191, 276, [some (.inr (.inr 86)), some (.inl x1), some (.inl x2), some (.inl x3), some (.inl x4), some (.inl x5), some (.inl x6)], [], (am_sh, am_mm U10)) R
              refine ev_seg (σ1 := ((d + 1), 191, 278, [some (.inr (.inr 86)), some (.inl x1), some (.inl x2), some (.inl x3), some (.inl x4), some (.inl x5), some (.inl x6)], [.inl 1, .inr (.inr 86)], (am_sh, am_mm U10))) 2 (fun _ => rfl) ?_
              obtain ⟨r11, U11, ha121a1aaa2a2ac, ha121a1aaa2a2aa⟩ := ha121a1aaa2a2a
              refine ev_cal (σc := (d, 269, 0, [some (.inr (.inr 86)), some (.inl 1), none], [], (am_sh, am_mm U10))) (fun _ => rfl) ha121a1aaa2a2ac ?_
              show Ev kz ((d + 1), 191, 281, [some (.inr (.inr 86)), some (.inl x1), some (.inl x2), some (.inl x3), some (.inl x4), some (.inl x5), some (.inl x6)], [.inl r11], (am_sh, am_mm U11)) R
              refine ev_br (P := ¬ (U11 86 8) = 0) (σ1 := ((d + 1), 191, 323, [some (.inr (.inr 86)), some (.inl x1), some (.inl x2), some (.inl x3), some (.inl x4), some (.inl x5), some (.inl r11)], [], (am_sh, am_mm U11))) (σ2 := ((d + 1), 191, 290, [some (.inr (.inr 86)), some (.inl x1), some (.inl x2), some (.inl x3), some (.inl x4), some (.inl x5), some (.inl r11)], [], (am_sh, am_mm U11))) 4 (fun _ => rfl) (fun hc => ?_) (fun hc => ?_)
              · have ha121a1aaa2a2aa1 := ha121a1aaa2a2aa.1 hc
                exact ha121a1aaa2a2aa1
              · have ha121a1aaa2a2aa2 := ha121a1aaa2a2aa.2 hc
                refine ev_seg (σ1 := ((d + 1), 191, 293, [some (.inr (.inr 86)), some (.inl x1), some (.inl x2), some (.inl x3), some (.inl x4), some (.inl x5), some (.inl r11)], [.inl r11, .inr (.inr 86)], (am_sh, am_mm U11))) 2 (fun _ => rfl) ?_
                obtain ⟨r12, U12, ha121a1aaa2a2aa2c, ha121a1aaa2a2aa2a⟩ := ha121a1aaa2a2aa2
                refine ev_cal (σc := (d, 270, 0, [some (.inr (.inr 86)), some (.inl r11), none, none], [], (am_sh, am_mm U11))) (fun _ => rfl) ha121a1aaa2a2aa2c ?_
                show Ev kz ((d + 1), 191, 296, [some (.inr (.inr 86)), some (.inl x1), some (.inl x2), some (.inl x3), some (.inl x4), some (.inl x5), some (.inl r11)], [.inl r12], (am_sh, am_mm U12)) R
                refine ev_seg (σ1 := ((d + 1), 191, 310, [some (.inr (.inr 86)), some (.inl x1), some (.inl x2), some (.inl x3), some (.inl x4), some (.inl x5), some (.inl r11)], [.inl (w32 ((w32 (12 * (U12 86 40))) + r11)), .inr (.inr 93), .inl r12], (am_sh, am_mm U12))) 8 (fun _ => rfl) ?_
                refine eu_iald 93 (n := 24) rfl (by decide) rfl (fun _ => rfl) ha121a1aaa2a2aa2a.1 ?_
                have ha121a1aaa2a2aa2aa := ha121a1aaa2a2aa2a.2
                refine ev_br (P := ¬ r12 = (U12 93 (w32 ((w32 (12 * (U12 86 40))) + r11)).toNat)) (σ1 := ((d + 1), 191, 323, [some (.inr (.inr 86)), some (.inl x1), some (.inl x2), some (.inl x3), some (.inl x4), some (.inl x5), some (.inl r11)], [], (am_sh, am_mm U12))) (σ2 := ((d + 1), 191, 314, [some (.inr (.inr 86)), some (.inl x1), some (.inl x2), some (.inl x3), some (.inl x4), some (.inl x5), some (.inl r11)], [], (am_sh, am_mm U12))) 1 (fun _ => rfl) (fun hc => ?_) (fun hc => ?_)
                · have ha121a1aaa2a2aa2aa1 := ha121a1aaa2a2aa2aa.1 hc
                  exact ha121a1aaa2a2aa2aa1
                · have ha121a1aaa2a2aa2aa2 := ha121a1aaa2a2aa2aa.2 hc
                  refine ev_seg (σ1 := ((d + 1), 191, 320, [some (.inr (.inr 86)), some (.inl x1), some (.inl x2), some (.inl x3), some (.inl x4), some (.inl x5), some (.inl r11)], [.inl (U12 86 4), .inl 3, .inr (.inr 86)], (am_sh, am_mm U12))) 4 (fun _ => rfl) ?_
                  obtain ⟨U13, ha121a1aaa2a2aa2aa2c, ha121a1aaa2a2aa2aa2a⟩ := ha121a1aaa2a2aa2aa2
                  refine ev_cal (σc := (d, 196, 0, [some (.inr (.inr 86)), some (.inl 3), some (.inl (U12 86 4))], [], (am_sh, am_mm U12))) (fun _ => rfl) ha121a1aaa2a2aa2aa2c ?_
                  show Ev kz ((d + 1), 191, 323, [some (.inr (.inr 86)), some (.inl x1), some (.inl x2), some (.inl x3), some (.inl x4), some (.inl x5), some (.inl r11)], [], (am_sh, am_mm U13)) R
                  exact ha121a1aaa2a2aa2aa2a
        · have ha121a2 := ha121a.2 hc
          subst ha121a2
          exact ev_end 1 (fun _ => rfl)
      · have ha122 := ha12.2 hc
        refine ev_seg (σ1 := ((d + 1), 191, 224, [some (.inr (.inr 86)), some (.inl x1), some (.inl x2), some (.inl x3), some (.inl x4), some (.inl x5), some (.inl x6)], [.inl x3, .inl 4, .inr (.inr 86)], (am_sh, am_mm U))) 2 (fun _ => rfl) ?_
        obtain ⟨U14, ha122c, ha122a⟩ := ha122
        refine ev_cal (σc := (d, 196, 0, [some (.inr (.inr 86)), some (.inl 4), some (.inl x3)], [], (am_sh, am_mm U))) (fun _ => rfl) ha122c ?_
        show Ev kz ((d + 1), 191, 227, [some (.inr (.inr 86)), some (.inl x1), some (.inl x2), some (.inl x3), some (.inl x4), some (.inl x5), some (.inl x6)], [], (am_sh, am_mm U14)) R
        refine ev_br (P := (U14 86 8) ≤ 0) (σ1 := ((d + 1), 191, 235, [some (.inr (.inr 86)), some (.inl x1), some (.inl x2), some (.inl x3), some (.inl x4), some (.inl x5), some (.inl x6)], [], (am_sh, am_mm U14))) (σ2 := ((d + 1), 191, 234, [some (.inr (.inr 86)), some (.inl x1), some (.inl x2), some (.inl x3), some (.inl x4), some (.inl x5), some (.inl x6)], [], (am_sh, am_mm U14))) 3 (fun _ => rfl) (fun hc => ?_) (fun hc => ?_)
        · have ha122a1 := ha122a.1 hc
          refine ev_seg (σ1 := ((d + 1), 191, 236, [some (.inr (.inr 86)), some (.inl x1), some (.inl x2), some (.inl x3), some (.inl x4), some (.inl x5), some (.inl x6)], [.inr (.inr 86)], (am_sh, am_mm U14))) 1 (fun _ => rfl) ?_
          obtain ⟨U15, ha122a1c, ha122a1a⟩ := ha122a1
          refine ev_cal (σc := (d, 93, 0, [some (.inr (.inr 86)), none, none, none, none, none], [], (am_sh, am_mm U14))) (fun _ => rfl) ha122a1c ?_
          show Ev kz ((d + 1), 191, 239, [some (.inr (.inr 86)), some (.inl x1), some (.inl x2), some (.inl x3), some (.inl x4), some (.inl x5), some (.inl x6)], [], (am_sh, am_mm U15)) R
          refine ev_seg (σ1 := ((d + 1), 191, 246, [some (.inr (.inr 86)), some (.inl x1), some (.inl x2), some (.inl x3), some (.inl x4), some (.inl x5), some (.inl x6)], [.inl x4, .inl x1, .inr (.inr 98)], (am_sh, am_mm U15))) 4 (fun _ => rfl) ?_
          refine eu_iast 98 (n := 32) rfl (by decide) rfl (fun _ => rfl) ha122a1a.1 ?_
          have ha122a1aa := ha122a1a.2
          refine ev_seg (σ1 := ((d + 1), 191, 253, [some (.inr (.inr 86)), some (.inl x1), some (.inl x2), some (.inl x3), some (.inl x4), some (.inl x5), some (.inl x6)], [.inl (-1), .inl x1, .inr (.inr 99)], (am_sh, am_mm (am_upd U15 98 x1.toNat x4)))) 4 (fun _ => rfl) ?_
          refine eu_iast 99 (n := 32) rfl (by decide) rfl (fun _ => rfl) ha122a1aa.1 ?_
          have ha122a1aaa := ha122a1aa.2
          refine ev_br (P := ¬ ((am_upd (am_upd U15 98 x1.toNat x4) 99 x1.toNat (-1)) 86 12) = (-1)) (σ1 := ((d + 1), 191, 342, [some (.inr (.inr 86)), some (.inl x1), some (.inl x2), some (.inl x3), some (.inl x4), some (.inl x5), some (.inl x6)], [], (am_sh, am_mm (am_upd (am_upd U15 98 x1.toNat x4) 99 x1.toNat (-1))))) (σ2 := ((d + 1), 191, 262, [some (.inr (.inr 86)), some (.inl x1), some (.inl x2), some (.inl x3), some (.inl x4), some (.inl x5), some (.inl x6)], [], (am_sh, am_mm (am_upd (am_upd U15 98 x1.toNat x4) 99 x1.toNat (-1))))) 4 (fun _ => rfl) (fun hc => ?_) (fun hc => ?_)
          · have ha122a1aaa1 := ha122a1aaa.1 hc
            exact ha122a1aaa1
          · have ha122a1aaa2 := ha122a1aaa.2 hc
            refine ev_seg (σ1 := ((d + 1), 191, 266, [some (.inr (.inr 86)), some (.inl x1), some (.inl x2), some (.inl x3), some (.inl x4), some (.inl x5), some (.inl x6)], [.inr (.inl 26990), .inr (.inr 86)], (am_sh, am_mm (am_upd (am_upd U15 98 x1.toNat x4) 99 x1.toNat (-1))))) 2 (fun _ => rfl) ?_
            obtain ⟨r16, U16, ha122a1aaa2c, ha122a1aaa2a⟩ := ha122a1aaa2
            refine ev_cal (σc := (d, 187, 0, [some (.inr (.inr 86)), some (.inr (.inl 26990)), none], [], (am_sh, am_mm (am_upd (am_upd U15 98 x1.toNat x4) 99 x1.toNat (-1))))) (fun _ => rfl) ha122a1aaa2c ?_
            show Ev kz ((d + 1), 191, 269, [some (.inr (.inr 86)), some (.inl x1), some (.inl x2), some (.inl x3), some (.inl x4), some (.inl x5), some (.inl x6)], [.inl r16], (am_sh, am_mm U16)) R
            refine ev_br (P := r16 = 0) (σ1 := ((d + 1), 191, 342, [some (.inr (.inr 86)), some (.inl x1), some (.inl x2), some (.inl x3), some (.inl x4), some (.inl x5), some (.inl x6)], [], (am_sh, am_mm U16))) (σ2 := ((d + 1), 191, 272, [some (.inr (.inr 86)), some (.inl x1), some (.inl x2), some (.inl x3), some (.inl x4), some (.inl x5), some (.inl x6)], [], (am_sh, am_mm U16))) 1 (fun _ => rfl) (fun hc => ?_) (fun hc => ?_)
            · have ha122a1aaa2a1 := ha122a1aaa2a.1 hc
              exact ha122a1aaa2a1
            · have ha122a1aaa2a2 := ha122a1aaa2a.2 hc
              refine ev_seg (σ1 := ((d + 1), 191, 273, [some (.inr (.inr 86)), some (.inl x1), some (.inl x2), some (.inl x3), some (.inl x4), some (.inl x5), some (.inl x6)], [.inr (.inr 86)], (am_sh, am_mm U16))) 1 (fun _ => rfl) ?_
              obtain ⟨U17, ha122a1aaa2a2c, ha122a1aaa2a2a⟩ := ha122a1aaa2a2
              refine ev_cal (σc := (d, 93, 0, [some (.inr (.inr 86)), none, none, none, none, none], [], (am_sh, am_mm U16))) (fun _ => rfl) ha122a1aaa2a2c ?_
              show Ev kz ((d + 1), 191, 276, [some (.inr (.inr 86)), some (.inl x1), some (.inl x2), some (.inl x3), some (.inl x4), some (.inl x5), some (.inl x6)], [], (am_sh, am_mm U17)) R
              refine ev_seg (σ1 := ((d + 1), 191, 278, [some (.inr (.inr 86)), some (.inl x1), some (.inl x2), some (.inl x3), some (.inl x4), some (.inl x5), some (.inl x6)], [.inl 1, .inr (.inr 86)], (am_sh, am_mm U17))) 2 (fun _ => rfl) ?_
              obtain ⟨r18, U18, ha122a1aaa2a2ac, ha122a1aaa2a2aa⟩ := ha122a1aaa2a2a
              refine ev_cal (σc := (d, 269, 0, [some (.inr (.inr 86)), some (.inl 1), none], [], (am_sh, am_mm U17))) (fun _ => rfl) ha122a1aaa2a2ac ?_
              show Ev kz ((d + 1), 191, 281, [some (.inr (.inr 86)), some (.inl x1), some (.inl x2), some (.inl x3), some (.inl x4), some (.inl x5), some (.inl x6)], [.inl r18], (am_sh, am_mm U18)) R
              refine ev_br (P := ¬ (U18 86 8) = 0) (σ1 := ((d + 1), 191, 323, [some (.inr (.inr 86)), some (.inl x1), some (.inl x2), some (.inl x3), some (.inl x4), some (.inl x5), some (.inl r18)], [], (am_sh, am_mm U18))) (σ2 := ((d + 1), 191, 290, [some (.inr (.inr 86)), some (.inl x1), some (.inl x2), some (.inl x3), some (.inl x4), some (.inl x5), some (.inl r18)], [], (am_sh, am_mm U18))) 4 (fun _ => rfl) (fun hc => ?_) (fun hc => ?_)
              · have ha122a1aaa2a2aa1 := ha122a1aaa2a2aa.1 hc
                exact ha122a1aaa2a2aa1
              · have ha122a1aaa2a2aa2 := ha122a1aaa2a2aa.2 hc
                refine ev_seg (σ1 := ((d + 1), 191, 293, [some (.inr (.inr 86)), some (.inl x1), some (.inl x2), some (.inl x3), some (.inl x4), some (.inl x5), some (.inl r18)], [.inl r18, .inr (.inr 86)], (am_sh, am_mm U18))) 2 (fun _ => rfl) ?_
                obtain ⟨r19, U19, ha122a1aaa2a2aa2c, ha122a1aaa2a2aa2a⟩ := ha122a1aaa2a2aa2
                refine ev_cal (σc := (d, 270, 0, [some (.inr (.inr 86)), some (.inl r18), none, none], [], (am_sh, am_mm U18))) (fun _ => rfl) ha122a1aaa2a2aa2c ?_
                show Ev kz ((d + 1), 191, 296, [some (.inr (.inr 86)), some (.inl x1), some (.inl x2), some (.inl x3), some (.inl x4), some (.inl x5), some (.inl r18)], [.inl r19], (am_sh, am_mm U19)) R
                refine ev_seg (σ1 := ((d + 1), 191, 310, [some (.inr (.inr 86)), some (.inl x1), some (.inl x2), some (.inl x3), some (.inl x4), some (.inl x5), some (.inl r18)], [.inl (w32 ((w32 (12 * (U19 86 40))) + r18)), .inr (.inr 93), .inl r19], (am_sh, am_mm U19))) 8 (fun _ => rfl) ?_
                refine eu_iald 93 (n := 24) rfl (by decide) rfl (fun _ => rfl) ha122a1aaa2a2aa2a.1 ?_
                have ha122a1aaa2a2aa2aa := ha122a1aaa2a2aa2a.2
                refine ev_br (P := ¬ r19 = (U19 93 (w32 ((w32 (12 * (U19 86 40))) + r18)).toNat)) (σ1 := ((d + 1), 191, 323, [some (.inr (.inr 86)), some (.inl x1), some (.inl x2), some (.inl x3), some (.inl x4), some (.inl x5), some (.inl r18)], [], (am_sh, am_mm U19))) (σ2 := ((d + 1), 191, 314, [some (.inr (.inr 86)), some (.inl x1), some (.inl x2), some (.inl x3), some (.inl x4), some (.inl x5), some (.inl r18)], [], (am_sh, am_mm U19))) 1 (fun _ => rfl) (fun hc => ?_) (fun hc => ?_)
                · have ha122a1aaa2a2aa2aa1 := ha122a1aaa2a2aa2aa.1 hc
                  exact ha122a1aaa2a2aa2aa1
                · have ha122a1aaa2a2aa2aa2 := ha122a1aaa2a2aa2aa.2 hc
                  refine ev_seg (σ1 := ((d + 1), 191, 320, [some (.inr (.inr 86)), some (.inl x1), some (.inl x2), some (.inl x3), some (.inl x4), some (.inl x5), some (.inl r18)], [.inl (U19 86 4), .inl 3, .inr (.inr 86)], (am_sh, am_mm U19))) 4 (fun _ => rfl) ?_
                  obtain ⟨U20, ha122a1aaa2a2aa2aa2c, ha122a1aaa2a2aa2aa2a⟩ := ha122a1aaa2a2aa2aa2
                  refine ev_cal (σc := (d, 196, 0, [some (.inr (.inr 86)), some (.inl 3), some (.inl (U19 86 4))], [], (am_sh, am_mm U19))) (fun _ => rfl) ha122a1aaa2a2aa2aa2c ?_
                  show Ev kz ((d + 1), 191, 323, [some (.inr (.inr 86)), some (.inl x1), some (.inl x2), some (.inl x3), some (.inl x4), some (.inl x5), some (.inl r18)], [], (am_sh, am_mm U20)) R
                  exact ha122a1aaa2a2aa2aa2a
        · have ha122a2 := ha122a.2 hc
          subst ha122a2
          exact ev_end 1 (fun _ => rfl)
  · have ha2 := ha.2 hc
    refine ev_br (P := ¬ x5 = 0) (σ1 := ((d + 1), 191, 192, [some (.inr (.inr 86)), some (.inl x1), some (.inl x2), some (.inl x3), some (.inl x4), some (.inl x5), some (.inl x6)], [], (am_sh, am_mm U))) (σ2 := ((d + 1), 191, 172, [some (.inr (.inr 86)), some (.inl x1), some (.inl x2), some (.inl x3), some (.inl x4), some (.inl x5), some (.inl x6)], [], (am_sh, am_mm U))) 2 (fun _ => rfl) (fun hc => ?_) (fun hc => ?_)
    · have ha21 := ha2.1 hc
      refine ev_seg (σ1 := ((d + 1), 191, 153, [some (.inr (.inr 86)), some (.inl x1), some (.inl x2), some (.inl x3), some (.inl x4), some (.inl 1), some (.inl (w32 (x6 + 1)))], [], (am_sh, am_mm U))) 5 (fun _ => rfl) ?_
      exact ha21
    · have ha22 := ha2.2 hc
      refine ev_seg (σ1 := ((d + 1), 191, 186, [some (.inr (.inr 86)), some (.inl x1), some (.inl x2), some (.inl x3), some (.inl x4), some (.inl x5), some (.inl x6)], [.inl (w32 ((w32 (16 * (U 86 40))) + x6)), .inr (.inr 98)], (am_sh, am_mm U))) 8 (fun _ => rfl) ?_
      refine eu_iald 98 (n := 32) rfl (by decide) rfl (fun _ => rfl) ha22.1 ?_
      have ha22a := ha22.2
      refine ev_br (P := ¬ (U 98 (w32 ((w32 (16 * (U 86 40))) + x6)).toNat) = x4) (σ1 := ((d + 1), 191, 196, [some (.inr (.inr 86)), some (.inl x1), some (.inl x2), some (.inl x3), some (.inl x4), some (.inl x5), some (.inl x6)], [], (am_sh, am_mm U))) (σ2 := ((d + 1), 191, 192, [some (.inr (.inr 86)), some (.inl x1), some (.inl x2), some (.inl x3), some (.inl x4), some (.inl x5), some (.inl x6)], [], (am_sh, am_mm U))) 2 (fun _ => rfl) (fun hc => ?_) (fun hc => ?_)
      · have ha22a1 := ha22a.1 hc
        refine ev_seg (σ1 := ((d + 1), 191, 153, [some (.inr (.inr 86)), some (.inl x1), some (.inl x2), some (.inl x3), some (.inl x4), some (.inl 0), some (.inl (w32 (x6 + 1)))], [], (am_sh, am_mm U))) 4 (fun _ => rfl) ?_
        exact ha22a1
      · have ha22a2 := ha22a.2 hc
        refine ev_seg (σ1 := ((d + 1), 191, 153, [some (.inr (.inr 86)), some (.inl x1), some (.inl x2), some (.inl x3), some (.inl x4), some (.inl 1), some (.inl (w32 (x6 + 1)))], [], (am_sh, am_mm U))) 5 (fun _ => rfl) ?_
        exact ha22a2
set_option maxRecDepth 8000 in
theorem st191_86_342 (kz : am_Z) (d : Nat) (x1 x2 x3 x4 x5 x6 : Int) (U : Nat → Nat → Int) (R : Option am_V × am_M) (h : (((¬ (U 86 8) = 0 : Prop)) → R = (none, (am_sh, am_mm U))) ∧ (¬ (¬ (U 86 8) = 0) → (0 ≤ (U 86 40) ∧ (U 86 40) < 2) ∧ (0 ≤ (U 86 40) ∧ (U 86 40) < 2) ∧ R = (none, (am_sh, am_mm (am_upd U 97 (U 86 40).toNat (w32 ((U 97 (U 86 40).toNat) + 1))))))) : Ev kz ((d + 1), 191, 342, [some (.inr (.inr 86)), some (.inl x1), some (.inl x2), some (.inl x3), some (.inl x4), some (.inl x5), some (.inl x6)], [], (am_sh, am_mm U)) R := by
  refine ev_br (P := ¬ (U 86 8) = 0) (σ1 := ((d + 1), 191, 362, [some (.inr (.inr 86)), some (.inl x1), some (.inl x2), some (.inl x3), some (.inl x4), some (.inl x5), some (.inl x6)], [], (am_sh, am_mm U))) (σ2 := ((d + 1), 191, 349, [some (.inr (.inr 86)), some (.inl x1), some (.inl x2), some (.inl x3), some (.inl x4), some (.inl x5), some (.inl x6)], [], (am_sh, am_mm U))) 3 (fun _ => rfl) (fun hc => ?_) (fun hc => ?_)
  · have h1 := h.1 hc
    subst h1
    exact ev_end 1 (fun _ => rfl)
  · have h2 := h.2 hc
    refine ev_seg (σ1 := ((d + 1), 191, 358, [some (.inr (.inr 86)), some (.inl x1), some (.inl x2), some (.inl x3), some (.inl x4), some (.inl x5), some (.inl x6)], [.inl (U 86 40), .inr (.inr 97), .inl (U 86 40), .inr (.inr 97)], (am_sh, am_mm U))) 5 (fun _ => rfl) ?_
    refine eu_iald 97 (n := 2) rfl (by decide) rfl (fun _ => rfl) h2.1 ?_
    have h2a := h2.2
    refine ev_seg (σ1 := ((d + 1), 191, 361, [some (.inr (.inr 86)), some (.inl x1), some (.inl x2), some (.inl x3), some (.inl x4), some (.inl x5), some (.inl x6)], [.inl (w32 ((U 97 (U 86 40).toNat) + 1)), .inl (U 86 40), .inr (.inr 97)], (am_sh, am_mm U))) 2 (fun _ => rfl) ?_
    refine eu_iast 97 (n := 2) rfl (by decide) rfl (fun _ => rfl) h2a.1 ?_
    have h2aa := h2a.2
    subst h2aa
    exact ev_end 1 (fun _ => rfl)
set_option maxRecDepth 8000 in
theorem st191_86_323 (kz : am_Z) (d : Nat) (x1 x2 x3 x4 x5 x6 : Int) (U : Nat → Nat → Int) (R : Option am_V × am_M) (h : (((¬ (U 86 8) = 0 : Prop)) → (0 ≤ x1 ∧ x1 < 32) ∧ Ev kz ((d + 1), 191, 342, [some (.inr (.inr 86)), some (.inl x1), some (.inl x2), some (.inl x3), some (.inl x4), some (.inl x5), some (.inl x6)], [], (am_sh, am_mm (am_upd U 99 x1.toNat x6))) R) ∧ (¬ (¬ (U 86 8) = 0) → ∃ U1 : Nat → Nat → Int, Ev kz (d, 93, 0, [some (.inr (.inr 86)), none, none, none, none, none], [], (am_sh, am_mm U)) (none, (am_sh, am_mm U1)) ∧ (0 ≤ x1 ∧ x1 < 32) ∧ Ev kz ((d + 1), 191, 342, [some (.inr (.inr 86)), some (.inl x1), some (.inl x2), some (.inl x3), some (.inl x4), some (.inl x5), some (.inl x6)], [], (am_sh, am_mm (am_upd U1 99 x1.toNat x6))) R)) : Ev kz ((d + 1), 191, 323, [some (.inr (.inr 86)), some (.inl x1), some (.inl x2), some (.inl x3), some (.inl x4), some (.inl x5), some (.inl x6)], [], (am_sh, am_mm U)) R := by
  refine ev_br (P := ¬ (U 86 8) = 0) (σ1 := ((d + 1), 191, 334, [some (.inr (.inr 86)), some (.inl x1), some (.inl x2), some (.inl x3), some (.inl x4), some (.inl x5), some (.inl x6)], [], (am_sh, am_mm U))) (σ2 := ((d + 1), 191, 330, [some (.inr (.inr 86)), some (.inl x1), some (.inl x2), some (.inl x3), some (.inl x4), some (.inl x5), some (.inl x6)], [], (am_sh, am_mm U))) 3 (fun _ => rfl) (fun hc => ?_) (fun hc => ?_)
  · have h1 := h.1 hc
    refine ev_seg (σ1 := ((d + 1), 191, 341, [some (.inr (.inr 86)), some (.inl x1), some (.inl x2), some (.inl x3), some (.inl x4), some (.inl x5), some (.inl x6)], [.inl x6, .inl x1, .inr (.inr 99)], (am_sh, am_mm U))) 4 (fun _ => rfl) ?_
    refine eu_iast 99 (n := 32) rfl (by decide) rfl (fun _ => rfl) h1.1 ?_
    have h1a := h1.2
    exact h1a
  · have h2 := h.2 hc
    refine ev_seg (σ1 := ((d + 1), 191, 331, [some (.inr (.inr 86)), some (.inl x1), some (.inl x2), some (.inl x3), some (.inl x4), some (.inl x5), some (.inl x6)], [.inr (.inr 86)], (am_sh, am_mm U))) 1 (fun _ => rfl) ?_
    obtain ⟨U1, h2c, h2a⟩ := h2
    refine ev_cal (σc := (d, 93, 0, [some (.inr (.inr 86)), none, none, none, none, none], [], (am_sh, am_mm U))) (fun _ => rfl) h2c ?_
    show Ev kz ((d + 1), 191, 334, [some (.inr (.inr 86)), some (.inl x1), some (.inl x2), some (.inl x3), some (.inl x4), some (.inl x5), some (.inl x6)], [], (am_sh, am_mm U1)) R
    refine ev_seg (σ1 := ((d + 1), 191, 341, [some (.inr (.inr 86)), some (.inl x1), some (.inl x2), some (.inl x3), some (.inl x4), some (.inl x5), some (.inl x6)], [.inl x6, .inl x1, .inr (.inr 99)], (am_sh, am_mm U1))) 4 (fun _ => rfl) ?_
    refine eu_iast 99 (n := 32) rfl (by decide) rfl (fun _ => rfl) h2a.1 ?_
    have h2aa := h2a.2
    exact h2aa
set_option maxRecDepth 8000 in
theorem st188_86_0 (kz : am_Z) (d : Nat) (U : Nat → Nat → Int) (R : Option am_V × am_M) (h : (0 ≤ (U 86 40) ∧ (U 86 40) < 2) ∧ (((¬ (U 88 (U 86 40).toNat) = 4 : Prop)) → ∃ (r1 : Int) (U1 : Nat → Nat → Int), Ev kz (d, 264, 0, [some (.inr (.inr 86)), some (.inl 0)], [], (am_sh, am_mm U)) (some (.inl r1), (am_sh, am_mm U1)) ∧ (((¬ r1 = 0 : Prop)) → (0 ≤ (U1 86 40) ∧ (U1 86 40) < 2) ∧ ∃ (r2 : Int) (U2 : Nat → Nat → Int), Ev kz (d, 265, 0, [some (.inr (.inr 86)), none, none], [], (am_sh, am_mm U1)) (some (.inr (.inl r2)), (am_sh, am_mm U2)) ∧ (0 ≤ (w32 ((w32 (4 * (U1 86 40))) + (U1 88 (U1 86 40).toNat))) ∧ (w32 ((w32 (4 * (U1 86 40))) + (U1 88 (U1 86 40).toNat))) < 8) ∧ (((¬ ((am_upd U2 89 (w32 ((w32 (4 * (U1 86 40))) + (U1 88 (U1 86 40).toNat))).toNat r2) 86 8) = 0 : Prop)) → R = (none, (am_sh, am_mm (am_upd U2 89 (w32 ((w32 (4 * (U1 86 40))) + (U1 88 (U1 86 40).toNat))).toNat r2)))) ∧ (¬ (¬ ((am_upd U2 89 (w32 ((w32 (4 * (U1 86 40))) + (U1 88 (U1 86 40).toNat))).toNat r2) 86 8) = 0) → (0 ≤ ((am_upd U2 89 (w32 ((w32 (4 * (U1 86 40))) + (U1 88 (U1 86 40).toNat))).toNat r2) 86 40) ∧ ((am_upd U2 89 (w32 ((w32 (4 * (U1 86 40))) + (U1 88 (U1 86 40).toNat))).toNat r2) 86 40) < 2) ∧ (0 ≤ ((am_upd U2 89 (w32 ((w32 (4 * (U1 86 40))) + (U1 88 (U1 86 40).toNat))).toNat r2) 86 40) ∧ ((am_upd U2 89 (w32 ((w32 (4 * (U1 86 40))) + (U1 88 (U1 86 40).toNat))).toNat r2) 86 40) < 2) ∧ R = (none, (am_sh, am_mm (am_upd (am_upd U2 89 (w32 ((w32 (4 * (U1 86 40))) + (U1 88 (U1 86 40).toNat))).toNat r2) 88 ((am_upd U2 89 (w32 ((w32 (4 * (U1 86 40))) + (U1 88 (U1 86 40).toNat))).toNat r2) 86 40).toNat (w32 (((am_upd U2 89 (w32 ((w32 (4 * (U1 86 40))) + (U1 88 (U1 86 40).toNat))).toNat r2) 88 ((am_upd U2 89 (w32 ((w32 (4 * (U1 86 40))) + (U1 88 (U1 86 40).toNat))).toNat r2) 86 40).toNat) + 1))))))) ∧ (¬ (¬ r1 = 0) → R = (none, (am_sh, am_mm U1)))) ∧ (¬ (¬ (U 88 (U 86 40).toNat) = 4) → ∃ (r3 : Int) (U3 : Nat → Nat → Int), Ev kz (d, 264, 0, [some (.inr (.inr 86)), some (.inl 1)], [], (am_sh, am_mm U)) (some (.inl r3), (am_sh, am_mm U3)) ∧ (((¬ r3 = 0 : Prop)) → (0 ≤ (U3 86 40) ∧ (U3 86 40) < 2) ∧ ∃ (r4 : Int) (U4 : Nat → Nat → Int), Ev kz (d, 265, 0, [some (.inr (.inr 86)), none, none], [], (am_sh, am_mm U3)) (some (.inr (.inl r4)), (am_sh, am_mm U4)) ∧ (0 ≤ (w32 ((w32 (4 * (U3 86 40))) + (U3 88 (U3 86 40).toNat))) ∧ (w32 ((w32 (4 * (U3 86 40))) + (U3 88 (U3 86 40).toNat))) < 8) ∧ (((¬ ((am_upd U4 89 (w32 ((w32 (4 * (U3 86 40))) + (U3 88 (U3 86 40).toNat))).toNat r4) 86 8) = 0 : Prop)) → R = (none, (am_sh, am_mm (am_upd U4 89 (w32 ((w32 (4 * (U3 86 40))) + (U3 88 (U3 86 40).toNat))).toNat r4)))) ∧ (¬ (¬ ((am_upd U4 89 (w32 ((w32 (4 * (U3 86 40))) + (U3 88 (U3 86 40).toNat))).toNat r4) 86 8) = 0) → (0 ≤ ((am_upd U4 89 (w32 ((w32 (4 * (U3 86 40))) + (U3 88 (U3 86 40).toNat))).toNat r4) 86 40) ∧ ((am_upd U4 89 (w32 ((w32 (4 * (U3 86 40))) + (U3 88 (U3 86 40).toNat))).toNat r4) 86 40) < 2) ∧ (0 ≤ ((am_upd U4 89 (w32 ((w32 (4 * (U3 86 40))) + (U3 88 (U3 86 40).toNat))).toNat r4) 86 40) ∧ ((am_upd U4 89 (w32 ((w32 (4 * (U3 86 40))) + (U3 88 (U3 86 40).toNat))).toNat r4) 86 40) < 2) ∧ R = (none, (am_sh, am_mm (am_upd (am_upd U4 89 (w32 ((w32 (4 * (U3 86 40))) + (U3 88 (U3 86 40).toNat))).toNat r4) 88 ((am_upd U4 89 (w32 ((w32 (4 * (U3 86 40))) + (U3 88 (U3 86 40).toNat))).toNat r4) 86 40).toNat (w32 (((am_upd U4 89 (w32 ((w32 (4 * (U3 86 40))) + (U3 88 (U3 86 40).toNat))).toNat r4) 88 ((am_upd U4 89 (w32 ((w32 (4 * (U3 86 40))) + (U3 88 (U3 86 40).toNat))).toNat r4) 86 40).toNat) + 1))))))) ∧ (¬ (¬ r3 = 0) → R = (none, (am_sh, am_mm U3))))) : Ev kz ((d + 1), 188, 0, [some (.inr (.inr 86))], [], (am_sh, am_mm U)) R := by
  refine ev_seg (σ1 := ((d + 1), 188, 9, [some (.inr (.inr 86))], [.inl (U 86 40), .inr (.inr 88), .inr (.inr 86)], (am_sh, am_mm U))) 5 (fun _ => rfl) ?_
  refine eu_iald 88 (n := 2) rfl (by decide) rfl (fun _ => rfl) h.1 ?_
  have ha := h.2
  refine ev_br (P := ¬ (U 88 (U 86 40).toNat) = 4) (σ1 := ((d + 1), 188, 18, [some (.inr (.inr 86))], [.inr (.inr 86)], (am_sh, am_mm U))) (σ2 := ((d + 1), 188, 14, [some (.inr (.inr 86))], [.inr (.inr 86)], (am_sh, am_mm U))) 2 (fun _ => rfl) (fun hc => ?_) (fun hc => ?_)
  · have ha1 := ha.1 hc
    refine ev_seg (σ1 := ((d + 1), 188, 19, [some (.inr (.inr 86))], [.inl 0, .inr (.inr 86)], (am_sh, am_mm U))) 1 (fun _ => rfl) ?_
    obtain ⟨r1, U1, ha1c, ha1a⟩ := ha1
    refine ev_cal (σc := (d, 264, 0, [some (.inr (.inr 86)), some (.inl 0)], [], (am_sh, am_mm U))) (fun _ => rfl) ha1c ?_
    show Ev kz ((d + 1), 188, 22, [some (.inr (.inr 86))], [.inl r1], (am_sh, am_mm U1)) R
    refine ev_br (P := ¬ r1 = 0) (σ1 := ((d + 1), 188, 26, [some (.inr (.inr 86))], [], (am_sh, am_mm U1))) (σ2 := ((d + 1), 188, 25, [some (.inr (.inr 86))], [], (am_sh, am_mm U1))) 1 (fun _ => rfl) (fun hc => ?_) (fun hc => ?_)
    · have ha1a1 := ha1a.1 hc
      refine ev_seg (σ1 := ((d + 1), 188, 44, [some (.inr (.inr 86))], [.inl (U1 86 40), .inr (.inr 88), .inl (w32 (4 * (U1 86 40))), .inr (.inr 89)], (am_sh, am_mm U1))) 10 (fun _ => rfl) ?_
      refine eu_iald 88 (n := 2) rfl (by decide) rfl (fun _ => rfl) ha1a1.1 ?_
      have ha1a1a := ha1a1.2
      refine ev_seg (σ1 := ((d + 1), 188, 47, [some (.inr (.inr 86))], [.inr (.inr 86), .inl (w32 ((w32 (4 * (U1 86 40))) + (U1 88 (U1 86 40).toNat))), .inr (.inr 89)], (am_sh, am_mm U1))) 2 (fun _ => rfl) ?_
      obtain ⟨r2, U2, ha1a1ac, ha1a1aa⟩ := ha1a1a
      refine ev_cal (σc := (d, 265, 0, [some (.inr (.inr 86)), none, none], [], (am_sh, am_mm U1))) (fun _ => rfl) ha1a1ac ?_
      show Ev kz ((d + 1), 188, 50, [some (.inr (.inr 86))], [.inr (.inl r2), .inl (w32 ((w32 (4 * (U1 86 40))) + (U1 88 (U1 86 40).toNat))), .inr (.inr 89)], (am_sh, am_mm U2)) R
      refine eu_last 89 (n := 8) rfl (by decide) rfl (fun _ => rfl) ha1a1aa.1 ?_
      have ha1a1aaa := ha1a1aa.2
      refine ev_br (P := ¬ ((am_upd U2 89 (w32 ((w32 (4 * (U1 86 40))) + (U1 88 (U1 86 40).toNat))).toNat r2) 86 8) = 0) (σ1 := ((d + 1), 188, 71, [some (.inr (.inr 86))], [], (am_sh, am_mm (am_upd U2 89 (w32 ((w32 (4 * (U1 86 40))) + (U1 88 (U1 86 40).toNat))).toNat r2)))) (σ2 := ((d + 1), 188, 58, [some (.inr (.inr 86))], [], (am_sh, am_mm (am_upd U2 89 (w32 ((w32 (4 * (U1 86 40))) + (U1 88 (U1 86 40).toNat))).toNat r2)))) 3 (fun _ => rfl) (fun hc => ?_) (fun hc => ?_)
      · have ha1a1aaa1 := ha1a1aaa.1 hc
        subst ha1a1aaa1
        exact ev_end 1 (fun _ => rfl)
      · have ha1a1aaa2 := ha1a1aaa.2 hc
        refine ev_seg (σ1 := ((d + 1), 188, 67, [some (.inr (.inr 86))], [.inl ((am_upd U2 89 (w32 ((w32 (4 * (U1 86 40))) + (U1 88 (U1 86 40).toNat))).toNat r2) 86 40), .inr (.inr 88), .inl ((am_upd U2 89 (w32 ((w32 (4 * (U1 86 40))) + (U1 88 (U1 86 40).toNat))).toNat r2) 86 40), .inr (.inr 88)], (am_sh, am_mm (am_upd U2 89 (w32 ((w32 (4 * (U1 86 40))) + (U1 88 (U1 86 40).toNat))).toNat r2)))) 5 (fun _ => rfl) ?_
        refine eu_iald 88 (n := 2) rfl (by decide) rfl (fun _ => rfl) ha1a1aaa2.1 ?_
        have ha1a1aaa2a := ha1a1aaa2.2
        refine ev_seg (σ1 := ((d + 1), 188, 70, [some (.inr (.inr 86))], [.inl (w32 (((am_upd U2 89 (w32 ((w32 (4 * (U1 86 40))) + (U1 88 (U1 86 40).toNat))).toNat r2) 88 ((am_upd U2 89 (w32 ((w32 (4 * (U1 86 40))) + (U1 88 (U1 86 40).toNat))).toNat r2) 86 40).toNat) + 1)), .inl ((am_upd U2 89 (w32 ((w32 (4 * (U1 86 40))) + (U1 88 (U1 86 40).toNat))).toNat r2) 86 40), .inr (.inr 88)], (am_sh, am_mm (am_upd U2 89 (w32 ((w32 (4 * (U1 86 40))) + (U1 88 (U1 86 40).toNat))).toNat r2)))) 2 (fun _ => rfl) ?_
        refine eu_iast 88 (n := 2) rfl (by decide) rfl (fun _ => rfl) ha1a1aaa2a.1 ?_
        have ha1a1aaa2aa := ha1a1aaa2a.2
        subst ha1a1aaa2aa
        exact ev_end 1 (fun _ => rfl)
    · have ha1a2 := ha1a.2 hc
      subst ha1a2
      exact ev_end 1 (fun _ => rfl)
  · have ha2 := ha.2 hc
    refine ev_seg (σ1 := ((d + 1), 188, 19, [some (.inr (.inr 86))], [.inl 1, .inr (.inr 86)], (am_sh, am_mm U))) 2 (fun _ => rfl) ?_
    obtain ⟨r3, U3, ha2c, ha2a⟩ := ha2
    refine ev_cal (σc := (d, 264, 0, [some (.inr (.inr 86)), some (.inl 1)], [], (am_sh, am_mm U))) (fun _ => rfl) ha2c ?_
    show Ev kz ((d + 1), 188, 22, [some (.inr (.inr 86))], [.inl r3], (am_sh, am_mm U3)) R
    refine ev_br (P := ¬ r3 = 0) (σ1 := ((d + 1), 188, 26, [some (.inr (.inr 86))], [], (am_sh, am_mm U3))) (σ2 := ((d + 1), 188, 25, [some (.inr (.inr 86))], [], (am_sh, am_mm U3))) 1 (fun _ => rfl) (fun hc => ?_) (fun hc => ?_)
    · have ha2a1 := ha2a.1 hc
      refine ev_seg (σ1 := ((d + 1), 188, 44, [some (.inr (.inr 86))], [.inl (U3 86 40), .inr (.inr 88), .inl (w32 (4 * (U3 86 40))), .inr (.inr 89)], (am_sh, am_mm U3))) 10 (fun _ => rfl) ?_
      refine eu_iald 88 (n := 2) rfl (by decide) rfl (fun _ => rfl) ha2a1.1 ?_
      have ha2a1a := ha2a1.2
      refine ev_seg (σ1 := ((d + 1), 188, 47, [some (.inr (.inr 86))], [.inr (.inr 86), .inl (w32 ((w32 (4 * (U3 86 40))) + (U3 88 (U3 86 40).toNat))), .inr (.inr 89)], (am_sh, am_mm U3))) 2 (fun _ => rfl) ?_
      obtain ⟨r4, U4, ha2a1ac, ha2a1aa⟩ := ha2a1a
      refine ev_cal (σc := (d, 265, 0, [some (.inr (.inr 86)), none, none], [], (am_sh, am_mm U3))) (fun _ => rfl) ha2a1ac ?_
      show Ev kz ((d + 1), 188, 50, [some (.inr (.inr 86))], [.inr (.inl r4), .inl (w32 ((w32 (4 * (U3 86 40))) + (U3 88 (U3 86 40).toNat))), .inr (.inr 89)], (am_sh, am_mm U4)) R
      refine eu_last 89 (n := 8) rfl (by decide) rfl (fun _ => rfl) ha2a1aa.1 ?_
      have ha2a1aaa := ha2a1aa.2
      refine ev_br (P := ¬ ((am_upd U4 89 (w32 ((w32 (4 * (U3 86 40))) + (U3 88 (U3 86 40).toNat))).toNat r4) 86 8) = 0) (σ1 := ((d + 1), 188, 71, [some (.inr (.inr 86))], [], (am_sh, am_mm (am_upd U4 89 (w32 ((w32 (4 * (U3 86 40))) + (U3 88 (U3 86 40).toNat))).toNat r4)))) (σ2 := ((d + 1), 188, 58, [some (.inr (.inr 86))], [], (am_sh, am_mm (am_upd U4 89 (w32 ((w32 (4 * (U3 86 40))) + (U3 88 (U3 86 40).toNat))).toNat r4)))) 3 (fun _ => rfl) (fun hc => ?_) (fun hc => ?_)
      · have ha2a1aaa1 := ha2a1aaa.1 hc
        subst ha2a1aaa1
        exact ev_end 1 (fun _ => rfl)
      · have ha2a1aaa2 := ha2a1aaa.2 hc
        refine ev_seg (σ1 := ((d + 1), 188, 67, [some (.inr (.inr 86))], [.inl ((am_upd U4 89 (w32 ((w32 (4 * (U3 86 40))) + (U3 88 (U3 86 40).toNat))).toNat r4) 86 40), .inr (.inr 88), .inl ((am_upd U4 89 (w32 ((w32 (4 * (U3 86 40))) + (U3 88 (U3 86 40).toNat))).toNat r4) 86 40), .inr (.inr 88)], (am_sh, am_mm (am_upd U4 89 (w32 ((w32 (4 * (U3 86 40))) + (U3 88 (U3 86 40).toNat))).toNat r4)))) 5 (fun _ => rfl) ?_
        refine eu_iald 88 (n := 2) rfl (by decide) rfl (fun _ => rfl) ha2a1aaa2.1 ?_
        have ha2a1aaa2a := ha2a1aaa2.2
        refine ev_seg (σ1 := ((d + 1), 188, 70, [some (.inr (.inr 86))], [.inl (w32 (((am_upd U4 89 (w32 ((w32 (4 * (U3 86 40))) + (U3 88 (U3 86 40).toNat))).toNat r4) 88 ((am_upd U4 89 (w32 ((w32 (4 * (U3 86 40))) + (U3 88 (U3 86 40).toNat))).toNat r4) 86 40).toNat) + 1)), .inl ((am_upd U4 89 (w32 ((w32 (4 * (U3 86 40))) + (U3 88 (U3 86 40).toNat))).toNat r4) 86 40), .inr (.inr 88)], (am_sh, am_mm (am_upd U4 89 (w32 ((w32 (4 * (U3 86 40))) + (U3 88 (U3 86 40).toNat))).toNat r4)))) 2 (fun _ => rfl) ?_
        refine eu_iast 88 (n := 2) rfl (by decide) rfl (fun _ => rfl) ha2a1aaa2a.1 ?_
        have ha2a1aaa2aa := ha2a1aaa2a.2
        subst ha2a1aaa2aa
        exact ev_end 1 (fun _ => rfl)
    · have ha2a2 := ha2a.2 hc
      subst ha2a2
      exact ev_end 1 (fun _ => rfl)
set_option maxRecDepth 8000 in
theorem st189_86_0 (kz : am_Z) (d : Nat) (U : Nat → Nat → Int) (R : Option am_V × am_M) (h : (0 ≤ (U 86 40) ∧ (U 86 40) < 2) ∧ (((¬ (U 90 (U 86 40).toNat) = 12 : Prop)) → ∃ (r1 : Int) (U1 : Nat → Nat → Int), Ev kz (d, 264, 0, [some (.inr (.inr 86)), some (.inl 0)], [], (am_sh, am_mm U)) (some (.inl r1), (am_sh, am_mm U1)) ∧ (((¬ r1 = 0 : Prop)) → (0 ≤ (U1 86 40) ∧ (U1 86 40) < 2) ∧ ∃ (r2 : Int) (U2 : Nat → Nat → Int), Ev kz (d, 265, 0, [some (.inr (.inr 86)), none, none], [], (am_sh, am_mm U1)) (some (.inr (.inl r2)), (am_sh, am_mm U2)) ∧ (0 ≤ (w32 ((w32 (12 * (U1 86 40))) + (U1 90 (U1 86 40).toNat))) ∧ (w32 ((w32 (12 * (U1 86 40))) + (U1 90 (U1 86 40).toNat))) < 24) ∧ ∃ U3 : Nat → Nat → Int, Ev kz (d, 266, 0, [some (.inr (.inr 86)), some (.inr (.inl 28518)), none], [], (am_sh, am_mm (am_upd U2 91 (w32 ((w32 (12 * (U1 86 40))) + (U1 90 (U1 86 40).toNat))).toNat r2))) (none, (am_sh, am_mm U3)) ∧ ∃ (r4 : Int) (U4 : Nat → Nat → Int), Ev kz (d, 267, 0, [some (.inr (.inr 86)), some (.inl 0), none], [], (am_sh, am_mm U3)) (some (.inl r4), (am_sh, am_mm U4)) ∧ (0 ≤ (w32 ((w32 (12 * (U1 86 40))) + (U1 90 (U1 86 40).toNat))) ∧ (w32 ((w32 (12 * (U1 86 40))) + (U1 90 (U1 86 40).toNat))) < 24) ∧ ∃ U5 : Nat → Nat → Int, Ev kz (d, 266, 0, [some (.inr (.inr 86)), some (.inr (.inl 491495845235)), none], [], (am_sh, am_mm (am_upd U4 92 (w32 ((w32 (12 * (U1 86 40))) + (U1 90 (U1 86 40).toNat))).toNat r4))) (none, (am_sh, am_mm U5)) ∧ ∃ (r6 : Int) (U6 : Nat → Nat → Int), Ev kz (d, 268, 0, [some (.inr (.inr 86)), some (.inl 1), some (.inl 6), none], [], (am_sh, am_mm U5)) (some (.inl r6), (am_sh, am_mm U6)) ∧ (0 ≤ (w32 ((w32 (12 * (U1 86 40))) + (U1 90 (U1 86 40).toNat))) ∧ (w32 ((w32 (12 * (U1 86 40))) + (U1 90 (U1 86 40).toNat))) < 24) ∧ (((¬ ((am_upd U6 93 (w32 ((w32 (12 * (U1 86 40))) + (U1 90 (U1 86 40).toNat))).toNat r6) 86 8) = 0 : Prop)) → R = (none, (am_sh, am_mm (am_upd U6 93 (w32 ((w32 (12 * (U1 86 40))) + (U1 90 (U1 86 40).toNat))).toNat r6)))) ∧ (¬ (¬ ((am_upd U6 93 (w32 ((w32 (12 * (U1 86 40))) + (U1 90 (U1 86 40).toNat))).toNat r6) 86 8) = 0) → (0 ≤ ((am_upd U6 93 (w32 ((w32 (12 * (U1 86 40))) + (U1 90 (U1 86 40).toNat))).toNat r6) 86 40) ∧ ((am_upd U6 93 (w32 ((w32 (12 * (U1 86 40))) + (U1 90 (U1 86 40).toNat))).toNat r6) 86 40) < 2) ∧ (0 ≤ ((am_upd U6 93 (w32 ((w32 (12 * (U1 86 40))) + (U1 90 (U1 86 40).toNat))).toNat r6) 86 40) ∧ ((am_upd U6 93 (w32 ((w32 (12 * (U1 86 40))) + (U1 90 (U1 86 40).toNat))).toNat r6) 86 40) < 2) ∧ R = (none, (am_sh, am_mm (am_upd (am_upd U6 93 (w32 ((w32 (12 * (U1 86 40))) + (U1 90 (U1 86 40).toNat))).toNat r6) 90 ((am_upd U6 93 (w32 ((w32 (12 * (U1 86 40))) + (U1 90 (U1 86 40).toNat))).toNat r6) 86 40).toNat (w32 (((am_upd U6 93 (w32 ((w32 (12 * (U1 86 40))) + (U1 90 (U1 86 40).toNat))).toNat r6) 90 ((am_upd U6 93 (w32 ((w32 (12 * (U1 86 40))) + (U1 90 (U1 86 40).toNat))).toNat r6) 86 40).toNat) + 1))))))) ∧ (¬ (¬ r1 = 0) → R = (none, (am_sh, am_mm U1)))) ∧ (¬ (¬ (U 90 (U 86 40).toNat) = 12) → ∃ (r7 : Int) (U7 : Nat → Nat → Int), Ev kz (d, 264, 0, [some (.inr (.inr 86)), some (.inl 1)], [], (am_sh, am_mm U)) (some (.inl r7), (am_sh, am_mm U7)) ∧ (((¬ r7 = 0 : Prop)) → (0 ≤ (U7 86 40) ∧ (U7 86 40) < 2) ∧ ∃ (r8 : Int) (U8 : Nat → Nat → Int), Ev kz (d, 265, 0, [some (.inr (.inr 86)), none, none], [], (am_sh, am_mm U7)) (some (.inr (.inl r8)), (am_sh, am_mm U8)) ∧ (0 ≤ (w32 ((w32 (12 * (U7 86 40))) + (U7 90 (U7 86 40).toNat))) ∧ (w32 ((w32 (12 * (U7 86 40))) + (U7 90 (U7 86 40).toNat))) < 24) ∧ ∃ U9 : Nat → Nat → Int, Ev kz (d, 266, 0, [some (.inr (.inr 86)), some (.inr (.inl 28518)), none], [], (am_sh, am_mm (am_upd U8 91 (w32 ((w32 (12 * (U7 86 40))) + (U7 90 (U7 86 40).toNat))).toNat r8))) (none, (am_sh, am_mm U9)) ∧ ∃ (r10 : Int) (U10 : Nat → Nat → Int), Ev kz (d, 267, 0, [some (.inr (.inr 86)), some (.inl 0), none], [], (am_sh, am_mm U9)) (some (.inl r10), (am_sh, am_mm U10)) ∧ (0 ≤ (w32 ((w32 (12 * (U7 86 40))) + (U7 90 (U7 86 40).toNat))) ∧ (w32 ((w32 (12 * (U7 86 40))) + (U7 90 (U7 86 40).toNat))) < 24) ∧ ∃ U11 : Nat → Nat → Int, Ev kz (d, 266, 0, [some (.inr (.inr 86)), some (.inr (.inl 491495845235)), none], [], (am_sh, am_mm (am_upd U10 92 (w32 ((w32 (12 * (U7 86 40))) + (U7 90 (U7 86 40).toNat))).toNat r10))) (none, (am_sh, am_mm U11)) ∧ ∃ (r12 : Int) (U12 : Nat → Nat → Int), Ev kz (d, 268, 0, [some (.inr (.inr 86)), some (.inl 1), some (.inl 6), none], [], (am_sh, am_mm U11)) (some (.inl r12), (am_sh, am_mm U12)) ∧ (0 ≤ (w32 ((w32 (12 * (U7 86 40))) + (U7 90 (U7 86 40).toNat))) ∧ (w32 ((w32 (12 * (U7 86 40))) + (U7 90 (U7 86 40).toNat))) < 24) ∧ (((¬ ((am_upd U12 93 (w32 ((w32 (12 * (U7 86 40))) + (U7 90 (U7 86 40).toNat))).toNat r12) 86 8) = 0 : Prop)) → R = (none, (am_sh, am_mm (am_upd U12 93 (w32 ((w32 (12 * (U7 86 40))) + (U7 90 (U7 86 40).toNat))).toNat r12)))) ∧ (¬ (¬ ((am_upd U12 93 (w32 ((w32 (12 * (U7 86 40))) + (U7 90 (U7 86 40).toNat))).toNat r12) 86 8) = 0) → (0 ≤ ((am_upd U12 93 (w32 ((w32 (12 * (U7 86 40))) + (U7 90 (U7 86 40).toNat))).toNat r12) 86 40) ∧ ((am_upd U12 93 (w32 ((w32 (12 * (U7 86 40))) + (U7 90 (U7 86 40).toNat))).toNat r12) 86 40) < 2) ∧ (0 ≤ ((am_upd U12 93 (w32 ((w32 (12 * (U7 86 40))) + (U7 90 (U7 86 40).toNat))).toNat r12) 86 40) ∧ ((am_upd U12 93 (w32 ((w32 (12 * (U7 86 40))) + (U7 90 (U7 86 40).toNat))).toNat r12) 86 40) < 2) ∧ R = (none, (am_sh, am_mm (am_upd (am_upd U12 93 (w32 ((w32 (12 * (U7 86 40))) + (U7 90 (U7 86 40).toNat))).toNat r12) 90 ((am_upd U12 93 (w32 ((w32 (12 * (U7 86 40))) + (U7 90 (U7 86 40).toNat))).toNat r12) 86 40).toNat (w32 (((am_upd U12 93 (w32 ((w32 (12 * (U7 86 40))) + (U7 90 (U7 86 40).toNat))).toNat r12) 90 ((am_upd U12 93 (w32 ((w32 (12 * (U7 86 40))) + (U7 90 (U7 86 40).toNat))).toNat r12) 86 40).toNat) + 1))))))) ∧ (¬ (¬ r7 = 0) → R = (none, (am_sh, am_mm U7))))) : Ev kz ((d + 1), 189, 0, [some (.inr (.inr 86)), none], [], (am_sh, am_mm U)) R := by
  refine ev_seg (σ1 := ((d + 1), 189, 9, [some (.inr (.inr 86)), none], [.inl (U 86 40), .inr (.inr 90), .inr (.inr 86)], (am_sh, am_mm U))) 5 (fun _ => rfl) ?_
  refine eu_iald 90 (n := 2) rfl (by decide) rfl (fun _ => rfl) h.1 ?_
  have ha := h.2
  refine ev_br (P := ¬ (U 90 (U 86 40).toNat) = 12) (σ1 := ((d + 1), 189, 19, [some (.inr (.inr 86)), none], [.inr (.inr 86)], (am_sh, am_mm U))) (σ2 := ((d + 1), 189, 15, [some (.inr (.inr 86)), none], [.inr (.inr 86)], (am_sh, am_mm U))) 2 (fun _ => rfl) (fun hc => ?_) (fun hc => ?_)
  · have ha1 := ha.1 hc
    refine ev_seg (σ1 := ((d + 1), 189, 20, [some (.inr (.inr 86)), none], [.inl 0, .inr (.inr 86)], (am_sh, am_mm U))) 1 (fun _ => rfl) ?_
    obtain ⟨r1, U1, ha1c, ha1a⟩ := ha1
    refine ev_cal (σc := (d, 264, 0, [some (.inr (.inr 86)), some (.inl 0)], [], (am_sh, am_mm U))) (fun _ => rfl) ha1c ?_
    show Ev kz ((d + 1), 189, 23, [some (.inr (.inr 86)), none], [.inl r1], (am_sh, am_mm U1)) R
    refine ev_br (P := ¬ r1 = 0) (σ1 := ((d + 1), 189, 27, [some (.inr (.inr 86)), none], [], (am_sh, am_mm U1))) (σ2 := ((d + 1), 189, 26, [some (.inr (.inr 86)), none], [], (am_sh, am_mm U1))) 1 (fun _ => rfl) (fun hc => ?_) (fun hc => ?_)
    · have ha1a1 := ha1a.1 hc
      refine ev_seg (σ1 := ((d + 1), 189, 42, [some (.inr (.inr 86)), none], [.inl (U1 86 40), .inr (.inr 90), .inl (w32 (12 * (U1 86 40)))], (am_sh, am_mm U1))) 8 (fun _ => rfl) ?_
      refine eu_iald 90 (n := 2) rfl (by decide) rfl (fun _ => rfl) ha1a1.1 ?_
      have ha1a1a := ha1a1.2
      refine ev_seg (σ1 := ((d + 1), 189, 51, [some (.inr (.inr 86)), some (.inl (w32 ((w32 (12 * (U1 86 40))) + (U1 90 (U1 86 40).toNat))))], [.inr (.inr 86), .inl (w32 ((w32 (12 * (U1 86 40))) + (U1 90 (U1 86 40).toNat))), .inr (.inr 91)], (am_sh, am_mm U1))) 6 (fun _ => rfl) ?_
      obtain ⟨r2, U2, ha1a1ac, ha1a1aa⟩ := ha1a1a
      refine ev_cal (σc := (d, 265, 0, [some (.inr (.inr 86)), none, none], [], (am_sh, am_mm U1))) (fun _ => rfl) ha1a1ac ?_
      show Ev kz ((d + 1), 189, 54, [some (.inr (.inr 86)), some (.inl (w32 ((w32 (12 * (U1 86 40))) + (U1 90 (U1 86 40).toNat))))], [.inr (.inl r2), .inl (w32 ((w32 (12 * (U1 86 40))) + (U1 90 (U1 86 40).toNat))), .inr (.inr 91)], (am_sh, am_mm U2)) R
      refine eu_last 91 (n := 24) rfl (by decide) rfl (fun _ => rfl) ha1a1aa.1 ?_
      have ha1a1aaa := ha1a1aa.2
      refine ev_seg (σ1 := ((d + 1), 189, 59, [some (.inr (.inr 86)), some (.inl (w32 ((w32 (12 * (U1 86 40))) + (U1 90 (U1 86 40).toNat))))], [.inr (.inl 28518), .inr (.inr 86)], (am_sh, am_mm (am_upd U2 91 (w32 ((w32 (12 * (U1 86 40))) + (U1 90 (U1 86 40).toNat))).toNat r2)))) 2 (fun _ => rfl) ?_
      obtain ⟨U3, ha1a1aaac, ha1a1aaaa⟩ := ha1a1aaa
      refine ev_cal (σc := (d, 266, 0, [some (.inr (.inr 86)), some (.inr (.inl 28518)), none], [], (am_sh, am_mm (am_upd U2 91 (w32 ((w32 (12 * (U1 86 40))) + (U1 90 (U1 86 40).toNat))).toNat r2)))) (fun _ => rfl) ha1a1aaac ?_
      show Ev kz ((d + 1), 189, 62, [some (.inr (.inr 86)), some (.inl (w32 ((w32 (12 * (U1 86 40))) + (U1 90 (U1 86 40).toNat))))], [], (am_sh, am_mm U3)) R
      refine ev_seg (σ1 := ((d + 1), 189, 69, [some (.inr (.inr 86)), some (.inl (w32 ((w32 (12 * (U1 86 40))) + (U1 90 (U1 86 40).toNat))))], [.inl 0, .inr (.inr 86), .inl (w32 ((w32 (12 * (U1 86 40))) + (U1 90 (U1 86 40).toNat))), .inr (.inr 92)], (am_sh, am_mm U3))) 5 (fun _ => rfl) ?_
      obtain ⟨r4, U4, ha1a1aaaac, ha1a1aaaaa⟩ := ha1a1aaaa
      refine ev_cal (σc := (d, 267, 0, [some (.inr (.inr 86)), some (.inl 0), none], [], (am_sh, am_mm U3))) (fun _ => rfl) ha1a1aaaac ?_
      show Ev kz ((d + 1), 189, 72, [some (.inr (.inr 86)), some (.inl (w32 ((w32 (12 * (U1 86 40))) + (U1 90 (U1 86 40).toNat))))], [.inl r4, .inl (w32 ((w32 (12 * (U1 86 40))) + (U1 90 (U1 86 40).toNat))), .inr (.inr 92)], (am_sh, am_mm U4)) R
      refine eu_iast 92 (n := 24) rfl (by decide) rfl (fun _ => rfl) ha1a1aaaaa.1 ?_
      have ha1a1aaaaaa := ha1a1aaaaa.2
      refine ev_seg (σ1 := ((d + 1), 189, 77, [some (.inr (.inr 86)), some (.inl (w32 ((w32 (12 * (U1 86 40))) + (U1 90 (U1 86 40).toNat))))], [.inr (.inl 491495845235), .inr (.inr 86)], (am_sh, am_mm (am_upd U4 92 (w32 ((w32 (12 * (U1 86 40))) + (U1 90 (U1 86 40).toNat))).toNat r4)))) 2 (fun _ => rfl) ?_
      obtain ⟨U5, ha1a1aaaaaac, ha1a1aaaaaaa⟩ := ha1a1aaaaaa
      refine ev_cal (σc := (d, 266, 0, [some (.inr (.inr 86)), some (.inr (.inl 491495845235)), none], [], (am_sh, am_mm (am_upd U4 92 (w32 ((w32 (12 * (U1 86 40))) + (U1 90 (U1 86 40).toNat))).toNat r4)))) (fun _ => rfl) ha1a1aaaaaac ?_
      show Ev kz ((d + 1), 189, 80, [some (.inr (.inr 86)), some (.inl (w32 ((w32 (12 * (U1 86 40))) + (U1 90 (U1 86 40).toNat))))], [], (am_sh, am_mm U5)) R
      refine ev_seg (σ1 := ((d + 1), 189, 89, [some (.inr (.inr 86)), some (.inl (w32 ((w32 (12 * (U1 86 40))) + (U1 90 (U1 86 40).toNat))))], [.inl 6, .inl 1, .inr (.inr 86), .inl (w32 ((w32 (12 * (U1 86 40))) + (U1 90 (U1 86 40).toNat))), .inr (.inr 93)], (am_sh, am_mm U5))) 6 (fun _ => rfl) ?_
      obtain ⟨r6, U6, ha1a1aaaaaaac, ha1a1aaaaaaaa⟩ := ha1a1aaaaaaa
      refine ev_cal (σc := (d, 268, 0, [some (.inr (.inr 86)), some (.inl 1), some (.inl 6), none], [], (am_sh, am_mm U5))) (fun _ => rfl) ha1a1aaaaaaac ?_
      show Ev kz ((d + 1), 189, 92, [some (.inr (.inr 86)), some (.inl (w32 ((w32 (12 * (U1 86 40))) + (U1 90 (U1 86 40).toNat))))], [.inl r6, .inl (w32 ((w32 (12 * (U1 86 40))) + (U1 90 (U1 86 40).toNat))), .inr (.inr 93)], (am_sh, am_mm U6)) R
      refine eu_iast 93 (n := 24) rfl (by decide) rfl (fun _ => rfl) ha1a1aaaaaaaa.1 ?_
      have ha1a1aaaaaaaaa := ha1a1aaaaaaaa.2
      refine ev_br (P := ¬ ((am_upd U6 93 (w32 ((w32 (12 * (U1 86 40))) + (U1 90 (U1 86 40).toNat))).toNat r6) 86 8) = 0) (σ1 := ((d + 1), 189, 113, [some (.inr (.inr 86)), some (.inl (w32 ((w32 (12 * (U1 86 40))) + (U1 90 (U1 86 40).toNat))))], [], (am_sh, am_mm (am_upd U6 93 (w32 ((w32 (12 * (U1 86 40))) + (U1 90 (U1 86 40).toNat))).toNat r6)))) (σ2 := ((d + 1), 189, 100, [some (.inr (.inr 86)), some (.inl (w32 ((w32 (12 * (U1 86 40))) + (U1 90 (U1 86 40).toNat))))], [], (am_sh, am_mm (am_upd U6 93 (w32 ((w32 (12 * (U1 86 40))) + (U1 90 (U1 86 40).toNat))).toNat r6)))) 3 (fun _ => rfl) (fun hc => ?_) (fun hc => ?_)
      · have ha1a1aaaaaaaaa1 := ha1a1aaaaaaaaa.1 hc
        subst ha1a1aaaaaaaaa1
        exact ev_end 1 (fun _ => rfl)
      · have ha1a1aaaaaaaaa2 := ha1a1aaaaaaaaa.2 hc
        refine ev_seg (σ1 := ((d + 1), 189, 109, [some (.inr (.inr 86)), some (.inl (w32 ((w32 (12 * (U1 86 40))) + (U1 90 (U1 86 40).toNat))))], [.inl ((am_upd U6 93 (w32 ((w32 (12 * (U1 86 40))) + (U1 90 (U1 86 40).toNat))).toNat r6) 86 40), .inr (.inr 90), .inl ((am_upd U6 93 (w32 ((w32 (12 * (U1 86 40))) + (U1 90 (U1 86 40).toNat))).toNat r6) 86 40), .inr (.inr 90)], (am_sh, am_mm (am_upd U6 93 (w32 ((w32 (12 * (U1 86 40))) + (U1 90 (U1 86 40).toNat))).toNat r6)))) 5 (fun _ => rfl) ?_
        refine eu_iald 90 (n := 2) rfl (by decide) rfl (fun _ => rfl) ha1a1aaaaaaaaa2.1 ?_
        have ha1a1aaaaaaaaa2a := ha1a1aaaaaaaaa2.2
        refine ev_seg (σ1 := ((d + 1), 189, 112, [some (.inr (.inr 86)), some (.inl (w32 ((w32 (12 * (U1 86 40))) + (U1 90 (U1 86 40).toNat))))], [.inl (w32 (((am_upd U6 93 (w32 ((w32 (12 * (U1 86 40))) + (U1 90 (U1 86 40).toNat))).toNat r6) 90 ((am_upd U6 93 (w32 ((w32 (12 * (U1 86 40))) + (U1 90 (U1 86 40).toNat))).toNat r6) 86 40).toNat) + 1)), .inl ((am_upd U6 93 (w32 ((w32 (12 * (U1 86 40))) + (U1 90 (U1 86 40).toNat))).toNat r6) 86 40), .inr (.inr 90)], (am_sh, am_mm (am_upd U6 93 (w32 ((w32 (12 * (U1 86 40))) + (U1 90 (U1 86 40).toNat))).toNat r6)))) 2 (fun _ => rfl) ?_
        refine eu_iast 90 (n := 2) rfl (by decide) rfl (fun _ => rfl) ha1a1aaaaaaaaa2a.1 ?_
        have ha1a1aaaaaaaaa2aa := ha1a1aaaaaaaaa2a.2
        subst ha1a1aaaaaaaaa2aa
        exact ev_end 1 (fun _ => rfl)
    · have ha1a2 := ha1a.2 hc
      subst ha1a2
      exact ev_end 1 (fun _ => rfl)
  · have ha2 := ha.2 hc
    refine ev_seg (σ1 := ((d + 1), 189, 20, [some (.inr (.inr 86)), none], [.inl 1, .inr (.inr 86)], (am_sh, am_mm U))) 2 (fun _ => rfl) ?_
    obtain ⟨r7, U7, ha2c, ha2a⟩ := ha2
    refine ev_cal (σc := (d, 264, 0, [some (.inr (.inr 86)), some (.inl 1)], [], (am_sh, am_mm U))) (fun _ => rfl) ha2c ?_
    show Ev kz ((d + 1), 189, 23, [some (.inr (.inr 86)), none], [.inl r7], (am_sh, am_mm U7)) R
    refine ev_br (P := ¬ r7 = 0) (σ1 := ((d + 1), 189, 27, [some (.inr (.inr 86)), none], [], (am_sh, am_mm U7))) (σ2 := ((d + 1), 189, 26, [some (.inr (.inr 86)), none], [], (am_sh, am_mm U7))) 1 (fun _ => rfl) (fun hc => ?_) (fun hc => ?_)
    · have ha2a1 := ha2a.1 hc
      refine ev_seg (σ1 := ((d + 1), 189, 42, [some (.inr (.inr 86)), none], [.inl (U7 86 40), .inr (.inr 90), .inl (w32 (12 * (U7 86 40)))], (am_sh, am_mm U7))) 8 (fun _ => rfl) ?_
      refine eu_iald 90 (n := 2) rfl (by decide) rfl (fun _ => rfl) ha2a1.1 ?_
      have ha2a1a := ha2a1.2
      refine ev_seg (σ1 := ((d + 1), 189, 51, [some (.inr (.inr 86)), some (.inl (w32 ((w32 (12 * (U7 86 40))) + (U7 90 (U7 86 40).toNat))))], [.inr (.inr 86), .inl (w32 ((w32 (12 * (U7 86 40))) + (U7 90 (U7 86 40).toNat))), .inr (.inr 91)], (am_sh, am_mm U7))) 6 (fun _ => rfl) ?_
      obtain ⟨r8, U8, ha2a1ac, ha2a1aa⟩ := ha2a1a
      refine ev_cal (σc := (d, 265, 0, [some (.inr (.inr 86)), none, none], [], (am_sh, am_mm U7))) (fun _ => rfl) ha2a1ac ?_
      show Ev kz ((d + 1), 189, 54, [some (.inr (.inr 86)), some (.inl (w32 ((w32 (12 * (U7 86 40))) + (U7 90 (U7 86 40).toNat))))], [.inr (.inl r8), .inl (w32 ((w32 (12 * (U7 86 40))) + (U7 90 (U7 86 40).toNat))), .inr (.inr 91)], (am_sh, am_mm U8)) R
      refine eu_last 91 (n := 24) rfl (by decide) rfl (fun _ => rfl) ha2a1aa.1 ?_
      have ha2a1aaa := ha2a1aa.2
      refine ev_seg (σ1 := ((d + 1), 189, 59, [some (.inr (.inr 86)), some (.inl (w32 ((w32 (12 * (U7 86 40))) + (U7 90 (U7 86 40).toNat))))], [.inr (.inl 28518), .inr (.inr 86)], (am_sh, am_mm (am_upd U8 91 (w32 ((w32 (12 * (U7 86 40))) + (U7 90 (U7 86 40).toNat))).toNat r8)))) 2 (fun _ => rfl) ?_
      obtain ⟨U9, ha2a1aaac, ha2a1aaaa⟩ := ha2a1aaa
      refine ev_cal (σc := (d, 266, 0, [some (.inr (.inr 86)), some (.inr (.inl 28518)), none], [], (am_sh, am_mm (am_upd U8 91 (w32 ((w32 (12 * (U7 86 40))) + (U7 90 (U7 86 40).toNat))).toNat r8)))) (fun _ => rfl) ha2a1aaac ?_
      show Ev kz ((d + 1), 189, 62, [some (.inr (.inr 86)), some (.inl (w32 ((w32 (12 * (U7 86 40))) + (U7 90 (U7 86 40).toNat))))], [], (am_sh, am_mm U9)) R
      refine ev_seg (σ1 := ((d + 1), 189, 69, [some (.inr (.inr 86)), some (.inl (w32 ((w32 (12 * (U7 86 40))) + (U7 90 (U7 86 40).toNat))))], [.inl 0, .inr (.inr 86), .inl (w32 ((w32 (12 * (U7 86 40))) + (U7 90 (U7 86 40).toNat))), .inr (.inr 92)], (am_sh, am_mm U9))) 5 (fun _ => rfl) ?_
      obtain ⟨r10, U10, ha2a1aaaac, ha2a1aaaaa⟩ := ha2a1aaaa
      refine ev_cal (σc := (d, 267, 0, [some (.inr (.inr 86)), some (.inl 0), none], [], (am_sh, am_mm U9))) (fun _ => rfl) ha2a1aaaac ?_
      show Ev kz ((d + 1), 189, 72, [some (.inr (.inr 86)), some (.inl (w32 ((w32 (12 * (U7 86 40))) + (U7 90 (U7 86 40).toNat))))], [.inl r10, .inl (w32 ((w32 (12 * (U7 86 40))) + (U7 90 (U7 86 40).toNat))), .inr (.inr 92)], (am_sh, am_mm U10)) R
      refine eu_iast 92 (n := 24) rfl (by decide) rfl (fun _ => rfl) ha2a1aaaaa.1 ?_
      have ha2a1aaaaaa := ha2a1aaaaa.2
      refine ev_seg (σ1 := ((d + 1), 189, 77, [some (.inr (.inr 86)), some (.inl (w32 ((w32 (12 * (U7 86 40))) + (U7 90 (U7 86 40).toNat))))], [.inr (.inl 491495845235), .inr (.inr 86)], (am_sh, am_mm (am_upd U10 92 (w32 ((w32 (12 * (U7 86 40))) + (U7 90 (U7 86 40).toNat))).toNat r10)))) 2 (fun _ => rfl) ?_
      obtain ⟨U11, ha2a1aaaaaac, ha2a1aaaaaaa⟩ := ha2a1aaaaaa
      refine ev_cal (σc := (d, 266, 0, [some (.inr (.inr 86)), some (.inr (.inl 491495845235)), none], [], (am_sh, am_mm (am_upd U10 92 (w32 ((w32 (12 * (U7 86 40))) + (U7 90 (U7 86 40).toNat))).toNat r10)))) (fun _ => rfl) ha2a1aaaaaac ?_
      show Ev kz ((d + 1), 189, 80, [some (.inr (.inr 86)), some (.inl (w32 ((w32 (12 * (U7 86 40))) + (U7 90 (U7 86 40).toNat))))], [], (am_sh, am_mm U11)) R
      refine ev_seg (σ1 := ((d + 1), 189, 89, [some (.inr (.inr 86)), some (.inl (w32 ((w32 (12 * (U7 86 40))) + (U7 90 (U7 86 40).toNat))))], [.inl 6, .inl 1, .inr (.inr 86), .inl (w32 ((w32 (12 * (U7 86 40))) + (U7 90 (U7 86 40).toNat))), .inr (.inr 93)], (am_sh, am_mm U11))) 6 (fun _ => rfl) ?_
      obtain ⟨r12, U12, ha2a1aaaaaaac, ha2a1aaaaaaaa⟩ := ha2a1aaaaaaa
      refine ev_cal (σc := (d, 268, 0, [some (.inr (.inr 86)), some (.inl 1), some (.inl 6), none], [], (am_sh, am_mm U11))) (fun _ => rfl) ha2a1aaaaaaac ?_
      show Ev kz ((d + 1), 189, 92, [some (.inr (.inr 86)), some (.inl (w32 ((w32 (12 * (U7 86 40))) + (U7 90 (U7 86 40).toNat))))], [.inl r12, .inl (w32 ((w32 (12 * (U7 86 40))) + (U7 90 (U7 86 40).toNat))), .inr (.inr 93)], (am_sh, am_mm U12)) R
      refine eu_iast 93 (n := 24) rfl (by decide) rfl (fun _ => rfl) ha2a1aaaaaaaa.1 ?_
      have ha2a1aaaaaaaaa := ha2a1aaaaaaaa.2
      refine ev_br (P := ¬ ((am_upd U12 93 (w32 ((w32 (12 * (U7 86 40))) + (U7 90 (U7 86 40).toNat))).toNat r12) 86 8) = 0) (σ1 := ((d + 1), 189, 113, [some (.inr (.inr 86)), some (.inl (w32 ((w32 (12 * (U7 86 40))) + (U7 90 (U7 86 40).toNat))))], [], (am_sh, am_mm (am_upd U12 93 (w32 ((w32 (12 * (U7 86 40))) + (U7 90 (U7 86 40).toNat))).toNat r12)))) (σ2 := ((d + 1), 189, 100, [some (.inr (.inr 86)), some (.inl (w32 ((w32 (12 * (U7 86 40))) + (U7 90 (U7 86 40).toNat))))], [], (am_sh, am_mm (am_upd U12 93 (w32 ((w32 (12 * (U7 86 40))) + (U7 90 (U7 86 40).toNat))).toNat r12)))) 3 (fun _ => rfl) (fun hc => ?_) (fun hc => ?_)
      · have ha2a1aaaaaaaaa1 := ha2a1aaaaaaaaa.1 hc
        subst ha2a1aaaaaaaaa1
        exact ev_end 1 (fun _ => rfl)
      · have ha2a1aaaaaaaaa2 := ha2a1aaaaaaaaa.2 hc
        refine ev_seg (σ1 := ((d + 1), 189, 109, [some (.inr (.inr 86)), some (.inl (w32 ((w32 (12 * (U7 86 40))) + (U7 90 (U7 86 40).toNat))))], [.inl ((am_upd U12 93 (w32 ((w32 (12 * (U7 86 40))) + (U7 90 (U7 86 40).toNat))).toNat r12) 86 40), .inr (.inr 90), .inl ((am_upd U12 93 (w32 ((w32 (12 * (U7 86 40))) + (U7 90 (U7 86 40).toNat))).toNat r12) 86 40), .inr (.inr 90)], (am_sh, am_mm (am_upd U12 93 (w32 ((w32 (12 * (U7 86 40))) + (U7 90 (U7 86 40).toNat))).toNat r12)))) 5 (fun _ => rfl) ?_
        refine eu_iald 90 (n := 2) rfl (by decide) rfl (fun _ => rfl) ha2a1aaaaaaaaa2.1 ?_
        have ha2a1aaaaaaaaa2a := ha2a1aaaaaaaaa2.2
        refine ev_seg (σ1 := ((d + 1), 189, 112, [some (.inr (.inr 86)), some (.inl (w32 ((w32 (12 * (U7 86 40))) + (U7 90 (U7 86 40).toNat))))], [.inl (w32 (((am_upd U12 93 (w32 ((w32 (12 * (U7 86 40))) + (U7 90 (U7 86 40).toNat))).toNat r12) 90 ((am_upd U12 93 (w32 ((w32 (12 * (U7 86 40))) + (U7 90 (U7 86 40).toNat))).toNat r12) 86 40).toNat) + 1)), .inl ((am_upd U12 93 (w32 ((w32 (12 * (U7 86 40))) + (U7 90 (U7 86 40).toNat))).toNat r12) 86 40), .inr (.inr 90)], (am_sh, am_mm (am_upd U12 93 (w32 ((w32 (12 * (U7 86 40))) + (U7 90 (U7 86 40).toNat))).toNat r12)))) 2 (fun _ => rfl) ?_
        refine eu_iast 90 (n := 2) rfl (by decide) rfl (fun _ => rfl) ha2a1aaaaaaaaa2a.1 ?_
        have ha2a1aaaaaaaaa2aa := ha2a1aaaaaaaaa2a.2
        subst ha2a1aaaaaaaaa2aa
        exact ev_end 1 (fun _ => rfl)
    · have ha2a2 := ha2a.2 hc
      subst ha2a2
      exact ev_end 1 (fun _ => rfl)
set_option maxRecDepth 8000 in
theorem st187_86_0 (kz : am_Z) (d : Nat) (x1 : Int) (U : Nat → Nat → Int) (R : Option am_V × am_M) (h : (((¬ (U 86 3) = 1 : Prop)) → R = (some (.inl 0), (am_sh, am_mm U))) ∧ (¬ (¬ (U 86 3) = 1) → (((¬ (am_lcmp (U 86 7) x1) = 0 : Prop)) → R = (some (.inl 0), (am_sh, am_mm U))) ∧ (¬ (¬ (am_lcmp (U 86 7) x1) = 0) → R = (some (.inl 1), (am_sh, am_mm U))))) : Ev kz (d, 187, 0, [some (.inr (.inr 86)), some (.inr (.inl x1)), none], [], (am_sh, am_mm U)) R := by
  refine ev_br (P := ¬ (U 86 3) = 1) (σ1 := (d, 187, 21, [some (.inr (.inr 86)), some (.inr (.inl x1)), none], [], (am_sh, am_mm U))) (σ2 := (d, 187, 8, [some (.inr (.inr 86)), some (.inr (.inl x1)), none], [], (am_sh, am_mm U))) 4 (fun _ => rfl) (fun hc => ?_) (fun hc => ?_)
  · have h1 := h.1 hc
    subst h1
    exact ev_end 2 (fun _ => rfl)
  · have h2 := h.2 hc
    refine ev_br (P := ¬ (am_lcmp (U 86 7) x1) = 0) (σ1 := (d, 187, 21, [some (.inr (.inr 86)), some (.inr (.inl x1)), none], [], (am_sh, am_mm U))) (σ2 := (d, 187, 17, [some (.inr (.inr 86)), some (.inr (.inl x1)), none], [], (am_sh, am_mm U))) 5 (fun _ => rfl) (fun hc => ?_) (fun hc => ?_)
    · have h21 := h2.1 hc
      subst h21
      exact ev_end 2 (fun _ => rfl)
    · have h22 := h2.2 hc
      subst h22
      exact ev_end 3 (fun _ => rfl)
set_option maxRecDepth 8000 in
theorem st195_86_0 (kz : am_Z) (d : Nat) (U : Nat → Nat → Int) (R : Option am_V × am_M) (h : ∃ (r1 : Int) (U1 : Nat → Nat → Int), Ev kz (d, 264, 0, [some (.inr (.inr 86)), some (.inl 0)], [], (am_sh, am_mm U)) (some (.inl r1), (am_sh, am_mm U1)) ∧ (((¬ r1 = 0 : Prop)) → ∃ (r2 : Int) (U2 : Nat → Nat → Int), Ev kz (d, 268, 0, [some (.inr (.inr 86)), some (.inl 0), some (.inl 100), none], [], (am_sh, am_mm U1)) (some (.inl r2), (am_sh, am_mm U2)) ∧ (((¬ (U2 86 8) = 0 : Prop)) → R = (none, (am_sh, am_mm U2))) ∧ (¬ (¬ (U2 86 8) = 0) → (0 ≤ (U2 86 40) ∧ (U2 86 40) < 2) ∧ R = (none, (am_sh, am_mm (am_upd U2 110 (U2 86 40).toNat r2))))) ∧ (¬ (¬ r1 = 0) → R = (none, (am_sh, am_mm U1)))) : Ev kz ((d + 1), 195, 0, [some (.inr (.inr 86)), none], [], (am_sh, am_mm U)) R := by
  refine ev_seg (σ1 := ((d + 1), 195, 2, [some (.inr (.inr 86)), none], [.inl 0, .inr (.inr 86)], (am_sh, am_mm U))) 2 (fun _ => rfl) ?_
  obtain ⟨r1, U1, hc, ha⟩ := h
  refine ev_cal (σc := (d, 264, 0, [some (.inr (.inr 86)), some (.inl 0)], [], (am_sh, am_mm U))) (fun _ => rfl) hc ?_
  show Ev kz ((d + 1), 195, 5, [some (.inr (.inr 86)), none], [.inl r1], (am_sh, am_mm U1)) R
  refine ev_br (P := ¬ r1 = 0) (σ1 := ((d + 1), 195, 9, [some (.inr (.inr 86)), none], [], (am_sh, am_mm U1))) (σ2 := ((d + 1), 195, 8, [some (.inr (.inr 86)), none], [], (am_sh, am_mm U1))) 1 (fun _ => rfl) (fun hc => ?_) (fun hc => ?_)
  · have ha1 := ha.1 hc
    refine ev_seg (σ1 := ((d + 1), 195, 13, [some (.inr (.inr 86)), none], [.inl 100, .inl 0, .inr (.inr 86)], (am_sh, am_mm U1))) 3 (fun _ => rfl) ?_
    obtain ⟨r2, U2, ha1c, ha1a⟩ := ha1
    refine ev_cal (σc := (d, 268, 0, [some (.inr (.inr 86)), some (.inl 0), some (.inl 100), none], [], (am_sh, am_mm U1))) (fun _ => rfl) ha1c ?_
    show Ev kz ((d + 1), 195, 16, [some (.inr (.inr 86)), none], [.inl r2], (am_sh, am_mm U2)) R
    refine ev_br (P := ¬ (U2 86 8) = 0) (σ1 := ((d + 1), 195, 34, [some (.inr (.inr 86)), some (.inl r2)], [], (am_sh, am_mm U2))) (σ2 := ((d + 1), 195, 24, [some (.inr (.inr 86)), some (.inl r2)], [], (am_sh, am_mm U2))) 4 (fun _ => rfl) (fun hc => ?_) (fun hc => ?_)
    · have ha1a1 := ha1a.1 hc
      subst ha1a1
      exact ev_end 1 (fun _ => rfl)
    · have ha1a2 := ha1a.2 hc
      refine ev_seg (σ1 := ((d + 1), 195, 33, [some (.inr (.inr 86)), some (.inl r2)], [.inl r2, .inl (U2 86 40), .inr (.inr 110)], (am_sh, am_mm U2))) 5 (fun _ => rfl) ?_
      refine eu_iast 110 (n := 2) rfl (by decide) rfl (fun _ => rfl) ha1a2.1 ?_
      have ha1a2a := ha1a2.2
      subst ha1a2a
      exact ev_end 1 (fun _ => rfl)
  · have ha2 := ha.2 hc
    subst ha2
    exact ev_end 1 (fun _ => rfl)
set_option maxRecDepth 8000 in
theorem st192_86_0 (kz : am_Z) (d : Nat) (U : Nat → Nat → Int) (R : Option am_V × am_M) (h : (0 ≤ (U 86 40) ∧ (U 86 40) < 2) ∧ (((¬ (U 100 (U 86 40).toNat) = 8 : Prop)) → ∃ (r1 : Int) (U1 : Nat → Nat → Int), Ev kz (d, 264, 0, [some (.inr (.inr 86)), some (.inl 0)], [], (am_sh, am_mm U)) (some (.inl r1), (am_sh, am_mm U1)) ∧ (((¬ r1 = 0 : Prop)) → (0 ≤ (U1 86 40) ∧ (U1 86 40) < 2) ∧ ∃ U2 : Nat → Nat → Int, Ev kz (d, 186, 0, [some (.inr (.inr 86))], [], (am_sh, am_mm U1)) (none, (am_sh, am_mm U2)) ∧ ((((U2 86 8) ≤ 0 : Prop)) → ∃ (r3 : Int) (U3 : Nat → Nat → Int), Ev kz (d, 187, 0, [some (.inr (.inr 86)), some (.inr (.inl 1700881256)), none], [], (am_sh, am_mm U2)) (some (.inl r3), (am_sh, am_mm U3)) ∧ (((r3 = 0 : Prop)) → ∃ (r4 : Int) (U4 : Nat → Nat → Int), Ev kz (d, 187, 0, [some (.inr (.inr 86)), some (.inr (.inl 108187867505765)), none], [], (am_sh, am_mm U3)) (some (.inl r4), (am_sh, am_mm U4)) ∧ (((r4 = 0 : Prop)) → ∃ (r5 : Int) (U5 : Nat → Nat → Int), Ev kz (d, 187, 0, [some (.inr (.inr 86)), some (.inr (.inl 131294808271214)), none], [], (am_sh, am_mm U4)) (some (.inl r5), (am_sh, am_mm U5)) ∧ (((r5 = 0 : Prop)) → Ev kz ((d + 1), 192, 105, [some (.inr (.inr 86)), some (.inl (w32 ((w32 (8 * (U1 86 40))) + (U1 100 (U1 86 40).toNat))))], [.inl (-1), .inl (w32 ((w32 (8 * (U1 86 40))) + (U1 100 (U1 86 40).toNat))), .inr (.inr 101)], (am_sh, am_mm U5)) R) ∧ (¬ (r5 = 0) → Ev kz ((d + 1), 192, 105, [some (.inr (.inr 86)), some (.inl (w32 ((w32 (8 * (U1 86 40))) + (U1 100 (U1 86 40).toNat))))], [.inl 2, .inl (w32 ((w32 (8 * (U1 86 40))) + (U1 100 (U1 86 40).toNat))), .inr (.inr 101)], (am_sh, am_mm U5)) R)) ∧ (¬ (r4 = 0) → Ev kz ((d + 1), 192, 105, [some (.inr (.inr 86)), some (.inl (w32 ((w32 (8 * (U1 86 40))) + (U1 100 (U1 86 40).toNat))))], [.inl 1, .inl (w32 ((w32 (8 * (U1 86 40))) + (U1 100 (U1 86 40).toNat))), .inr (.inr 101)], (am_sh, am_mm U4)) R)) ∧ (¬ (r3 = 0) → Ev kz ((d + 1), 192, 105, [some (.inr (.inr 86)), some (.inl (w32 ((w32 (8 * (U1 86 40))) + (U1 100 (U1 86 40).toNat))))], [.inl 0, .inl (w32 ((w32 (8 * (U1 86 40))) + (U1 100 (U1 86 40).toNat))), .inr (.inr 101)], (am_sh, am_mm U3)) R)) ∧ (¬ ((U2 86 8) ≤ 0) → R = (none, (am_sh, am_mm U2)))) ∧ (¬ (¬ r1 = 0) → R = (none, (am_sh, am_mm U1)))) ∧ (¬ (¬ (U 100 (U 86 40).toNat) = 8) → ∃ (r6 : Int) (U6 : Nat → Nat → Int), Ev kz (d, 264, 0, [some (.inr (.inr 86)), some (.inl 1)], [], (am_sh, am_mm U)) (some (.inl r6), (am_sh, am_mm U6)) ∧ (((¬ r6 = 0 : Prop)) → (0 ≤ (U6 86 40) ∧ (U6 86 40) < 2) ∧ ∃ U7 : Nat → Nat → Int, Ev kz (d, 186, 0, [some (.inr (.inr 86))], [], (am_sh, am_mm U6)) (none, (am_sh, am_mm U7)) ∧ ((((U7 86 8) ≤ 0 : Prop)) → ∃ (r8 : Int) (U8 : Nat → Nat → Int), Ev kz (d, 187, 0, [some (.inr (.inr 86)), some (.inr (.inl 1700881256)), none], [], (am_sh, am_mm U7)) (some (.inl r8), (am_sh, am_mm U8)) ∧ (((r8 = 0 : Prop)) → ∃ (r9 : Int) (U9 : Nat → Nat → Int), Ev kz (d, 187, 0, [some (.inr (.inr 86)), some (.inr (.inl 108187867505765)), none], [], (am_sh, am_mm U8)) (some (.inl r9), (am_sh, am_mm U9)) ∧ (((r9 = 0 : Prop)) → ∃ (r10 : Int) (U10 : Nat → Nat → Int), Ev kz (d, 187, 0, [some (.inr (.inr 86)), some (.inr (.inl 131294808271214)), none], [], (am_sh, am_mm U9)) (some (.inl r10), (am_sh, am_mm U10)) ∧ (((r10 = 0 : Prop)) → Ev kz ((d + 1), 192, 105, [some (.inr (.inr 86)), some (.inl (w32 ((w32 (8 * (U6 86 40))) + (U6 100 (U6 86 40).toNat))))], [.inl (-1), .inl (w32 ((w32 (8 * (U6 86 40))) + (U6 100 (U6 86 40).toNat))), .inr (.inr 101)], (am_sh, am_mm U10)) R) ∧ (¬ (r10 = 0) → Ev kz ((d + 1), 192, 105, [some (.inr (.inr 86)), some (.inl (w32 ((w32 (8 * (U6 86 40))) + (U6 100 (U6 86 40).toNat))))], [.inl 2, .inl (w32 ((w32 (8 * (U6 86 40))) + (U6 100 (U6 86 40).toNat))), .inr (.inr 101)], (am_sh, am_mm U10)) R)) ∧ (¬ (r9 = 0) → Ev kz ((d + 1), 192, 105, [some (.inr (.inr 86)), some (.inl (w32 ((w32 (8 * (U6 86 40))) + (U6 100 (U6 86 40).toNat))))], [.inl 1, .inl (w32 ((w32 (8 * (U6 86 40))) + (U6 100 (U6 86 40).toNat))), .inr (.inr 101)], (am_sh, am_mm U9)) R)) ∧ (¬ (r8 = 0) → Ev kz ((d + 1), 192, 105, [some (.inr (.inr 86)), some (.inl (w32 ((w32 (8 * (U6 86 40))) + (U6 100 (U6 86 40).toNat))))], [.inl 0, .inl (w32 ((w32 (8 * (U6 86 40))) + (U6 100 (U6 86 40).toNat))), .inr (.inr 101)], (am_sh, am_mm U8)) R)) ∧ (¬ ((U7 86 8) ≤ 0) → R = (none, (am_sh, am_mm U7)))) ∧ (¬ (¬ r6 = 0) → R = (none, (am_sh, am_mm U6))))) : Ev kz ((d + 1), 192, 0, [some (.inr (.inr 86)), none], [], (am_sh, am_mm U)) R := by
  refine ev_seg (σ1 := ((d + 1), 192, 9, [some (.inr (.inr 86)), none], [.inl (U 86 40), .inr (.inr 100), .inr (.inr 86)], (am_sh, am_mm U))) 5 (fun _ => rfl) ?_
  refine eu_iald 100 (n := 2) rfl (by decide) rfl (fun _ => rfl) h.1 ?_
  have ha := h.2
  refine ev_br (P := ¬ (U 100 (U 86 40).toNat) = 8) (σ1 := ((d + 1), 192, 19, [some (.inr (.inr 86)), none], [.inr (.inr 86)], (am_sh, am_mm U))) (σ2 := ((d + 1), 192, 15, [some (.inr (.inr 86)), none], [.inr (.inr 86)], (am_sh, am_mm U))) 2 (fun _ => rfl) (fun hc => ?_) (fun hc => ?_)
  · have ha1 := ha.1 hc
    refine ev_seg (σ1 := ((d + 1), 192, 20, [some (.inr (.inr 86)), none], [.inl 0, .inr (.inr 86)], (am_sh, am_mm U))) 1 (fun _ => rfl) ?_
    obtain ⟨r1, U1, ha1c, ha1a⟩ := ha1
    refine ev_cal (σc := (d, 264, 0, [some (.inr (.inr 86)), some (.inl 0)], [], (am_sh, am_mm U))) (fun _ => rfl) ha1c ?_
    show Ev kz ((d + 1), 192, 23, [some (.inr (.inr 86)), none], [.inl r1], (am_sh, am_mm U1)) R
    refine ev_br (P := ¬ r1 = 0) (σ1 := ((d + 1), 192, 27, [some (.inr (.inr 86)), none], [], (am_sh, am_mm U1))) (σ2 := ((d + 1), 192, 26, [some (.inr (.inr 86)), none], [], (am_sh, am_mm U1))) 1 (fun _ => rfl) (fun hc => ?_) (fun hc => ?_)
    · have ha1a1 := ha1a.1 hc
      refine ev_seg (σ1 := ((d + 1), 192, 42, [some (.inr (.inr 86)), none], [.inl (U1 86 40), .inr (.inr 100), .inl (w32 (8 * (U1 86 40)))], (am_sh, am_mm U1))) 8 (fun _ => rfl) ?_
      refine eu_iald 100 (n := 2) rfl (by decide) rfl (fun _ => rfl) ha1a1.1 ?_
      have ha1a1a := ha1a1.2
      refine ev_seg (σ1 := ((d + 1), 192, 46, [some (.inr (.inr 86)), some (.inl (w32 ((w32 (8 * (U1 86 40))) + (U1 100 (U1 86 40).toNat))))], [.inr (.inr 86)], (am_sh, am_mm U1))) 3 (fun _ => rfl) ?_
      obtain ⟨U2, ha1a1ac, ha1a1aa⟩ := ha1a1a
      refine ev_cal (σc := (d, 186, 0, [some (.inr (.inr 86))], [], (am_sh, am_mm U1))) (fun _ => rfl) ha1a1ac ?_
      show Ev kz ((d + 1), 192, 49, [some (.inr (.inr 86)), some (.inl (w32 ((w32 (8 * (U1 86 40))) + (U1 100 (U1 86 40).toNat))))], [], (am_sh, am_mm U2)) R
      refine ev_br (P := (U2 86 8) ≤ 0) (σ1 := ((d + 1), 192, 57, [some (.inr (.inr 86)), some (.inl (w32 ((w32 (8 * (U1 86 40))) + (U1 100 (U1 86 40).toNat))))], [], (am_sh, am_mm U2))) (σ2 := ((d + 1), 192, 56, [some (.inr (.inr 86)), some (.inl (w32 ((w32 (8 * (U1 86 40))) + (U1 100 (U1 86 40).toNat))))], [], (am_sh, am_mm U2))) 3 (fun _ => rfl) (fun hc => ?_) (fun hc => ?_)
      · have ha1a1aa1 := ha1a1aa.1 hc
        refine ev_seg (σ1 := ((d + 1), 192, 66, [some (.inr (.inr 86)), some (.inl (w32 ((w32 (8 * (U1 86 40))) + (U1 100 (U1 86 40).toNat))))], [.inr (.inl 1700881256), .inr (.inr 86), .inl (w32 ((w32 (8 * (U1 86 40))) + (U1 100 (U1 86 40).toNat))), .inr (.inr 101)], (am_sh, am_mm U2))) 5 (fun _ => rfl) ?_
        obtain ⟨r3, U3, ha1a1aa1c, ha1a1aa1a⟩ := ha1a1aa1
        refine ev_cal (σc := (d, 187, 0, [some (.inr (.inr 86)), some (.inr (.inl 1700881256)), none], [], (am_sh, am_mm U2))) (fun _ => rfl) ha1a1aa1c ?_
        show Ev kz ((d + 1), 192, 69, [some (.inr (.inr 86)), some (.inl (w32 ((w32 (8 * (U1 86 40))) + (U1 100 (U1 86 40).toNat))))], [.inl r3, .inl (w32 ((w32 (8 * (U1 86 40))) + (U1 100 (U1 86 40).toNat))), .inr (.inr 101)], (am_sh, am_mm U3)) R
        refine ev_br (P := r3 = 0) (σ1 := ((d + 1), 192, 76, [some (.inr (.inr 86)), some (.inl (w32 ((w32 (8 * (U1 86 40))) + (U1 100 (U1 86 40).toNat))))], [.inl (w32 ((w32 (8 * (U1 86 40))) + (U1 100 (U1 86 40).toNat))), .inr (.inr 101)], (am_sh, am_mm U3))) (σ2 := ((d + 1), 192, 72, [some (.inr (.inr 86)), some (.inl (w32 ((w32 (8 * (U1 86 40))) + (U1 100 (U1 86 40).toNat))))], [.inl (w32 ((w32 (8 * (U1 86 40))) + (U1 100 (U1 86 40).toNat))), .inr (.inr 101)], (am_sh, am_mm U3))) 1 (fun _ => rfl) (fun hc => ?_) (fun hc => ?_)
        · have ha1a1aa1a1 := ha1a1aa1a.1 hc
          refine ev_seg (σ1 := ((d + 1), 192, 80, [some (.inr (.inr 86)), some (.inl (w32 ((w32 (8 * (U1 86 40))) + (U1 100 (U1 86 40).toNat))))], [.inr (.inl 108187867505765), .inr (.inr 86), .inl (w32 ((w32 (8 * (U1 86 40))) + (U1 100 (U1 86 40).toNat))), .inr (.inr 101)], (am_sh, am_mm U3))) 2 (fun _ => rfl) ?_
          obtain ⟨r4, U4, ha1a1aa1a1c, ha1a1aa1a1a⟩ := ha1a1aa1a1
          refine ev_cal (σc := (d, 187, 0, [some (.inr (.inr 86)), some (.inr (.inl 108187867505765)), none], [], (am_sh, am_mm U3))) (fun _ => rfl) ha1a1aa1a1c ?_
          show Ev kz ((d + 1), 192, 83, [some (.inr (.inr 86)), some (.inl (w32 ((w32 (8 * (U1 86 40))) + (U1 100 (U1 86 40).toNat))))], [.inl r4, .inl (w32 ((w32 (8 * (U1 86 40))) + (U1 100 (U1 86 40).toNat))), .inr (.inr 101)], (am_sh, am_mm U4)) R
          refine ev_br (P := r4 = 0) (σ1 := ((d + 1), 192, 90, [some (.inr (.inr 86)), some (.inl (w32 ((w32 (8 * (U1 86 40))) + (U1 100 (U1 86 40).toNat))))], [.inl (w32 ((w32 (8 * (U1 86 40))) + (U1 100 (U1 86 40).toNat))), .inr (.inr 101)], (am_sh, am_mm U4))) (σ2 := ((d + 1), 192, 86, [some (.inr (.inr 86)), some (.inl (w32 ((w32 (8 * (U1 86 40))) + (U1 100 (U1 86 40).toNat))))], [.inl (w32 ((w32 (8 * (U1 86 40))) + (U1 100 (U1 86 40).toNat))), .inr (.inr 101)], (am_sh, am_mm U4))) 1 (fun _ => rfl) (fun hc => ?_) (fun hc => ?_)
          · have ha1a1aa1a1a1 := ha1a1aa1a1a.1 hc
            refine ev_seg (σ1 := ((d + 1), 192, 94, [some (.inr (.inr 86)), some (.inl (w32 ((w32 (8 * (U1 86 40))) + (U1 100 (U1 86 40).toNat))))], [.inr (.inl 131294808271214), .inr (.inr 86), .inl (w32 ((w32 (8 * (U1 86 40))) + (U1 100 (U1 86 40).toNat))), .inr (.inr 101)], (am_sh, am_mm U4))) 2 (fun _ => rfl) ?_
            obtain ⟨r5, U5, ha1a1aa1a1a1c, ha1a1aa1a1a1a⟩ := ha1a1aa1a1a1
            refine ev_cal (σc := (d, 187, 0, [some (.inr (.inr 86)), some (.inr (.inl 131294808271214)), none], [], (am_sh, am_mm U4))) (fun _ => rfl) ha1a1aa1a1a1c ?_
            show Ev kz ((d + 1), 192, 97, [some (.inr (.inr 86)), some (.inl (w32 ((w32 (8 * (U1 86 40))) + (U1 100 (U1 86 40).toNat))))], [.inl r5, .inl (w32 ((w32 (8 * (U1 86 40))) + (U1 100 (U1 86 40).toNat))), .inr (.inr 101)], (am_sh, am_mm U5)) R
            refine ev_br (P := r5 = 0) (σ1 := ((d + 1), 192, 104, [some (.inr (.inr 86)), some (.inl (w32 ((w32 (8 * (U1 86 40))) + (U1 100 (U1 86 40).toNat))))], [.inl (w32 ((w32 (8 * (U1 86 40))) + (U1 100 (U1 86 40).toNat))), .inr (.inr 101)], (am_sh, am_mm U5))) (σ2 := ((d + 1), 192, 100, [some (.inr (.inr 86)), some (.inl (w32 ((w32 (8 * (U1 86 40))) + (U1 100 (U1 86 40).toNat))))], [.inl (w32 ((w32 (8 * (U1 86 40))) + (U1 100 (U1 86 40).toNat))), .inr (.inr 101)], (am_sh, am_mm U5))) 1 (fun _ => rfl) (fun hc => ?_) (fun hc => ?_)
            · have ha1a1aa1a1a1a1 := ha1a1aa1a1a1a.1 hc
              refine ev_seg (σ1 := ((d + 1), 192, 105, [some (.inr (.inr 86)), some (.inl (w32 ((w32 (8 * (U1 86 40))) + (U1 100 (U1 86 40).toNat))))], [.inl (-1), .inl (w32 ((w32 (8 * (U1 86 40))) + (U1 100 (U1 86 40).toNat))), .inr (.inr 101)], (am_sh, am_mm U5))) 1 (fun _ => rfl) ?_
              exact ha1a1aa1a1a1a1
            · have ha1a1aa1a1a1a2 := ha1a1aa1a1a1a.2 hc
              refine ev_seg (σ1 := ((d + 1), 192, 105, [some (.inr (.inr 86)), some (.inl (w32 ((w32 (8 * (U1 86 40))) + (U1 100 (U1 86 40).toNat))))], [.inl 2, .inl (w32 ((w32 (8 * (U1 86 40))) + (U1 100 (U1 86 40).toNat))), .inr (.inr 101)], (am_sh, am_mm U5))) 2 (fun _ => rfl) ?_
              exact ha1a1aa1a1a1a2
          · have ha1a1aa1a1a2 := ha1a1aa1a1a.2 hc
            refine ev_seg (σ1 := ((d + 1), 192, 105, [some (.inr (.inr 86)), some (.inl (w32 ((w32 (8 * (U1 86 40))) + (U1 100 (U1 86 40).toNat))))], [.inl 1, .inl (w32 ((w32 (8 * (U1 86 40))) + (U1 100 (U1 86 40).toNat))), .inr (.inr 101)], (am_sh, am_mm U4))) 2 (fun _ => rfl) ?_
            exact ha1a1aa1a1a2
        · have ha1a1aa1a2 := ha1a1aa1a.2 hc
          refine ev_seg (σ1 := ((d + 1), 192, 105, [some (.inr (.inr 86)), some (.inl (w32 ((w32 (8 * (U1 86 40))) + (U1 100 (U1 86 40).toNat))))], [.inl 0, .inl (w32 ((w32 (8 * (U1 86 40))) + (U1 100 (U1 86 40).toNat))), .inr (.inr 101)], (am_sh, am_mm U3))) 2 (fun _ => rfl) ?_
          exact ha1a1aa1a2
      · have ha1a1aa2 := ha1a1aa.2 hc
        subst ha1a1aa2
        exact ev_end 1 (fun _ => rfl)
    · have ha1a2 := ha1a.2 hc
      subst ha1a2
      exact ev_end 1 (fun _ => rfl)
  · have ha2 := ha.2 hc
    refine ev_seg (σ1 := ((d + 1), 192, 20, [some (.inr (.inr 86)), none], [.inl 1, .inr (.inr 86)], (am_sh, am_mm U))) 2 (fun _ => rfl) ?_
    obtain ⟨r6, U6, ha2c, ha2a⟩ := ha2
    refine ev_cal (σc := (d, 264, 0, [some (.inr (.inr 86)), some (.inl 1)], [], (am_sh, am_mm U))) (fun _ => rfl) ha2c ?_
    show Ev kz ((d + 1), 192, 23, [some (.inr (.inr 86)), none], [.inl r6], (am_sh, am_mm U6)) R
    refine ev_br (P := ¬ r6 = 0) (σ1 := ((d + 1), 192, 27, [some (.inr (.inr 86)), none], [], (am_sh, am_mm U6))) (σ2 := ((d + 1), 192, 26, [some (.inr (.inr 86)), none], [], (am_sh, am_mm U6))) 1 (fun _ => rfl) (fun hc => ?_) (fun hc => ?_)
    · have ha2a1 := ha2a.1 hc
      refine ev_seg (σ1 := ((d + 1), 192, 42, [some (.inr (.inr 86)), none], [.inl (U6 86 40), .inr (.inr 100), .inl (w32 (8 * (U6 86 40)))], (am_sh, am_mm U6))) 8 (fun _ => rfl) ?_
      refine eu_iald 100 (n := 2) rfl (by decide) rfl (fun _ => rfl) ha2a1.1 ?_
      have ha2a1a := ha2a1.2
      refine ev_seg (σ1 := ((d + 1), 192, 46, [some (.inr (.inr 86)), some (.inl (w32 ((w32 (8 * (U6 86 40))) + (U6 100 (U6 86 40).toNat))))], [.inr (.inr 86)], (am_sh, am_mm U6))) 3 (fun _ => rfl) ?_
      obtain ⟨U7, ha2a1ac, ha2a1aa⟩ := ha2a1a
      refine ev_cal (σc := (d, 186, 0, [some (.inr (.inr 86))], [], (am_sh, am_mm U6))) (fun _ => rfl) ha2a1ac ?_
      show Ev kz ((d + 1), 192, 49, [some (.inr (.inr 86)), some (.inl (w32 ((w32 (8 * (U6 86 40))) + (U6 100 (U6 86 40).toNat))))], [], (am_sh, am_mm U7)) R
      refine ev_br (P := (U7 86 8) ≤ 0) (σ1 := ((d + 1), 192, 57, [some (.inr (.inr 86)), some (.inl (w32 ((w32 (8 * (U6 86 40))) + (U6 100 (U6 86 40).toNat))))], [], (am_sh, am_mm U7))) (σ2 := ((d + 1), 192, 56, [some (.inr (.inr 86)), some (.inl (w32 ((w32 (8 * (U6 86 40))) + (U6 100 (U6 86 40).toNat))))], [], (am_sh, am_mm U7))) 3 (fun _ => rfl) (fun hc => ?_) (fun hc => ?_)
      · have ha2a1aa1 := ha2a1aa.1 hc
        refine ev_seg (σ1 := ((d + 1), 192, 66, [some (.inr (.inr 86)), some (.inl (w32 ((w32 (8 * (U6 86 40))) + (U6 100 (U6 86 40).toNat))))], [.inr (.inl 1700881256), .inr (.inr 86), .inl (w32 ((w32 (8 * (U6 86 40))) + (U6 100 (U6 86 40).toNat))), .inr (.inr 101)], (am_sh, am_mm U7))) 5 (fun _ => rfl) ?_
        obtain ⟨r8, U8, ha2a1aa1c, ha2a1aa1a⟩ := ha2a1aa1
        refine ev_cal (σc := (d, 187, 0, [some (.inr (.inr 86)), some (.inr (.inl 1700881256)), none], [], (am_sh, am_mm U7))) (fun _ => rfl) ha2a1aa1c ?_
        show Ev kz ((d + 1), 192, 69, [some (.inr (.inr 86)), some (.inl (w32 ((w32 (8 * (U6 86 40))) + (U6 100 (U6 86 40).toNat))))], [.inl r8, .inl (w32 ((w32 (8 * (U6 86 40))) + (U6 100 (U6 86 40).toNat))), .inr (.inr 101)], (am_sh, am_mm U8)) R
        refine ev_br (P := r8 = 0) (σ1 := ((d + 1), 192, 76, [some (.inr (.inr 86)), some (.inl (w32 ((w32 (8 * (U6 86 40))) + (U6 100 (U6 86 40).toNat))))], [.inl (w32 ((w32 (8 * (U6 86 40))) + (U6 100 (U6 86 40).toNat))), .inr (.inr 101)], (am_sh, am_mm U8))) (σ2 := ((d + 1), 192, 72, [some (.inr (.inr 86)), some (.inl (w32 ((w32 (8 * (U6 86 40))) + (U6 100 (U6 86 40).toNat))))], [.inl (w32 ((w32 (8 * (U6 86 40))) + (U6 100 (U6 86 40).toNat))), .inr (.inr 101)], (am_sh, am_mm U8))) 1 (fun _ => rfl) (fun hc => ?_) (fun hc => ?_)
        · have ha2a1aa1a1 := ha2a1aa1a.1 hc
          refine ev_seg (σ1 := ((d + 1), 192, 80, [some (.inr (.inr 86)), some (.inl (w32 ((w32 (8 * (U6 86 40))) + (U6 100 (U6 86 40).toNat))))], [.inr (.inl 108187867505765), .inr (.inr 86), .inl (w32 ((w32 (8 * (U6 86 40))) + (U6 100 (U6 86 40).toNat))), .inr (.inr 101)], (am_sh, am_mm U8))) 2 (fun _ => rfl) ?_
          obtain ⟨r9, U9, ha2a1aa1a1c, ha2a1aa1a1a⟩ := ha2a1aa1a1
          refine ev_cal (σc := (d, 187, 0, [some (.inr (.inr 86)), some (.inr (.inl 108187867505765)), none], [], (am_sh, am_mm U8))) (fun _ => rfl) ha2a1aa1a1c ?_
          show Ev kz ((d + 1), 192, 83, [some (.inr (.inr 86)), some (.inl (w32 ((w32 (8 * (U6 86 40))) + (U6 100 (U6 86 40).toNat))))], [.inl r9, .inl (w32 ((w32 (8 * (U6 86 40))) + (U6 100 (U6 86 40).toNat))), .inr (.inr 101)], (am_sh, am_mm U9)) R
          refine ev_br (P := r9 = 0) (σ1 := ((d + 1), 192, 90, [some (.inr (.inr 86)), some (.inl (w32 ((w32 (8 * (U6 86 40))) + (U6 100 (U6 86 40).toNat))))], [.inl (w32 ((w32 (8 * (U6 86 40))) + (U6 100 (U6 86 40).toNat))), .inr (.inr 101)], (am_sh, am_mm U9))) (σ2 := ((d + 1), 192, 86, [some (.inr (.inr 86)), some (.inl (w32 ((w32 (8 * (U6 86 40))) + (U6 100 (U6 86 40).toNat))))], [.inl (w32 ((w32 (8 * (U6 86 40))) + (U6 100 (U6 86 40).toNat))), .inr (.inr 101)], (am_sh, am_mm U9))) 1 (fun _ => rfl) (fun hc => ?_) (fun hc => ?_)
          · have ha2a1aa1a1a1 := ha2a1aa1a1a.1 hc
            refine ev_seg (σ1 := ((d + 1), 192, 94, [some (.inr (.inr 86)), some (.inl (w32 ((w32 (8 * (U6 86 40))) + (U6 100 (U6 86 40).toNat))))], [.inr (.inl 131294808271214), .inr (.inr 86), .inl (w32 ((w32 (8 * (U6 86 40))) + (U6 100 (U6 86 40).toNat))), .inr (.inr 101)], (am_sh, am_mm U9))) 2 (fun _ => rfl) ?_
            obtain ⟨r10, U10, ha2a1aa1a1a1c, ha2a1aa1a1a1a⟩ := ha2a1aa1a1a1
            refine ev_cal (σc := (d, 187, 0, [some (.inr (.inr 86)), some (.inr (.inl 131294808271214)), none], [], (am_sh, am_mm U9))) (fun _ => rfl) ha2a1aa1a1a1c ?_
            show Ev kz ((d + 1), 192, 97, [some (.inr (.inr 86)), some (.inl (w32 ((w32 (8 * (U6 86 40))) + (U6 100 (U6 86 40).toNat))))], [.inl r10, .inl (w32 ((w32 (8 * (U6 86 40))) + (U6 100 (U6 86 40).toNat))), .inr (.inr 101)], (am_sh, am_mm U10)) R
            refine ev_br (P := r10 = 0) (σ1 := ((d + 1), 192, 104, [some (.inr (.inr 86)), some (.inl (w32 ((w32 (8 * (U6 86 40))) + (U6 100 (U6 86 40).toNat))))], [.inl (w32 ((w32 (8 * (U6 86 40))) + (U6 100 (U6 86 40).toNat))), .inr (.inr 101)], (am_sh, am_mm U10))) (σ2 := ((d + 1), 192, 100, [some (.inr (.inr 86)), some (.inl (w32 ((w32 (8 * (U6 86 40))) + (U6 100 (U6 86 40).toNat))))], [.inl (w32 ((w32 (8 * (U6 86 40))) + (U6 100 (U6 86 40).toNat))), .inr (.inr 101)], (am_sh, am_mm U10))) 1 (fun _ => rfl) (fun hc => ?_) (fun hc => ?_)
            · have ha2a1aa1a1a1a1 := ha2a1aa1a1a1a.1 hc
              refine ev_seg (σ1 := ((d + 1), 192, 105, [some (.inr (.inr 86)), some (.inl (w32 ((w32 (8 * (U6 86 40))) + (U6 100 (U6 86 40).toNat))))], [.inl (-1), .inl (w32 ((w32 (8 * (U6 86 40))) + (U6 100 (U6 86 40).toNat))), .inr (.inr 101)], (am_sh, am_mm U10))) 1 (fun _ => rfl) ?_
              exact ha2a1aa1a1a1a1
            · have ha2a1aa1a1a1a2 := ha2a1aa1a1a1a.2 hc
              refine ev_seg (σ1 := ((d + 1), 192, 105, [some (.inr (.inr 86)), some (.inl (w32 ((w32 (8 * (U6 86 40))) + (U6 100 (U6 86 40).toNat))))], [.inl 2, .inl (w32 ((w32 (8 * (U6 86 40))) + (U6 100 (U6 86 40).toNat))), .inr (.inr 101)], (am_sh, am_mm U10))) 2 (fun _ => rfl) ?_
              exact ha2a1aa1a1a1a2
          · have ha2a1aa1a1a2 := ha2a1aa1a1a.2 hc
            refine ev_seg (σ1 := ((d + 1), 192, 105, [some (.inr (.inr 86)), some (.inl (w32 ((w32 (8 * (U6 86 40))) + (U6 100 (U6 86 40).toNat))))], [.inl 1, .inl (w32 ((w32 (8 * (U6 86 40))) + (U6 100 (U6 86 40).toNat))), .inr (.inr 101)], (am_sh, am_mm U9))) 2 (fun _ => rfl) ?_
            exact ha2a1aa1a1a2
        · have ha2a1aa1a2 := ha2a1aa1a.2 hc
          refine ev_seg (σ1 := ((d + 1), 192, 105, [some (.inr (.inr 86)), some (.inl (w32 ((w32 (8 * (U6 86 40))) + (U6 100 (U6 86 40).toNat))))], [.inl 0, .inl (w32 ((w32 (8 * (U6 86 40))) + (U6 100 (U6 86 40).toNat))), .inr (.inr 101)], (am_sh, am_mm U8))) 2 (fun _ => rfl) ?_
          exact ha2a1aa1a2
      · have ha2a1aa2 := ha2a1aa.2 hc
        subst ha2a1aa2
        exact ev_end 1 (fun _ => rfl)
    · have ha2a2 := ha2a.2 hc
      subst ha2a2
      exact ev_end 1 (fun _ => rfl)
set_option maxRecDepth 8000 in
theorem st192_86_105 (kz : am_Z) (d : Nat) (x1 s1 s2 : Int) (U : Nat → Nat → Int) (R : Option am_V × am_M) (h : (0 ≤ s1 ∧ s1 < 16) ∧ (0 ≤ x1 ∧ x1 < 16) ∧ (((¬ ((am_upd U 101 s1.toNat s2) 101 x1.toNat) = (-1) : Prop)) → (((((am_upd U 101 s1.toNat s2) 86 8) ≤ 0 : Prop)) → ∃ U1 : Nat → Nat → Int, Ev kz (d, 93, 0, [some (.inr (.inr 86)), none, none, none, none, none], [], (am_sh, am_mm (am_upd U 101 s1.toNat s2))) (none, (am_sh, am_mm U1)) ∧ (0 ≤ x1 ∧ x1 < 16) ∧ ∃ U2 : Nat → Nat → Int, Ev kz (d, 271, 0, [some (.inr (.inr 86)), some (.inl 1), none], [], (am_sh, am_mm (am_upd U1 102 x1.toNat (U1 86 39)))) (none, (am_sh, am_mm U2)) ∧ (0 ≤ x1 ∧ x1 < 16) ∧ (((¬ ((am_upd U2 103 x1.toNat (U2 86 39)) 86 8) = 0 : Prop)) → R = (none, (am_sh, am_mm (am_upd U2 103 x1.toNat (U2 86 39))))) ∧ (¬ (¬ ((am_upd U2 103 x1.toNat (U2 86 39)) 86 8) = 0) → (0 ≤ ((am_upd U2 103 x1.toNat (U2 86 39)) 86 40) ∧ ((am_upd U2 103 x1.toNat (U2 86 39)) 86 40) < 2) ∧ (0 ≤ ((am_upd U2 103 x1.toNat (U2 86 39)) 86 40) ∧ ((am_upd U2 103 x1.toNat (U2 86 39)) 86 40) < 2) ∧ R = (none, (am_sh, am_mm (am_upd (am_upd U2 103 x1.toNat (U2 86 39)) 100 ((am_upd U2 103 x1.toNat (U2 86 39)) 86 40).toNat (w32 (((am_upd U2 103 x1.toNat (U2 86 39)) 100 ((am_upd U2 103 x1.toNat (U2 86 39)) 86 40).toNat) + 1))))))) ∧ (¬ (((am_upd U 101 s1.toNat s2) 86 8) ≤ 0) → R = (none, (am_sh, am_mm (am_upd U 101 s1.toNat s2))))) ∧ (¬ (¬ ((am_upd U 101 s1.toNat s2) 101 x1.toNat) = (-1)) → ∃ U3 : Nat → Nat → Int, Ev kz (d, 196, 0, [some (.inr (.inr 86)), some (.inl 1), some (.inl ((am_upd U 101 s1.toNat s2) 86 4))], [], (am_sh, am_mm (am_upd U 101 s1.toNat s2))) (none, (am_sh, am_mm U3)) ∧ ((((U3 86 8) ≤ 0 : Prop)) → ∃ U4 : Nat → Nat → Int, Ev kz (d, 93, 0, [some (.inr (.inr 86)), none, none, none, none, none], [], (am_sh, am_mm U3)) (none, (am_sh, am_mm U4)) ∧ (0 ≤ x1 ∧ x1 < 16) ∧ ∃ U5 : Nat → Nat → Int, Ev kz (d, 271, 0, [some (.inr (.inr 86)), some (.inl 1), none], [], (am_sh, am_mm (am_upd U4 102 x1.toNat (U4 86 39)))) (none, (am_sh, am_mm U5)) ∧ (0 ≤ x1 ∧ x1 < 16) ∧ (((¬ ((am_upd U5 103 x1.toNat (U5 86 39)) 86 8) = 0 : Prop)) → R = (none, (am_sh, am_mm (am_upd U5 103 x1.toNat (U5 86 39))))) ∧ (¬ (¬ ((am_upd U5 103 x1.toNat (U5 86 39)) 86 8) = 0) → (0 ≤ ((am_upd U5 103 x1.toNat (U5 86 39)) 86 40) ∧ ((am_upd U5 103 x1.toNat (U5 86 39)) 86 40) < 2) ∧ (0 ≤ ((am_upd U5 103 x1.toNat (U5 86 39)) 86 40) ∧ ((am_upd U5 103 x1.toNat (U5 86 39)) 86 40) < 2) ∧ R = (none, (am_sh, am_mm (am_upd (am_upd U5 103 x1.toNat (U5 86 39)) 100 ((am_upd U5 103 x1.toNat (U5 86 39)) 86 40).toNat (w32 (((am_upd U5 103 x1.toNat (U5 86 39)) 100 ((am_upd U5 103 x1.toNat (U5 86 39)) 86 40).toNat) + 1))))))) ∧ (¬ ((U3 86 8) ≤ 0) → R = (none, (am_sh, am_mm U3))))) : Ev kz ((d + 1), 192, 105, [some (.inr (.inr 86)), some (.inl x1)], [.inl s2, .inl s1, .inr (.inr 101)], (am_sh, am_mm U)) R := by
  refine eu_iast 101 (n := 16) rfl (by decide) rfl (fun _ => rfl) h.1 ?_
  have ha := h.2
  refine ev_seg (σ1 := ((d + 1), 192, 111, [some (.inr (.inr 86)), some (.inl x1)], [.inl x1, .inr (.inr 101)], (am_sh, am_mm (am_upd U 101 s1.toNat s2)))) 3 (fun _ => rfl) ?_
  refine eu_iald 101 (n := 16) rfl (by decide) rfl (fun _ => rfl) ha.1 ?_
  have haa := ha.2
  refine ev_br (P := ¬ ((am_upd U 101 s1.toNat s2) 101 x1.toNat) = (-1)) (σ1 := ((d + 1), 192, 125, [some (.inr (.inr 86)), some (.inl x1)], [], (am_sh, am_mm (am_upd U 101 s1.toNat s2)))) (σ2 := ((d + 1), 192, 116, [some (.inr (.inr 86)), some (.inl x1)], [], (am_sh, am_mm (am_upd U 101 s1.toNat s2)))) 2 (fun _ => rfl) (fun hc => ?_) (fun hc => ?_)
  · have haa1 := haa.1 hc
    refine ev_br (P := ((am_upd U 101 s1.toNat s2) 86 8) ≤ 0) (σ1 := ((d + 1), 192, 133, [some (.inr (.inr 86)), some (.inl x1)], [], (am_sh, am_mm (am_upd U 101 s1.toNat s2)))) (σ2 := ((d + 1), 192, 132, [some (.inr (.inr 86)), some (.inl x1)], [], (am_sh, am_mm (am_upd U 101 s1.toNat s2)))) 3 (fun _ => rfl) (fun hc => ?_) (fun hc => ?_)
    · have haa11 := haa1.1 hc
      refine ev_seg (σ1 := ((d + 1), 192, 134, [some (.inr (.inr 86)), some (.inl x1)], [.inr (.inr 86)], (am_sh, am_mm (am_upd U 101 s1.toNat s2)))) 1 (fun _ => rfl) ?_
      obtain ⟨U1, haa11c, haa11a⟩ := haa11
      refine ev_cal (σc := (d, 93, 0, [some (.inr (.inr 86)), none, none, none, none, none], [], (am_sh, am_mm (am_upd U 101 s1.toNat s2)))) (fun _ => rfl) haa11c ?_
      show Ev kz ((d + 1), 192, 137, [some (.inr (.inr 86)), some (.inl x1)], [], (am_sh, am_mm U1)) R
      refine ev_seg (σ1 := ((d + 1), 192, 146, [some (.inr (.inr 86)), some (.inl x1)], [.inl (U1 86 39), .inl x1, .inr (.inr 102)], (am_sh, am_mm U1))) 5 (fun _ => rfl) ?_
      refine eu_iast 102 (n := 16) rfl (by decide) rfl (fun _ => rfl) haa11a.1 ?_
      have haa11aa := haa11a.2
      refine ev_seg (σ1 := ((d + 1), 192, 149, [some (.inr (.inr 86)), some (.inl x1)], [.inl 1, .inr (.inr 86)], (am_sh, am_mm (am_upd U1 102 x1.toNat (U1 86 39))))) 2 (fun _ => rfl) ?_
      obtain ⟨U2, haa11aac, haa11aaa⟩ := haa11aa
      refine ev_cal (σc := (d, 271, 0, [some (.inr (.inr 86)), some (.inl 1), none], [], (am_sh, am_mm (am_upd U1 102 x1.toNat (U1 86 39))))) (fun _ => rfl) haa11aac ?_
      show Ev kz ((d + 1), 192, 152, [some (.inr (.inr 86)), some (.inl x1)], [], (am_sh, am_mm U2)) R
      refine ev_seg (σ1 := ((d + 1), 192, 161, [some (.inr (.inr 86)), some (.inl x1)], [.inl (U2 86 39), .inl x1, .inr (.inr 103)], (am_sh, am_mm U2))) 5 (fun _ => rfl) ?_
      refine eu_iast 103 (n := 16) rfl (by decide) rfl (fun _ => rfl) haa11aaa.1 ?_
      have haa11aaaa := haa11aaa.2
      refine ev_br (P := ¬ ((am_upd U2 103 x1.toNat (U2 86 39)) 86 8) = 0) (σ1 := ((d + 1), 192, 182, [some (.inr (.inr 86)), some (.inl x1)], [], (am_sh, am_mm (am_upd U2 103 x1.toNat (U2 86 39))))) (σ2 := ((d + 1), 192, 169, [some (.inr (.inr 86)), some (.inl x1)], [], (am_sh, am_mm (am_upd U2 103 x1.toNat (U2 86 39))))) 3 (fun _ => rfl) (fun hc => ?_) (fun hc => ?_)
      · have haa11aaaa1 := haa11aaaa.1 hc
        subst haa11aaaa1
        exact ev_end 1 (fun _ => rfl)
      · have haa11aaaa2 := haa11aaaa.2 hc
        refine ev_seg (σ1 := ((d + 1), 192, 178, [some (.inr (.inr 86)), some (.inl x1)], [.inl ((am_upd U2 103 x1.toNat (U2 86 39)) 86 40), .inr (.inr 100), .inl ((am_upd U2 103 x1.toNat (U2 86 39)) 86 40), .inr (.inr 100)], (am_sh, am_mm (am_upd U2 103 x1.toNat (U2 86 39))))) 5 (fun _ => rfl) ?_
        refine eu_iald 100 (n := 2) rfl (by decide) rfl (fun _ => rfl) haa11aaaa2.1 ?_
        have haa11aaaa2a := haa11aaaa2.2
        refine ev_seg (σ1 := ((d + 1), 192, 181, [some (.inr (.inr 86)), some (.inl x1)], [.inl (w32 (((am_upd U2 103 x1.toNat (U2 86 39)) 100 ((am_upd U2 103 x1.toNat (U2 86 39)) 86 40).toNat) + 1)), .inl ((am_upd U2 103 x1.toNat (U2 86 39)) 86 40), .inr (.inr 100)], (am_sh, am_mm (am_upd U2 103 x1.toNat (U2 86 39))))) 2 (fun _ => rfl) ?_
        refine eu_iast 100 (n := 2) rfl (by decide) rfl (fun _ => rfl) haa11aaaa2a.1 ?_
        have haa11aaaa2aa := haa11aaaa2a.2
        subst haa11aaaa2aa
        exact ev_end 1 (fun _ => rfl)
    · have haa12 := haa1.2 hc
      subst haa12
      exact ev_end 1 (fun _ => rfl)
  · have haa2 := haa.2 hc
    refine ev_seg (σ1 := ((d + 1), 192, 122, [some (.inr (.inr 86)), some (.inl x1)], [.inl ((am_upd U 101 s1.toNat s2) 86 4), .inl 1, .inr (.inr 86)], (am_sh, am_mm (am_upd U 101 s1.toNat s2)))) 4 (fun _ => rfl) ?_
    obtain ⟨U3, haa2c, haa2a⟩ := haa2
    refine ev_cal (σc := (d, 196, 0, [some (.inr (.inr 86)), some (.inl 1), some (.inl ((am_upd U 101 s1.toNat s2) 86 4))], [], (am_sh, am_mm (am_upd U 101 s1.toNat s2)))) (fun _ => rfl) haa2c ?_
    show Ev kz ((d + 1), 192, 125, [some (.inr (.inr 86)), some (.inl x1)], [], (am_sh, am_mm U3)) R
    refine ev_br (P := (U3 86 8) ≤ 0) (σ1 := ((d + 1), 192, 133, [some (.inr (.inr 86)), some (.inl x1)], [], (am_sh, am_mm U3))) (σ2 := ((d + 1), 192, 132, [some (.inr (.inr 86)), some (.inl x1)], [], (am_sh, am_mm U3))) 3 (fun _ => rfl) (fun hc => ?_) (fun hc => ?_)
    · have haa2a1 := haa2a.1 hc
      refine ev_seg (σ1 := ((d + 1), 192, 134, [some (.inr (.inr 86)), some (.inl x1)], [.inr (.inr 86)], (am_sh, am_mm U3))) 1 (fun _ => rfl) ?_
      obtain ⟨U4, haa2a1c, haa2a1a⟩ := haa2a1
      refine ev_cal (σc := (d, 93, 0, [some (.inr (.inr 86)), none, none, none, none, none], [], (am_sh, am_mm U3))) (fun _ => rfl) haa2a1c ?_
      show Ev kz ((d + 1), 192, 137, [some (.inr (.inr 86)), some (.inl x1)], [], (am_sh, am_mm U4)) R
      refine ev_seg (σ1 := ((d + 1), 192, 146, [some (.inr (.inr 86)), some (.inl x1)], [.inl (U4 86 39), .inl x1, .inr (.inr 102)], (am_sh, am_mm U4))) 5 (fun _ => rfl) ?_
      refine eu_iast 102 (n := 16) rfl (by decide) rfl (fun _ => rfl) haa2a1a.1 ?_
      have haa2a1aa := haa2a1a.2
      refine ev_seg (σ1 := ((d + 1), 192, 149, [some (.inr (.inr 86)), some (.inl x1)], [.inl 1, .inr (.inr 86)], (am_sh, am_mm (am_upd U4 102 x1.toNat (U4 86 39))))) 2 (fun _ => rfl) ?_
      obtain ⟨U5, haa2a1aac, haa2a1aaa⟩ := haa2a1aa
      refine ev_cal (σc := (d, 271, 0, [some (.inr (.inr 86)), some (.inl 1), none], [], (am_sh, am_mm (am_upd U4 102 x1.toNat (U4 86 39))))) (fun _ => rfl) haa2a1aac ?_
      show Ev kz ((d + 1), 192, 152, [some (.inr (.inr 86)), some (.inl x1)], [], (am_sh, am_mm U5)) R
      refine ev_seg (σ1 := ((d + 1), 192, 161, [some (.inr (.inr 86)), some (.inl x1)], [.inl (U5 86 39), .inl x1, .inr (.inr 103)], (am_sh, am_mm U5))) 5 (fun _ => rfl) ?_
      refine eu_iast 103 (n := 16) rfl (by decide) rfl (fun _ => rfl) haa2a1aaa.1 ?_
      have haa2a1aaaa := haa2a1aaa.2
      refine ev_br (P := ¬ ((am_upd U5 103 x1.toNat (U5 86 39)) 86 8) = 0) (σ1 := ((d + 1), 192, 182, [some (.inr (.inr 86)), some (.inl x1)], [], (am_sh, am_mm (am_upd U5 103 x1.toNat (U5 86 39))))) (σ2 := ((d + 1), 192, 169, [some (.inr (.inr 86)), some (.inl x1)], [], (am_sh, am_mm (am_upd U5 103 x1.toNat (U5 86 39))))) 3 (fun _ => rfl) (fun hc => ?_) (fun hc => ?_)
      · have haa2a1aaaa1 := haa2a1aaaa.1 hc
        subst haa2a1aaaa1
        exact ev_end 1 (fun _ => rfl)
      · have haa2a1aaaa2 := haa2a1aaaa.2 hc
        refine ev_seg (σ1 := ((d + 1), 192, 178, [some (.inr (.inr 86)), some (.inl x1)], [.inl ((am_upd U5 103 x1.toNat (U5 86 39)) 86 40), .inr (.inr 100), .inl ((am_upd U5 103 x1.toNat (U5 86 39)) 86 40), .inr (.inr 100)], (am_sh, am_mm (am_upd U5 103 x1.toNat (U5 86 39))))) 5 (fun _ => rfl) ?_
        refine eu_iald 100 (n := 2) rfl (by decide) rfl (fun _ => rfl) haa2a1aaaa2.1 ?_
        have haa2a1aaaa2a := haa2a1aaaa2.2
        refine ev_seg (σ1 := ((d + 1), 192, 181, [some (.inr (.inr 86)), some (.inl x1)], [.inl (w32 (((am_upd U5 103 x1.toNat (U5 86 39)) 100 ((am_upd U5 103 x1.toNat (U5 86 39)) 86 40).toNat) + 1)), .inl ((am_upd U5 103 x1.toNat (U5 86 39)) 86 40), .inr (.inr 100)], (am_sh, am_mm (am_upd U5 103 x1.toNat (U5 86 39))))) 2 (fun _ => rfl) ?_
        refine eu_iast 100 (n := 2) rfl (by decide) rfl (fun _ => rfl) haa2a1aaaa2a.1 ?_
        have haa2a1aaaa2aa := haa2a1aaaa2a.2
        subst haa2a1aaaa2aa
        exact ev_end 1 (fun _ => rfl)
    · have haa2a2 := haa2a.2 hc
      subst haa2a2
      exact ev_end 1 (fun _ => rfl)
set_option maxRecDepth 8000 in
theorem st196_86_0 (kz : am_Z) (d : Nat) (x1 x2 : Int) (U : Nat → Nat → Int) (R : Option am_V × am_M) (h : ((((U 86 8) ≤ 0 : Prop)) → R = (none, (am_sh, am_mm (am_upd (am_upd U 86 8 x1) 86 9 x2)))) ∧ (¬ ((U 86 8) ≤ 0) → R = (none, (am_sh, am_mm U)))) : Ev kz (d, 196, 0, [some (.inr (.inr 86)), some (.inl x1), some (.inl x2)], [], (am_sh, am_mm U)) R := by
  refine ev_br (P := (U 86 8) ≤ 0) (σ1 := (d, 196, 8, [some (.inr (.inr 86)), some (.inl x1), some (.inl x2)], [], (am_sh, am_mm U))) (σ2 := (d, 196, 7, [some (.inr (.inr 86)), some (.inl x1), some (.inl x2)], [], (am_sh, am_mm U))) 3 (fun _ => rfl) (fun hc => ?_) (fun hc => ?_)
  · have h1 := h.1 hc
    refine ev_seg (σ1 := (d, 196, 10, [some (.inr (.inr 86)), some (.inl x1), some (.inl x2)], [.inl x1, .inr (.inr 86)], (am_sh, am_mm U))) 2 (fun _ => rfl) ?_
    refine eu_puti 86 (n := 90) rfl (by decide) rfl rfl ?_
    refine ev_seg (σ1 := (d, 196, 15, [some (.inr (.inr 86)), some (.inl x1), some (.inl x2)], [.inl x2, .inr (.inr 86)], (am_sh, am_mm (am_upd U 86 8 x1)))) 2 (fun _ => rfl) ?_
    refine eu_puti 86 (n := 90) rfl (by decide) rfl rfl ?_
    subst h1
    exact ev_end 1 (fun _ => rfl)
  · have h2 := h.2 hc
    subst h2
    exact ev_end 1 (fun _ => rfl)
set_option maxRecDepth 8000 in
theorem st190_86_0 (kz : am_Z) (d : Nat) (U : Nat → Nat → Int) (R : Option am_V × am_M) (h : (0 ≤ (U 86 40) ∧ (U 86 40) < 2) ∧ (((¬ (U 94 (U 86 40).toNat) = 10 : Prop)) → ∃ (r1 : Int) (U1 : Nat → Nat → Int), Ev kz (d, 264, 0, [some (.inr (.inr 86)), some (.inl 0)], [], (am_sh, am_mm U)) (some (.inl r1), (am_sh, am_mm U1)) ∧ (((¬ r1 = 0 : Prop)) → (0 ≤ (U1 86 40) ∧ (U1 86 40) < 2) ∧ ∃ (r2 : Int) (U2 : Nat → Nat → Int), Ev kz (d, 267, 0, [some (.inr (.inr 86)), some (.inl 1), none], [], (am_sh, am_mm U1)) (some (.inl r2), (am_sh, am_mm U2)) ∧ ∃ (r3 : Int) (U3 : Nat → Nat → Int), Ev kz (d, 269, 0, [some (.inr (.inr 86)), some (.inl 1), none], [], (am_sh, am_mm U2)) (some (.inl r3), (am_sh, am_mm U3)) ∧ (((¬ (U3 86 8) = 0 : Prop)) → ((((U3 86 8) ≤ 0 : Prop)) → ∃ U4 : Nat → Nat → Int, Ev kz (d, 93, 0, [some (.inr (.inr 86)), none, none, none, none, none], [], (am_sh, am_mm U3)) (none, (am_sh, am_mm U4)) ∧ (0 ≤ (w32 ((w32 (10 * (U1 86 40))) + (U1 94 (U1 86 40).toNat))) ∧ (w32 ((w32 (10 * (U1 86 40))) + (U1 94 (U1 86 40).toNat))) < 20) ∧ (0 ≤ (w32 ((w32 (10 * (U1 86 40))) + (U1 94 (U1 86 40).toNat))) ∧ (w32 ((w32 (10 * (U1 86 40))) + (U1 94 (U1 86 40).toNat))) < 20) ∧ (0 ≤ ((am_upd (am_upd U4 95 (w32 ((w32 (10 * (U1 86 40))) + (U1 94 (U1 86 40).toNat))).toNat r2) 96 (w32 ((w32 (10 * (U1 86 40))) + (U1 94 (U1 86 40).toNat))).toNat r3) 86 40) ∧ ((am_upd (am_upd U4 95 (w32 ((w32 (10 * (U1 86 40))) + (U1 94 (U1 86 40).toNat))).toNat r2) 96 (w32 ((w32 (10 * (U1 86 40))) + (U1 94 (U1 86 40).toNat))).toNat r3) 86 40) < 2) ∧ (0 ≤ ((am_upd (am_upd U4 95 (w32 ((w32 (10 * (U1 86 40))) + (U1 94 (U1 86 40).toNat))).toNat r2) 96 (w32 ((w32 (10 * (U1 86 40))) + (U1 94 (U1 86 40).toNat))).toNat r3) 86 40) ∧ ((am_upd (am_upd U4 95 (w32 ((w32 (10 * (U1 86 40))) + (U1 94 (U1 86 40).toNat))).toNat r2) 96 (w32 ((w32 (10 * (U1 86 40))) + (U1 94 (U1 86 40).toNat))).toNat r3) 86 40) < 2) ∧ R = (none, (am_sh, am_mm (am_upd (am_upd (am_upd U4 95 (w32 ((w32 (10 * (U1 86 40))) + (U1 94 (U1 86 40).toNat))).toNat r2) 96 (w32 ((w32 (10 * (U1 86 40))) + (U1 94 (U1 86 40).toNat))).toNat r3) 94 ((am_upd (am_upd U4 95 (w32 ((w32 (10 * (U1 86 40))) + (U1 94 (U1 86 40).toNat))).toNat r2) 96 (w32 ((w32 (10 * (U1 86 40))) + (U1 94 (U1 86 40).toNat))).toNat r3) 86 40).toNat (w32 (((am_upd (am_upd U4 95 (w32 ((w32 (10 * (U1 86 40))) + (U1 94 (U1 86 40).toNat))).toNat r2) 96 (w32 ((w32 (10 * (U1 86 40))) + (U1 94 (U1 86 40).toNat))).toNat r3) 94 ((am_upd (am_upd U4 95 (w32 ((w32 (10 * (U1 86 40))) + (U1 94 (U1 86 40).toNat))).toNat r2) 96 (w32 ((w32 (10 * (U1 86 40))) + (U1 94 (U1 86 40).toNat))).toNat r3) 86 40).toNat) + 1)))))) ∧ (¬ ((U3 86 8) ≤ 0) → R = (none, (am_sh, am_mm U3)))) ∧ (¬ (¬ (U3 86 8) = 0) → (((r2 = r3 : Prop)) → ∃ U5 : Nat → Nat → Int, Ev kz (d, 196, 0, [some (.inr (.inr 86)), some (.inl 3), some (.inl (U3 86 4))], [], (am_sh, am_mm U3)) (none, (am_sh, am_mm U5)) ∧ ((((U5 86 8) ≤ 0 : Prop)) → ∃ U6 : Nat → Nat → Int, Ev kz (d, 93, 0, [some (.inr (.inr 86)), none, none, none, none, none], [], (am_sh, am_mm U5)) (none, (am_sh, am_mm U6)) ∧ (0 ≤ (w32 ((w32 (10 * (U1 86 40))) + (U1 94 (U1 86 40).toNat))) ∧ (w32 ((w32 (10 * (U1 86 40))) + (U1 94 (U1 86 40).toNat))) < 20) ∧ (0 ≤ (w32 ((w32 (10 * (U1 86 40))) + (U1 94 (U1 86 40).toNat))) ∧ (w32 ((w32 (10 * (U1 86 40))) + (U1 94 (U1 86 40).toNat))) < 20) ∧ (0 ≤ ((am_upd (am_upd U6 95 (w32 ((w32 (10 * (U1 86 40))) + (U1 94 (U1 86 40).toNat))).toNat r2) 96 (w32 ((w32 (10 * (U1 86 40))) + (U1 94 (U1 86 40).toNat))).toNat r3) 86 40) ∧ ((am_upd (am_upd U6 95 (w32 ((w32 (10 * (U1 86 40))) + (U1 94 (U1 86 40).toNat))).toNat r2) 96 (w32 ((w32 (10 * (U1 86 40))) + (U1 94 (U1 86 40).toNat))).toNat r3) 86 40) < 2) ∧ (0 ≤ ((am_upd (am_upd U6 95 (w32 ((w32 (10 * (U1 86 40))) + (U1 94 (U1 86 40).toNat))).toNat r2) 96 (w32 ((w32 (10 * (U1 86 40))) + (U1 94 (U1 86 40).toNat))).toNat r3) 86 40) ∧ ((am_upd (am_upd U6 95 (w32 ((w32 (10 * (U1 86 40))) + (U1 94 (U1 86 40).toNat))).toNat r2) 96 (w32 ((w32 (10 * (U1 86 40))) + (U1 94 (U1 86 40).toNat))).toNat r3) 86 40) < 2) ∧ R = (none, (am_sh, am_mm (am_upd (am_upd (am_upd U6 95 (w32 ((w32 (10 * (U1 86 40))) + (U1 94 (U1 86 40).toNat))).toNat r2) 96 (w32 ((w32 (10 * (U1 86 40))) + (U1 94 (U1 86 40).toNat))).toNat r3) 94 ((am_upd (am_upd U6 95 (w32 ((w32 (10 * (U1 86 40))) + (U1 94 (U1 86 40).toNat))).toNat r2) 96 (w32 ((w32 (10 * (U1 86 40))) + (U1 94 (U1 86 40).toNat))).toNat r3) 86 40).toNat (w32 (((am_upd (am_upd U6 95 (w32 ((w32 (10 * (U1 86 40))) + (U1 94 (U1 86 40).toNat))).toNat r2) 96 (w32 ((w32 (10 * (U1 86 40))) + (U1 94 (U1 86 40).toNat))).toNat r3) 94 ((am_upd (am_upd U6 95 (w32 ((w32 (10 * (U1 86 40))) + (U1 94 (U1 86 40).toNat))).toNat r2) 96 (w32 ((w32 (10 * (U1 86 40))) + (U1 94 (U1 86 40).toNat))).toNat r3) 86 40).toNat) + 1)))))) ∧ (¬ ((U5 86 8) ≤ 0) → R = (none, (am_sh, am_mm U5)))) ∧ (¬ (r2 = r3) → ∃ (r7 : Int) (U7 : Nat → Nat → Int), Ev kz (d, 113, 0, [some (.inr (.inr 86)), some (.inl (U3 86 40)), some (.inl r2), some (.inl r3), none, none], [], (am_sh, am_mm U3)) (some (.inl r7), (am_sh, am_mm U7)) ∧ (((r7 = 0 : Prop)) → ((((U7 86 8) ≤ 0 : Prop)) → ∃ U8 : Nat → Nat → Int, Ev kz (d, 93, 0, [some (.inr (.inr 86)), none, none, none, none, none], [], (am_sh, am_mm U7)) (none, (am_sh, am_mm U8)) ∧ (0 ≤ (w32 ((w32 (10 * (U1 86 40))) + (U1 94 (U1 86 40).toNat))) ∧ (w32 ((w32 (10 * (U1 86 40))) + (U1 94 (U1 86 40).toNat))) < 20) ∧ (0 ≤ (w32 ((w32 (10 * (U1 86 40))) + (U1 94 (U1 86 40).toNat))) ∧ (w32 ((w32 (10 * (U1 86 40))) + (U1 94 (U1 86 40).toNat))) < 20) ∧ (0 ≤ ((am_upd (am_upd U8 95 (w32 ((w32 (10 * (U1 86 40))) + (U1 94 (U1 86 40).toNat))).toNat r2) 96 (w32 ((w32 (10 * (U1 86 40))) + (U1 94 (U1 86 40).toNat))).toNat r3) 86 40) ∧ ((am_upd (am_upd U8 95 (w32 ((w32 (10 * (U1 86 40))) + (U1 94 (U1 86 40).toNat))).toNat r2) 96 (w32 ((w32 (10 * (U1 86 40))) + (U1 94 (U1 86 40).toNat))).toNat r3) 86 40) < 2) ∧ (0 ≤ ((am_upd (am_upd U8 95 (w32 ((w32 (10 * (U1 86 40))) + (U1 94 (U1 86 40).toNat))).toNat r2) 96 (w32 ((w32 (10 * (U1 86 40))) + (U1 94 (U1 86 40).toNat))).toNat r3) 86 40) ∧ ((am_upd (am_upd U8 95 (w32 ((w32 (10 * (U1 86 40))) + (U1 94 (U1 86 40).toNat))).toNat r2) 96 (w32 ((w32 (10 * (U1 86 40))) + (U1 94 (U1 86 40).toNat))).toNat r3) 86 40) < 2) ∧ R = (none, (am_sh, am_mm (am_upd (am_upd (am_upd U8 95 (w32 ((w32 (10 * (U1 86 40))) + (U1 94 (U1 86 40).toNat))).toNat r2) 96 (w32 ((w32 (10 * (U1 86 40))) + (U1 94 (U1 86 40).toNat))).toNat r3) 94 ((am_upd (am_upd U8 95 (w32 ((w32 (10 * (U1 86 40))) + (U1 94 (U1 86 40).toNat))).toNat r2) 96 (w32 ((w32 (10 * (U1 86 40))) + (U1 94 (U1 86 40).toNat))).toNat r3) 86 40).toNat (w32 (((am_upd (am_upd U8 95 (w32 ((w32 (10 * (U1 86 40))) + (U1 94 (U1 86 40).toNat))).toNat r2) 96 (w32 ((w32 (10 * (U1 86 40))) + (U1 94 (U1 86 40).toNat))).toNat r3) 94 ((am_upd (am_upd U8 95 (w32 ((w32 (10 * (U1 86 40))) + (U1 94 (U1 86 40).toNat))).toNat r2) 96 (w32 ((w32 (10 * (U1 86 40))) + (U1 94 (U1 86 40).toNat))).toNat r3) 86 40).toNat) + 1)))))) ∧ (¬ ((U7 86 8) ≤ 0) → R = (none, (am_sh, am_mm U7)))) ∧ (¬ (r7 = 0) → ∃ U9 : Nat → Nat → Int, Ev kz (d, 196, 0, [some (.inr (.inr 86)), some (.inl 3), some (.inl (U7 86 4))], [], (am_sh, am_mm U7)) (none, (am_sh, am_mm U9)) ∧ ((((U9 86 8) ≤ 0 : Prop)) → ∃ U10 : Nat → Nat → Int, Ev kz (d, 93, 0, [some (.inr (.inr 86)), none, none, none, none, none], [], (am_sh, am_mm U9)) (none, (am_sh, am_mm U10)) ∧ (0 ≤ (w32 ((w32 (10 * (U1 86 40))) + (U1 94 (U1 86 40).toNat))) ∧ (w32 ((w32 (10 * (U1 86 40))) + (U1 94 (U1 86 40).toNat))) < 20) ∧ (0 ≤ (w32 ((w32 (10 * (U1 86 40))) + (U1 94 (U1 86 40).toNat))) ∧ (w32 ((w32 (10 * (U1 86 40))) + (U1 94 (U1 86 40).toNat))) < 20) ∧ (0 ≤ ((am_upd (am_upd U10 95 (w32 ((w32 (10 * (U1 86 40))) + (U1 94 (U1 86 40).toNat))).toNat r2) 96 (w32 ((w32 (10 * (U1 86 40))) + (U1 94 (U1 86 40).toNat))).toNat r3) 86 40) ∧ ((am_upd (am_upd U10 95 (w32 ((w32 (10 * (U1 86 40))) + (U1 94 (U1 86 40).toNat))).toNat r2) 96 (w32 ((w32 (10 * (U1 86 40))) + (U1 94 (U1 86 40).toNat))).toNat r3) 86 40) < 2) ∧ (0 ≤ ((am_upd (am_upd U10 95 (w32 ((w32 (10 * (U1 86 40))) + (U1 94 (U1 86 40).toNat))).toNat r2) 96 (w32 ((w32 (10 * (U1 86 40))) + (U1 94 (U1 86 40).toNat))).toNat r3) 86 40) ∧ ((am_upd (am_upd U10 95 (w32 ((w32 (10 * (U1 86 40))) + (U1 94 (U1 86 40).toNat))).toNat r2) 96 (w32 ((w32 (10 * (U1 86 40))) + (U1 94 (U1 86 40).toNat))).toNat r3) 86 40) < 2) ∧ R = (none, (am_sh, am_mm (am_upd (am_upd (am_upd U10 95 (w32 ((w32 (10 * (U1 86 40))) + (U1 94 (U1 86 40).toNat))).toNat r2) 96 (w32 ((w32 (10 * (U1 86 40))) + (U1 94 (U1 86 40).toNat))).toNat r3) 94 ((am_upd (am_upd U10 95 (w32 ((w32 (10 * (U1 86 40))) + (U1 94 (U1 86 40).toNat))).toNat r2) 96 (w32 ((w32 (10 * (U1 86 40))) + (U1 94 (U1 86 40).toNat))).toNat r3) 86 40).toNat (w32 (((am_upd (am_upd U10 95 (w32 ((w32 (10 * (U1 86 40))) + (U1 94 (U1 86 40).toNat))).toNat r2) 96 (w32 ((w32 (10 * (U1 86 40))) + (U1 94 (U1 86 40).toNat))).toNat r3) 94 ((am_upd (am_upd U10 95 (w32 ((w32 (10 * (U1 86 40))) + (U1 94 (U1 86 40).toNat))).toNat r2) 96 (w32 ((w32 (10 * (U1 86 40))) + (U1 94 (U1 86 40).toNat))).toNat r3) 86 40).toNat) + 1)))))) ∧ (¬ ((U9 86 8) ≤ 0) → R = (none, (am_sh, am_mm U9))))))) ∧ (¬ (¬ r1 = 0) → R = (none, (am_sh, am_mm U1)))) ∧ (¬ (¬ (U 94 (U 86 40).toNat) = 10) → ∃ (r11 : Int) (U11 : Nat → Nat → Int), Ev kz (d, 264, 0, [some (.inr (.inr 86)), some (.inl 1)], [], (am_sh, am_mm U)) (some (.inl r11), (am_sh, am_mm U11)) ∧ (((¬ r11 = 0 : Prop)) → (0 ≤ (U11 86 40) ∧ (U11 86 40) < 2) ∧ ∃ (r12 : Int) (U12 : Nat → Nat → Int), Ev kz (d, 267, 0, [some (.inr (.inr 86)), some (.inl 1), none], [], (am_sh, am_mm U11)) (some (.inl r12), (am_sh, am_mm U12)) ∧ ∃ (r13 : Int) (U13 : Nat → Nat → Int), Ev kz (d, 269, 0, [some (.inr (.inr 86)), some (.inl 1), none], [], (am_sh, am_mm U12)) (some (.inl r13), (am_sh, am_mm U13)) ∧ (((¬ (U13 86 8) = 0 : Prop)) → ((((U13 86 8) ≤ 0 : Prop)) → ∃ U14 : Nat → Nat → Int, Ev kz (d, 93, 0, [some (.inr (.inr 86)), none, none, none, none, none], [], (am_sh, am_mm U13)) (none, (am_sh, am_mm U14)) ∧ (0 ≤ (w32 ((w32 (10 * (U11 86 40))) + (U11 94 (U11 86 40).toNat))) ∧ (w32 ((w32 (10 * (U11 86 40))) + (U11 94 (U11 86 40).toNat))) < 20) ∧ (0 ≤ (w32 ((w32 (10 * (U11 86 40))) + (U11 94 (U11 86 40).toNat))) ∧ (w32 ((w32 (10 * (U11 86 40))) + (U11 94 (U11 86 40).toNat))) < 20) ∧ (0 ≤ ((am_upd (am_upd U14 95 (w32 ((w32 (10 * (U11 86 40))) + (U11 94 (U11 86 40).toNat))).toNat r12) 96 (w32 ((w32 (10 * (U11 86 40))) + (U11 94 (U11 86 40).toNat))).toNat r13) 86 40) ∧ ((am_upd (am_upd U14 95 (w32 ((w32 (10 * (U11 86 40))) + (U11 94 (U11 86 40).toNat))).toNat r12) 96 (w32 ((w32 (10 * (U11 86 40))) + (U11 94 (U11 86 40).toNat))).toNat r13) 86 40) < 2) ∧ (0 ≤ ((am_upd (am_upd U14 95 (w32 ((w32 (10 * (U11 86 40))) + (U11 94 (U11 86 40).toNat))).toNat r12) 96 (w32 ((w32 (10 * (U11 86 40))) + (U11 94 (U11 86 40).toNat))).toNat r13) 86 40) ∧ ((am_upd (am_upd U14 95 (w32 ((w32 (10 * (U11 86 40))) + (U11 94 (U11 86 40).toNat))).toNat r12) 96 (w32 ((w32 (10 * (U11 86 40))) + (U11 94 (U11 86 40).toNat))).toNat r13) 86 40) < 2) ∧ R = (none, (am_sh, am_mm (am_upd (am_upd (am_upd U14 95 (w32 ((w32 (10 * (U11 86 40))) + (U11 94 (U11 86 40).toNat))).toNat r12) 96 (w32 ((w32 (10 * (U11 86 40))) + (U11 94 (U11 86 40).toNat))).toNat r13) 94 ((am_upd (am_upd U14 95 (w32 ((w32 (10 * (U11 86 40))) + (U11 94 (U11 86 40).toNat))).toNat r12) 96 (w32 ((w32 (10 * (U11 86 40))) + (U11 94 (U11 86 40).toNat))).toNat r13) 86 40).toNat (w32 (((am_upd (am_upd U14 95 (w32 ((w32 (10 * (U11 86 40))) + (U11 94 (U11 86 40).toNat))).toNat r12) 96 (w32 ((w32 (10 * (U11 86 40))) + (U11 94 (U11 86 40).toNat))).toNat r13) 94 ((am_upd (am_upd U14 95 (w32 ((w32 (10 * (U11 86 40))) + (U11 94 (U11 86 40).toNat))).toNat r12) 96 (w32 ((w32 (10 * (U11 86 40))) + (U11 94 (U11 86 40).toNat))).toNat r13) 86 40).toNat) + 1)))))) ∧ (¬ ((U13 86 8) ≤ 0) → R = (none, (am_sh, am_mm U13)))) ∧ (¬ (¬ (U13 86 8) = 0) → (((r12 = r13 : Prop)) → ∃ U15 : Nat → Nat → Int, Ev kz (d, 196, 0, [some (.inr (.inr 86)), some (.inl 3), some (.inl (U13 86 4))], [], (am_sh, am_mm U13)) (none, (am_sh, am_mm U15)) ∧ ((((U15 86 8) ≤ 0 : Prop)) → ∃ U16 : Nat → Nat → Int, Ev kz (d, 93, 0, [some (.inr (.inr 86)), none, none, none, none, none], [], (am_sh, am_mm U15)) (none, (am_sh, am_mm U16)) ∧ (0 ≤ (w32 ((w32 (10 * (U11 86 40))) + (U11 94 (U11 86 40).toNat))) ∧ (w32 ((w32 (10 * (U11 86 40))) + (U11 94 (U11 86 40).toNat))) < 20) ∧ (0 ≤ (w32 ((w32 (10 * (U11 86 40))) + (U11 94 (U11 86 40).toNat))) ∧ (w32 ((w32 (10 * (U11 86 40))) + (U11 94 (U11 86 40).toNat))) < 20) ∧ (0 ≤ ((am_upd (am_upd U16 95 (w32 ((w32 (10 * (U11 86 40))) + (U11 94 (U11 86 40).toNat))).toNat r12) 96 (w32 ((w32 (10 * (U11 86 40))) + (U11 94 (U11 86 40).toNat))).toNat r13) 86 40) ∧ ((am_upd (am_upd U16 95 (w32 ((w32 (10 * (U11 86 40))) + (U11 94 (U11 86 40).toNat))).toNat r12) 96 (w32 ((w32 (10 * (U11 86 40))) + (U11 94 (U11 86 40).toNat))).toNat r13) 86 40) < 2) ∧ (0 ≤ ((am_upd (am_upd U16 95 (w32 ((w32 (10 * (U11 86 40))) + (U11 94 (U11 86 40).toNat))).toNat r12) 96 (w32 ((w32 (10 * (U11 86 40))) + (U11 94 (U11 86 40).toNat))).toNat r13) 86 40) ∧ ((am_upd (am_upd U16 95 (w32 ((w32 (10 * (U11 86 40))) + (U11 94 (U11 86 40).toNat))).toNat r12) 96 (w32 ((w32 (10 * (U11 86 40))) + (U11 94 (U11 86 40).toNat))).toNat r13) 86 40) < 2) ∧ R = (none, (am_sh, am_mm (am_upd (am_upd (am_upd U16 95 (w32 ((w32 (10 * (U11 86 40))) + (U11 94 (U11 86 40).toNat))).toNat r12) 96 (w32 ((w32 (10 * (U11 86 40))) + (U11 94 (U11 86 40).toNat))).toNat r13) 94 ((am_upd (am_upd U16 95 (w32 ((w32 (10 * (U11 86 40))) + (U11 94 (U11 86 40).toNat))).toNat r12) 96 (w32 ((w32 (10 * (U11 86 40))) + (U11 94 (U11 86 40).toNat))).toNat r13) 86 40).toNat (w32 (((am_upd (am_upd U16 95 (w32 ((w32 (10 * (U11 86 40))) + (U11 94 (U11 86 40).toNat))).toNat r12) 96 (w32 ((w32 (10 * (U11 86 40))) + (U11 94 (U11 86 40).toNat))).toNat r13) 94 ((am_upd (am_upd U16 95 (w32 ((w32 (10 * (U11 86 40))) + (U11 94 (U11 86 40).toNat))).toNat r12) 96 (w32 ((w32 (10 * (U11 86 40))) + (U11 94 (U11 86 40).toNat))).toNat r13) 86 40).toNat) + 1)))))) ∧ (¬ ((U15 86 8) ≤ 0) → R = (none, (am_sh, am_mm U15)))) ∧ (¬ (r12 = r13) → ∃ (r17 : Int) (U17 : Nat → Nat → Int), Ev kz (d, 113, 0, [some (.inr (.inr 86)), some (.inl (U13 86 40)), some (.inl r12), some (.inl r13), none, none], [], (am_sh, am_mm U13)) (some (.inl r17), (am_sh, am_mm U17)) ∧ (((r17 = 0 : Prop)) → ((((U17 86 8) ≤ 0 : Prop)) → ∃ U18 : Nat → Nat → Int, Ev kz (d, 93, 0, [some (.inr (.inr 86)), none, none, none, none, none], [], (am_sh, am_mm U17)) (none, (am_sh, am_mm U18)) ∧ (0 ≤ (w32 ((w32 (10 * (U11 86 40))) + (U11 94 (U11 86 40).toNat))) ∧ (w32 ((w32 (10 * (U11 86 40))) + (U11 94 (U11 86 40).toNat))) < 20) ∧ (0 ≤ (w32 ((w32 (10 * (U11 86 40))) + (U11 94 (U11 86 40).toNat))) ∧ (w32 ((w32 (10 * (U11 86 40))) + (U11 94 (U11 86 40).toNat))) < 20) ∧ (0 ≤ ((am_upd (am_upd U18 95 (w32 ((w32 (10 * (U11 86 40))) + (U11 94 (U11 86 40).toNat))).toNat r12) 96 (w32 ((w32 (10 * (U11 86 40))) + (U11 94 (U11 86 40).toNat))).toNat r13) 86 40) ∧ ((am_upd (am_upd U18 95 (w32 ((w32 (10 * (U11 86 40))) + (U11 94 (U11 86 40).toNat))).toNat r12) 96 (w32 ((w32 (10 * (U11 86 40))) + (U11 94 (U11 86 40).toNat))).toNat r13) 86 40) < 2) ∧ (0 ≤ ((am_upd (am_upd U18 95 (w32 ((w32 (10 * (U11 86 40))) + (U11 94 (U11 86 40).toNat))).toNat r12) 96 (w32 ((w32 (10 * (U11 86 40))) + (U11 94 (U11 86 40).toNat))).toNat r13) 86 40) ∧ ((am_upd (am_upd U18 95 (w32 ((w32 (10 * (U11 86 40))) + (U11 94 (U11 86 40).toNat))).toNat r12) 96 (w32 ((w32 (10 * (U11 86 40))) + (U11 94 (U11 86 40).toNat))).toNat r13) 86 40) < 2) ∧ R = (none, (am_sh, am_mm (am_upd (am_upd (am_upd U18 95 (w32 ((w32 (10 * (U11 86 40))) + (U11 94 (U11 86 40).toNat))).toNat r12) 96 (w32 ((w32 (10 * (U11 86 40))) + (U11 94 (U11 86 40).toNat))).toNat r13) 94 ((am_upd (am_upd U18 95 (w32 ((w32 (10 * (U11 86 40))) + (U11 94 (U11 86 40).toNat))).toNat r12) 96 (w32 ((w32 (10 * (U11 86 40))) + (U11 94 (U11 86 40).toNat))).toNat r13) 86 40).toNat (w32 (((am_upd (am_upd U18 95 (w32 ((w32 (10 * (U11 86 40))) + (U11 94 (U11 86 40).toNat))).toNat r12) 96 (w32 ((w32 (10 * (U11 86 40))) + (U11 94 (U11 86 40).toNat))).toNat r13) 94 ((am_upd (am_upd U18 95 (w32 ((w32 (10 * (U11 86 40))) + (U11 94 (U11 86 40).toNat))).toNat r12) 96 (w32 ((w32 (10 * (U11 86 40))) + (U11 94 (U11 86 40).toNat))).toNat r13) 86 40).toNat) + 1)))))) ∧ (¬ ((U17 86 8) ≤ 0) → R = (none, (am_sh, am_mm U17)))) ∧ (¬ (r17 = 0) → ∃ U19 : Nat → Nat → Int, Ev kz (d, 196, 0, [some (.inr (.inr 86)), some (.inl 3), some (.inl (U17 86 4))], [], (am_sh, am_mm U17)) (none, (am_sh, am_mm U19)) ∧ ((((U19 86 8) ≤ 0 : Prop)) → ∃ U20 : Nat → Nat → Int, Ev kz (d, 93, 0, [some (.inr (.inr 86)), none, none, none, none, none], [], (am_sh, am_mm U19)) (none, (am_sh, am_mm U20)) ∧ (0 ≤ (w32 ((w32 (10 * (U11 86 40))) + (U11 94 (U11 86 40).toNat))) ∧ (w32 ((w32 (10 * (U11 86 40))) + (U11 94 (U11 86 40).toNat))) < 20) ∧ (0 ≤ (w32 ((w32 (10 * (U11 86 40))) + (U11 94 (U11 86 40).toNat))) ∧ (w32 ((w32 (10 * (U11 86 40))) + (U11 94 (U11 86 40).toNat))) < 20) ∧ (0 ≤ ((am_upd (am_upd U20 95 (w32 ((w32 (10 * (U11 86 40))) + (U11 94 (U11 86 40).toNat))).toNat r12) 96 (w32 ((w32 (10 * (U11 86 40))) + (U11 94 (U11 86 40).toNat))).toNat r13) 86 40) ∧ ((am_upd (am_upd U20 95 (w32 ((w32 (10 * (U11 86 40))) + (U11 94 (U11 86 40).toNat))).toNat r12) 96 (w32 ((w32 (10 * (U11 86 40))) + (U11 94 (U11 86 40).toNat))).toNat r13) 86 40) < 2) ∧ (0 ≤ ((am_upd (am_upd U20 95 (w32 ((w32 (10 * (U11 86 40))) + (U11 94 (U11 86 40).toNat))).toNat r12) 96 (w32 ((w32 (10 * (U11 86 40))) + (U11 94 (U11 86 40).toNat))).toNat r13) 86 40) ∧ ((am_upd (am_upd U20 95 (w32 ((w32 (10 * (U11 86 40))) + (U11 94 (U11 86 40).toNat))).toNat r12) 96 (w32 ((w32 (10 * (U11 86 40))) + (U11 94 (U11 86 40).toNat))).toNat r13) 86 40) < 2) ∧ R = (none, (am_sh, am_mm (am_upd (am_upd (am_upd U20 95 (w32 ((w32 (10 * (U11 86 40))) + (U11 94 (U11 86 40).toNat))).toNat r12) 96 (w32 ((w32 (10 * (U11 86 40))) + (U11 94 (U11 86 40).toNat))).toNat r13) 94 ((am_upd (am_upd U20 95 (w32 ((w32 (10 * (U11 86 40))) + (U11 94 (U11 86 40).toNat))).toNat r12) 96 (w32 ((w32 (10 * (U11 86 40))) + (U11 94 (U11 86 40).toNat))).toNat r13) 86 40).toNat (w32 (((am_upd (am_upd U20 95 (w32 ((w32 (10 * (U11 86 40))) + (U11 94 (U11 86 40).toNat))).toNat r12) 96 (w32 ((w32 (10 * (U11 86 40))) + (U11 94 (U11 86 40).toNat))).toNat r13) 94 ((am_upd (am_upd U20 95 (w32 ((w32 (10 * (U11 86 40))) + (U11 94 (U11 86 40).toNat))).toNat r12) 96 (w32 ((w32 (10 * (U11 86 40))) + (U11 94 (U11 86 40).toNat))).toNat r13) 86 40).toNat) + 1)))))) ∧ (¬ ((U19 86 8) ≤ 0) → R = (none, (am_sh, am_mm U19))))))) ∧ (¬ (¬ r11 = 0) → R = (none, (am_sh, am_mm U11))))) : Ev kz ((d + 1), 190, 0, [some (.inr (.inr 86)), none, none, none], [], (am_sh, am_mm U)) R := by
  refine ev_seg (σ1 := ((d + 1), 190, 9, [some (.inr (.inr 86)), none, none, none], [.inl (U 86 40), .inr (.inr 94), .inr (.inr 86)], (am_sh, am_mm U))) 5 (fun _ => rfl) ?_
  refine eu_iald 94 (n := 2) rfl (by decide) rfl (fun _ => rfl) h.1 ?_
  have ha := h.2
  refine ev_br (P := ¬ (U 94 (U 86 40).toNat) = 10) (σ1 := ((d + 1), 190, 19, [some (.inr (.inr 86)), none, none, none], [.inr (.inr 86)], (am_sh, am_mm U))) (σ2 := ((d + 1), 190, 15, [some (.inr (.inr 86)), none, none, none], [.inr (.inr 86)], (am_sh, am_mm U))) 2 (fun _ => rfl) (fun hc => ?_) (fun hc => ?_)
  · have ha1 := ha.1 hc
    refine ev_seg (σ1 := ((d + 1), 190, 20, [some (.inr (.inr 86)), none, none, none], [.inl 0, .inr (.inr 86)], (am_sh, am_mm U))) 1 (fun _ => rfl) ?_
    obtain ⟨r1, U1, ha1c, ha1a⟩ := ha1
    refine ev_cal (σc := (d, 264, 0, [some (.inr (.inr 86)), some (.inl 0)], [], (am_sh, am_mm U))) (fun _ => rfl) ha1c ?_
    show Ev kz ((d + 1), 190, 23, [some (.inr (.inr 86)), none, none, none], [.inl r1], (am_sh, am_mm U1)) R
    refine ev_br (P := ¬ r1 = 0) (σ1 := ((d + 1), 190, 27, [some (.inr (.inr 86)), none, none, none], [], (am_sh, am_mm U1))) (σ2 := ((d + 1), 190, 26, [some (.inr (.inr 86)), none, none, none], [], (am_sh, am_mm U1))) 1 (fun _ => rfl) (fun hc => ?_) (fun hc => ?_)
    · have ha1a1 := ha1a.1 hc
      refine ev_seg (σ1 := ((d + 1), 190, 42, [some (.inr (.inr 86)), none, none, none], [.inl (U1 86 40), .inr (.inr 94), .inl (w32 (10 * (U1 86 40)))], (am_sh, am_mm U1))) 8 (fun _ => rfl) ?_
      refine eu_iald 94 (n := 2) rfl (by decide) rfl (fun _ => rfl) ha1a1.1 ?_
      have ha1a1a := ha1a1.2
      refine ev_seg (σ1 := ((d + 1), 190, 47, [some (.inr (.inr 86)), some (.inl (w32 ((w32 (10 * (U1 86 40))) + (U1 94 (U1 86 40).toNat)))), none, none], [.inl 1, .inr (.inr 86)], (am_sh, am_mm U1))) 4 (fun _ => rfl) ?_
      obtain ⟨r2, U2, ha1a1ac, ha1a1aa⟩ := ha1a1a
      refine ev_cal (σc := (d, 267, 0, [some (.inr (.inr 86)), some (.inl 1), none], [], (am_sh, am_mm U1))) (fun _ => rfl) ha1a1ac ?_
      show Ev kz ((d + 1), 190, 50, [some (.inr (.inr 86)), some (.inl (w32 ((w32 (10 * (U1 86 40))) + (U1 94 (U1 86 40).toNat)))), none, none], [.inl r2], (am_sh, am_mm U2)) R
      refine ev_seg (σ1 := ((d + 1), 190, 53, [some (.inr (.inr 86)), some (.inl (w32 ((w32 (10 * (U1 86 40))) + (U1 94 (U1 86 40).toNat)))), some (.inl r2), none], [.inl 1, .inr (.inr 86)], (am_sh, am_mm U2))) 3 (fun _ => rfl) ?_
      obtain ⟨r3, U3, ha1a1aac, ha1a1aaa⟩ := ha1a1aa
      refine ev_cal (σc := (d, 269, 0, [some (.inr (.inr 86)), some (.inl 1), none], [], (am_sh, am_mm U2))) (fun _ => rfl) ha1a1aac ?_
      show Ev kz ((d + 1), 190, 56, [some (.inr (.inr 86)), some (.inl (w32 ((w32 (10 * (U1 86 40))) + (U1 94 (U1 86 40).toNat)))), some (.inl r2), none], [.inl r3], (am_sh, am_mm U3)) R
      refine ev_br (P := ¬ (U3 86 8) = 0) (σ1 := ((d + 1), 190, 91, [some (.inr (.inr 86)), some (.inl (w32 ((w32 (10 * (U1 86 40))) + (U1 94 (U1 86 40).toNat)))), some (.inl r2), some (.inl r3)], [], (am_sh, am_mm U3))) (σ2 := ((d + 1), 190, 64, [some (.inr (.inr 86)), some (.inl (w32 ((w32 (10 * (U1 86 40))) + (U1 94 (U1 86 40).toNat)))), some (.inl r2), some (.inl r3)], [], (am_sh, am_mm U3))) 4 (fun _ => rfl) (fun hc => ?_) (fun hc => ?_)
      · have ha1a1aaa1 := ha1a1aaa.1 hc
        refine ev_br (P := (U3 86 8) ≤ 0) (σ1 := ((d + 1), 190, 99, [some (.inr (.inr 86)), some (.inl (w32 ((w32 (10 * (U1 86 40))) + (U1 94 (U1 86 40).toNat)))), some (.inl r2), some (.inl r3)], [], (am_sh, am_mm U3))) (σ2 := ((d + 1), 190, 98, [some (.inr (.inr 86)), some (.inl (w32 ((w32 (10 * (U1 86 40))) + (U1 94 (U1 86 40).toNat)))), some (.inl r2), some (.inl r3)], [], (am_sh, am_mm U3))) 3 (fun _ => rfl) (fun hc => ?_) (fun hc => ?_)
        · have ha1a1aaa11 := ha1a1aaa1.1 hc
          refine ev_seg (σ1 := ((d + 1), 190, 100, [some (.inr (.inr 86)), some (.inl (w32 ((w32 (10 * (U1 86 40))) + (U1 94 (U1 86 40).toNat)))), some (.inl r2), some (.inl r3)], [.inr (.inr 86)], (am_sh, am_mm U3))) 1 (fun _ => rfl) ?_
          obtain ⟨U4, ha1a1aaa11c, ha1a1aaa11a⟩ := ha1a1aaa11
          refine ev_cal (σc := (d, 93, 0, [some (.inr (.inr 86)), none, none, none, none, none], [], (am_sh, am_mm U3))) (fun _ => rfl) ha1a1aaa11c ?_
          show Ev kz ((d + 1), 190, 103, [some (.inr (.inr 86)), some (.inl (w32 ((w32 (10 * (U1 86 40))) + (U1 94 (U1 86 40).toNat)))), some (.inl r2), some (.inl r3)], [], (am_sh, am_mm U4)) R
          refine ev_seg (σ1 := ((d + 1), 190, 109, [some (.inr (.inr 86)), some (.inl (w32 ((w32 (10 * (U1 86 40))) + (U1 94 (U1 86 40).toNat)))), some (.inl r2), some (.inl r3)], [.inl r2, .inl (w32 ((w32 (10 * (U1 86 40))) + (U1 94 (U1 86 40).toNat))), .inr (.inr 95)], (am_sh, am_mm U4))) 4 (fun _ => rfl) ?_
          refine eu_iast 95 (n := 20) rfl (by decide) rfl (fun _ => rfl) ha1a1aaa11a.1 ?_
          have ha1a1aaa11aa := ha1a1aaa11a.2
          refine ev_seg (σ1 := ((d + 1), 190, 116, [some (.inr (.inr 86)), some (.inl (w32 ((w32 (10 * (U1 86 40))) + (U1 94 (U1 86 40).toNat)))), some (.inl r2), some (.inl r3)], [.inl r3, .inl (w32 ((w32 (10 * (U1 86 40))) + (U1 94 (U1 86 40).toNat))), .inr (.inr 96)], (am_sh, am_mm (am_upd U4 95 (w32 ((w32 (10 * (U1 86 40))) + (U1 94 (U1 86 40).toNat))).toNat r2)))) 4 (fun _ => rfl) ?_
          refine eu_iast 96 (n := 20) rfl (by decide) rfl (fun _ => rfl) ha1a1aaa11aa.1 ?_
          have ha1a1aaa11aaa := ha1a1aaa11aa.2
          refine ev_seg (σ1 := ((d + 1), 190, 126, [some (.inr (.inr 86)), some (.inl (w32 ((w32 (10 * (U1 86 40))) + (U1 94 (U1 86 40).toNat)))), some (.inl r2), some (.inl r3)], [.inl ((am_upd (am_upd U4 95 (w32 ((w32 (10 * (U1 86 40))) + (U1 94 (U1 86 40).toNat))).toNat r2) 96 (w32 ((w32 (10 * (U1 86 40))) + (U1 94 (U1 86 40).toNat))).toNat r3) 86 40), .inr (.inr 94), .inl ((am_upd (am_upd U4 95 (w32 ((w32 (10 * (U1 86 40))) + (U1 94 (U1 86 40).toNat))).toNat r2) 96 (w32 ((w32 (10 * (U1 86 40))) + (U1 94 (U1 86 40).toNat))).toNat r3) 86 40), .inr (.inr 94)], (am_sh, am_mm (am_upd (am_upd U4 95 (w32 ((w32 (10 * (U1 86 40))) + (U1 94 (U1 86 40).toNat))).toNat r2) 96 (w32 ((w32 (10 * (U1 86 40))) + (U1 94 (U1 86 40).toNat))).toNat r3)))) 5 (fun _ => rfl) ?_
          refine eu_iald 94 (n := 2) rfl (by decide) rfl (fun _ => rfl) ha1a1aaa11aaa.1 ?_
          have ha1a1aaa11aaaa := ha1a1aaa11aaa.2
          refine ev_seg (σ1 := ((d + 1), 190, 129, [some (.inr (.inr 86)), some (.inl (w32 ((w32 (10 * (U1 86 40))) + (U1 94 (U1 86 40).toNat)))), some (.inl r2), some (.inl r3)], [.inl (w32 (((am_upd (am_upd U4 95 (w32 ((w32 (10 * (U1 86 40))) + (U1 94 (U1 86 40).toNat))).toNat r2) 96 (w32 ((w32 (10 * (U1 86 40))) + (U1 94 (U1 86 40).toNat))).toNat r3) 94 ((am_upd (am_upd U4 95 (w32 ((w32 (10 * (U1 86 40))) + (U1 94 (U1 86 40).toNat))).toNat r2) 96 (w32 ((w32 (10 * (U1 86 40))) + (U1 94 (U1 86 40).toNat))).toNat r3) 86 40).toNat) + 1)), .inl ((am_upd (am_upd U4 95 (w32 ((w32 (10 * (U1 86 40))) + (U1 94 (U1 86 40).toNat))).toNat r2) 96 (w32 ((w32 (10 * (U1 86 40))) + (U1 94 (U1 86 40).toNat))).toNat r3) 86 40), .inr (.inr 94)], (am_sh, am_mm (am_upd (am_upd U4 95 (w32 ((w32 (10 * (U1 86 40))) + (U1 94 (U1 86 40).toNat))).toNat r2) 96 (w32 ((w32 (10 * (U1 86 40))) + (U1 94 (U1 86 40).toNat))).toNat r3)))) 2 (fun _ => rfl) ?_
          refine eu_iast 94 (n := 2) rfl (by decide) rfl (fun _ => rfl) ha1a1aaa11aaaa.1 ?_
          have ha1a1aaa11aaaaa := ha1a1aaa11aaaa.2
          subst ha1a1aaa11aaaaa
          exact ev_end 1 (fun _ => rfl)
        · have ha1a1aaa12 := ha1a1aaa1.2 hc
          subst ha1a1aaa12
          exact ev_end 1 (fun _ => rfl)
      · have ha1a1aaa2 := ha1a1aaa.2 hc
        refine ev_br (P := r2 = r3) (σ1 := ((d + 1), 190, 82, [some (.inr (.inr 86)), some (.inl (w32 ((w32 (10 * (U1 86 40))) + (U1 94 (U1 86 40).toNat)))), some (.inl r2), some (.inl r3)], [], (am_sh, am_mm U3))) (σ2 := ((d + 1), 190, 69, [some (.inr (.inr 86)), some (.inl (w32 ((w32 (10 * (U1 86 40))) + (U1 94 (U1 86 40).toNat)))), some (.inl r2), some (.inl r3)], [], (am_sh, am_mm U3))) 3 (fun _ => rfl) (fun hc => ?_) (fun hc => ?_)
        · have ha1a1aaa21 := ha1a1aaa2.1 hc
          refine ev_seg (σ1 := ((d + 1), 190, 88, [some (.inr (.inr 86)), some (.inl (w32 ((w32 (10 * (U1 86 40))) + (U1 94 (U1 86 40).toNat)))), some (.inl r2), some (.inl r3)], [.inl (U3 86 4), .inl 3, .inr (.inr 86)], (am_sh, am_mm U3))) 4 (fun _ => rfl) ?_
          obtain ⟨U5, ha1a1aaa21c, ha1a1aaa21a⟩ := ha1a1aaa21
          refine ev_cal (σc := (d, 196, 0, [some (.inr (.inr 86)), some (.inl 3), some (.inl (U3 86 4))], [], (am_sh, am_mm U3))) (fun _ => rfl) ha1a1aaa21c ?_
          show Ev kz ((d + 1), 190, 91, [some (.inr (.inr 86)), some (.inl (w32 ((w32 (10 * (U1 86 40))) + (U1 94 (U1 86 40).toNat)))), some (.inl r2), some (.inl r3)], [], (am_sh, am_mm U5)) R
          refine ev_br (P := (U5 86 8) ≤ 0) (σ1 := ((d + 1), 190, 99, [some (.inr (.inr 86)), some (.inl (w32 ((w32 (10 * (U1 86 40))) + (U1 94 (U1 86 40).toNat)))), some (.inl r2), some (.inl r3)], [], (am_sh, am_mm U5))) (σ2 := ((d + 1), 190, 98, [some (.inr (.inr 86)), some (.inl (w32 ((w32 (10 * (U1 86 40))) + (U1 94 (U1 86 40).toNat)))), some (.inl r2), some (.inl r3)], [], (am_sh, am_mm U5))) 3 (fun _ => rfl) (fun hc => ?_) (fun hc => ?_)
          · have ha1a1aaa21a1 := ha1a1aaa21a.1 hc
            refine ev_seg (σ1 := ((d + 1), 190, 100, [some (.inr (.inr 86)), some (.inl (w32 ((w32 (10 * (U1 86 40))) + (U1 94 (U1 86 40).toNat)))), some (.inl r2), some (.inl r3)], [.inr (.inr 86)], (am_sh, am_mm U5))) 1 (fun _ => rfl) ?_
            obtain ⟨U6, ha1a1aaa21a1c, ha1a1aaa21a1a⟩ := ha1a1aaa21a1
            refine ev_cal (σc := (d, 93, 0, [some (.inr (.inr 86)), none, none, none, none, none], [], (am_sh, am_mm U5))) (fun _ => rfl) ha1a1aaa21a1c ?_
            show Ev kz ((d + 1), 190, 103, [some (.inr (.inr 86)), some (.inl (w32 ((w32 (10 * (U1 86 40))) + (U1 94 (U1 86 40).toNat)))), some (.inl r2), some (.inl r3)], [], (am_sh, am_mm U6)) R
            refine ev_seg (σ1 := ((d + 1), 190, 109, [some (.inr (.inr 86)), some (.inl (w32 ((w32 (10 * (U1 86 40))) + (U1 94 (U1 86 40).toNat)))), some (.inl r2), some (.inl r3)], [.inl r2, .inl (w32 ((w32 (10 * (U1 86 40))) + (U1 94 (U1 86 40).toNat))), .inr (.inr 95)], (am_sh, am_mm U6))) 4 (fun _ => rfl) ?_
            refine eu_iast 95 (n := 20) rfl (by decide) rfl (fun _ => rfl) ha1a1aaa21a1a.1 ?_
            have ha1a1aaa21a1aa := ha1a1aaa21a1a.2
            refine ev_seg (σ1 := ((d + 1), 190, 116, [some (.inr (.inr 86)), some (.inl (w32 ((w32 (10 * (U1 86 40))) + (U1 94 (U1 86 40).toNat)))), some (.inl r2), some (.inl r3)], [.inl r3, .inl (w32 ((w32 (10 * (U1 86 40))) + (U1 94 (U1 86 40).toNat))), .inr (.inr 96)], (am_sh, am_mm (am_upd U6 95 (w32 ((w32 (10 * (U1 86 40))) + (U1 94 (U1 86 40).toNat))).toNat r2)))) 4 (fun _ => rfl) ?_
            refine eu_iast 96 (n := 20) rfl (by decide) rfl (fun _ => rfl) ha1a1aaa21a1aa.1 ?_
            have ha1a1aaa21a1aaa := ha1a1aaa21a1aa.2
            refine ev_seg (σ1 := ((d + 1), 190, 126, [some (.inr (.inr 86)), some (.inl (w32 ((w32 (10 * (U1 86 40))) + (U1 94 (U1 86 40).toNat)))), some (.inl r2), some (.inl r3)], [.inl ((am_upd (am_upd U6 95 (w32 ((w32 (10 * (U1 86 40))) + (U1 94 (U1 86 40).toNat))).toNat r2) 96 (w32 ((w32 (10 * (U1 86 40))) + (U1 94 (U1 86 40).toNat))).toNat r3) 86 40), .inr (.inr 94), .inl ((am_upd (am_upd U6 95 (w32 ((w32 (10 * (U1 86 40))) + (U1 94 (U1 86 40).toNat))).toNat r2) 96 (w32 ((w32 (10 * (U1 86 40))) + (U1 94 (U1 86 40).toNat))).toNat r3) 86 40), .inr (.inr 94)], (am_sh, am_mm (am_upd (am_upd U6 95 (w32 ((w32 (10 * (U1 86 40))) + (U1 94 (U1 86 40).toNat))).toNat r2) 96 (w32 ((w32 (10 * (U1 86 40))) + (U1 94 (U1 86 40).toNat))).toNat r3)))) 5 (fun _ => rfl) ?_
            refine eu_iald 94 (n := 2) rfl (by decide) rfl (fun _ => rfl) ha1a1aaa21a1aaa.1 ?_
            have ha1a1aaa21a1aaaa := ha1a1aaa21a1aaa.2
            refine ev_seg (σ1 := ((d + 1), 190, 129, [some (.inr (.inr 86)), some (.inl (w32 ((w32 (10 * (U1 86 40))) + (U1 94 (U1 86 40).toNat)))), some (.inl r2), some (.inl r3)], [.inl (w32 (((am_upd (am_upd U6 95 (w32 ((w32 (10 * (U1 86 40))) + (U1 94 (U1 86 40).toNat))).toNat r2) 96 (w32 ((w32 (10 * (U1 86 40))) + (U1 94 (U1 86 40).toNat))).toNat r3) 94 ((am_upd (am_upd U6 95 (w32 ((w32 (10 * (U1 86 40))) + (U1 94 (U1 86 40).toNat))).toNat r2) 96 (w32 ((w32 (10 * (U1 86 40))) + (U1 94 (U1 86 40).toNat))).toNat r3) 86 40).toNat) + 1)), .inl ((am_upd (am_upd U6 95 (w32 ((w32 (10 * (U1 86 40))) + (U1 94 (U1 86 40).toNat))).toNat r2) 96 (w32 ((w32 (10 * (U1 86 40))) + (U1 94 (U1 86 40).toNat))).toNat r3) 86 40), .inr (.inr 94)], (am_sh, am_mm (am_upd (am_upd U6 95 (w32 ((w32 (10 * (U1 86 40))) + (U1 94 (U1 86 40).toNat))).toNat r2) 96 (w32 ((w32 (10 * (U1 86 40))) + (U1 94 (U1 86 40).toNat))).toNat r3)))) 2 (fun _ => rfl) ?_
            refine eu_iast 94 (n := 2) rfl (by decide) rfl (fun _ => rfl) ha1a1aaa21a1aaaa.1 ?_
            have ha1a1aaa21a1aaaaa := ha1a1aaa21a1aaaa.2
            subst ha1a1aaa21a1aaaaa
            exact ev_end 1 (fun _ => rfl)
          · have ha1a1aaa21a2 := ha1a1aaa21a.2 hc
            subst ha1a1aaa21a2
            exact ev_end 1 (fun _ => rfl)
        · have ha1a1aaa22 := ha1a1aaa2.2 hc
          refine ev_seg (σ1 := ((d + 1), 190, 76, [some (.inr (.inr 86)), some (.inl (w32 ((w32 (10 * (U1 86 40))) + (U1 94 (U1 86 40).toNat)))), some (.inl r2), some (.inl r3)], [.inl r3, .inl r2, .inl (U3 86 40), .inr (.inr 86)], (am_sh, am_mm U3))) 5 (fun _ => rfl) ?_
          obtain ⟨r7, U7, ha1a1aaa22c, ha1a1aaa22a⟩ := ha1a1aaa22
          refine ev_cal (σc := (d, 113, 0, [some (.inr (.inr 86)), some (.inl (U3 86 40)), some (.inl r2), some (.inl r3), none, none], [], (am_sh, am_mm U3))) (fun _ => rfl) ha1a1aaa22c ?_
          show Ev kz ((d + 1), 190, 79, [some (.inr (.inr 86)), some (.inl (w32 ((w32 (10 * (U1 86 40))) + (U1 94 (U1 86 40).toNat)))), some (.inl r2), some (.inl r3)], [.inl r7], (am_sh, am_mm U7)) R
          refine ev_br (P := r7 = 0) (σ1 := ((d + 1), 190, 91, [some (.inr (.inr 86)), some (.inl (w32 ((w32 (10 * (U1 86 40))) + (U1 94 (U1 86 40).toNat)))), some (.inl r2), some (.inl r3)], [], (am_sh, am_mm U7))) (σ2 := ((d + 1), 190, 82, [some (.inr (.inr 86)), some (.inl (w32 ((w32 (10 * (U1 86 40))) + (U1 94 (U1 86 40).toNat)))), some (.inl r2), some (.inl r3)], [], (am_sh, am_mm U7))) 1 (fun _ => rfl) (fun hc => ?_) (fun hc => ?_)
          · have ha1a1aaa22a1 := ha1a1aaa22a.1 hc
            refine ev_br (P := (U7 86 8) ≤ 0) (σ1 := ((d + 1), 190, 99, [some (.inr (.inr 86)), some (.inl (w32 ((w32 (10 * (U1 86 40))) + (U1 94 (U1 86 40).toNat)))), some (.inl r2), some (.inl r3)], [], (am_sh, am_mm U7))) (σ2 := ((d + 1), 190, 98, [some (.inr (.inr 86)), some (.inl (w32 ((w32 (10 * (U1 86 40))) + (U1 94 (U1 86 40).toNat)))), some (.inl r2), some (.inl r3)], [], (am_sh, am_mm U7))) 3 (fun _ => rfl) (fun hc => ?_) (fun hc => ?_)
            · have ha1a1aaa22a11 := ha1a1aaa22a1.1 hc
              refine ev_seg (σ1 := ((d + 1), 190, 100, [some (.inr (.inr 86)), some (.inl (w32 ((w32 (10 * (U1 86 40))) + (U1 94 (U1 86 40).toNat)))), some (.inl r2), some (.inl r3)], [.inr (.inr 86)], (am_sh, am_mm U7))) 1 (fun _ => rfl) ?_
              obtain ⟨U8, ha1a1aaa22a11c, ha1a1aaa22a11a⟩ := ha1a1aaa22a11
              refine ev_cal (σc := (d, 93, 0, [some (.inr (.inr 86)), none, none, none, none, none], [], (am_sh, am_mm U7))) (fun _ => rfl) ha1a1aaa22a11c ?_
              show Ev kz ((d + 1), 190, 103, [some (.inr (.inr 86)), some (.inl (w32 ((w32 (10 * (U1 86 40))) + (U1 94 (U1 86 40).toNat)))), some (.inl r2), some (.inl r3)], [], (am_sh, am_mm U8)) R
              refine ev_seg (σ1 := ((d + 1), 190, 109, [some (.inr (.inr 86)), some (.inl (w32 ((w32 (10 * (U1 86 40))) + (U1 94 (U1 86 40).toNat)))), some (.inl r2), some (.inl r3)], [.inl r2, .inl (w32 ((w32 (10 * (U1 86 40))) + (U1 94 (U1 86 40).toNat))), .inr (.inr 95)], (am_sh, am_mm U8))) 4 (fun _ => rfl) ?_
              refine eu_iast 95 (n := 20) rfl (by decide) rfl (fun _ => rfl) ha1a1aaa22a11a.1 ?_
              have ha1a1aaa22a11aa := ha1a1aaa22a11a.2
              refine ev_seg (σ1 := ((d + 1), 190, 116, [some (.inr (.inr 86)), some (.inl (w32 ((w32 (10 * (U1 86 40))) + (U1 94 (U1 86 40).toNat)))), some (.inl r2), some (.inl r3)], [.inl r3, .inl (w32 ((w32 (10 * (U1 86 40))) + (U1 94 (U1 86 40).toNat))), .inr (.inr 96)], (am_sh, am_mm (am_upd U8 95 (w32 ((w32 (10 * (U1 86 40))) + (U1 94 (U1 86 40).toNat))).toNat r2)))) 4 (fun _ => rfl) ?_
              refine eu_iast 96 (n := 20) rfl (by decide) rfl (fun _ => rfl) ha1a1aaa22a11aa.1 ?_
              have ha1a1aaa22a11aaa := ha1a1aaa22a11aa.2
              refine ev_seg (σ1 := ((d + 1), 190, 126, [some (.inr (.inr 86)), some (.inl (w32 ((w32 (10 * (U1 86 40))) + (U1 94 (U1 86 40).toNat)))), some (.inl r2), some (.inl r3)], [.inl ((am_upd (am_upd U8 95 (w32 ((w32 (10 * (U1 86 40))) + (U1 94 (U1 86 40).toNat))).toNat r2) 96 (w32 ((w32 (10 * (U1 86 40))) + (U1 94 (U1 86 40).toNat))).toNat r3) 86 40), .inr (.inr 94), .inl ((am_upd (am_upd U8 95 (w32 ((w32 (10 * (U1 86 40))) + (U1 94 (U1 86 40).toNat))).toNat r2) 96 (w32 ((w32 (10 * (U1 86 40))) + (U1 94 (U1 86 40).toNat))).toNat r3) 86 40), .inr (.inr 94)], (am_sh, am_mm (am_upd (am_upd U8 95 (w32 ((w32 (10 * (U1 86 40))) + (U1 94 (U1 86 40).toNat))).toNat r2) 96 (w32 ((w32 (10 * (U1 86 40))) + (U1 94 (U1 86 40).toNat))).toNat r3)))) 5 (fun _ => rfl) ?_
              refine eu_iald 94 (n := 2) rfl (by decide) rfl (fun _ => rfl) ha1a1aaa22a11aaa.1 ?_
              have ha1a1aaa22a11aaaa := ha1a1aaa22a11aaa.2
              refine ev_seg (σ1 := ((d + 1), 190, 129, [some (.inr (.inr 86)), some (.inl (w32 ((w32 (10 * (U1 86 40))) + (U1 94 (U1 86 40).toNat)))), some (.inl r2), some (.inl r3)], [.inl (w32 (((am_upd (am_upd U8 95 (w32 ((w32 (10 * (U1 86 40))) + (U1 94 (U1 86 40).toNat))).toNat r2) 96 (w32 ((w32 (10 * (U1 86 40))) + (U1 94 (U1 86 40).toNat))).toNat r3) 94 ((am_upd (am_upd U8 95 (w32 ((w32 (10 * (U1 86 40))) + (U1 94 (U1 86 40).toNat))).toNat r2) 96 (w32 ((w32 (10 * (U1 86 40))) + (U1 94 (U1 86 40).toNat))).toNat r3) 86 40).toNat) + 1)), .inl ((am_upd (am_upd U8 95 (w32 ((w32 (10 * (U1 86 40))) + (U1 94 (U1 86 40).toNat))).toNat r2) 96 (w32 ((w32 (10 * (U1 86 40))) + (U1 94 (U1 86 40).toNat))).toNat r3) 86 40), .inr (.inr 94)], (am_sh, am_mm (am_upd (am_upd U8 95 (w32 ((w32 (10 * (U1 86 40))) + (U1 94 (U1 86 40).toNat))).toNat r2) 96 (w32 ((w32 (10 * (U1 86 40))) + (U1 94 (U1 86 40).toNat))).toNat r3)))) 2 (fun _ => rfl) ?_
              refine eu_iast 94 (n := 2) rfl (by decide) rfl (fun _ => rfl) ha1a1aaa22a11aaaa.1 ?_
              have ha1a1aaa22a11aaaaa := ha1a1aaa22a11aaaa.2
              subst ha1a1aaa22a11aaaaa
              exact ev_end 1 (fun _ => rfl)
            · have ha1a1aaa22a12 := ha1a1aaa22a1.2 hc
              subst ha1a1aaa22a12
              exact ev_end 1 (fun _ => rfl)
          · have ha1a1aaa22a2 := ha1a1aaa22a.2 hc
            refine ev_seg (σ1 := ((d + 1), 190, 88, [some (.inr (.inr 86)), some (.inl (w32 ((w32 (10 * (U1 86 40))) + (U1 94 (U1 86 40).toNat)))), some (.inl r2), some (.inl r3)], [.inl (U7 86 4), .inl 3, .inr (.inr 86)], (am_sh, am_mm U7))) 4 (fun _ => rfl) ?_
            obtain ⟨U9, ha1a1aaa22a2c, ha1a1aaa22a2a⟩ := ha1a1aaa22a2
            refine ev_cal (σc := (d, 196, 0, [some (.inr (.inr 86)), some (.inl 3), some (.inl (U7 86 4))], [], (am_sh, am_mm U7))) (fun _ => rfl) ha1a1aaa22a2c ?_
            show Ev kz ((d + 1), 190, 91, [some (.inr (.inr 86)), some (.inl (w32 ((w32 (10 * (U1 86 40))) + (U1 94 (U1 86 40).toNat)))), some (.inl r2), some (.inl r3)], [], (am_sh, am_mm U9)) R
            refine ev_br (P := (U9 86 8) ≤ 0) (σ1 := ((d + 1), 190, 99, [some (.inr (.inr 86)), some (.inl (w32 ((w32 (10 * (U1 86 40))) + (U1 94 (U1 86 40).toNat)))), some (.inl r2), some (.inl r3)], [], (am_sh, am_mm U9))) (σ2 := ((d + 1), 190, 98, [some (.inr (.inr 86)), some (.inl (w32 ((w32 (10 * (U1 86 40))) + (U1 94 (U1 86 40).toNat)))), some (.inl r2), some (.inl r3)], [], (am_sh, am_mm U9))) 3 (fun _ => rfl) (fun hc => ?_) (fun hc => ?_)
            · have ha1a1aaa22a2a1 := ha1a1aaa22a2a.1 hc
              refine ev_seg (σ1 := ((d + 1), 190, 100, [some (.inr (.inr 86)), some (.inl (w32 ((w32 (10 * (U1 86 40))) + (U1 94 (U1 86 40).toNat)))), some (.inl r2), some (.inl r3)], [.inr (.inr 86)], (am_sh, am_mm U9))) 1 (fun _ => rfl) ?_
              obtain ⟨U10, ha1a1aaa22a2a1c, ha1a1aaa22a2a1a⟩ := ha1a1aaa22a2a1
              refine ev_cal (σc := (d, 93, 0, [some (.inr (.inr 86)), none, none, none, none, none], [], (am_sh, am_mm U9))) (fun _ => rfl) ha1a1aaa22a2a1c ?_
              show Ev kz ((d + 1), 190, 103, [some (.inr (.inr 86)), some (.inl (w32 ((w32 (10 * (U1 86 40))) + (U1 94 (U1 86 40).toNat)))), some (.inl r2), some (.inl r3)], [], (am_sh, am_mm U10)) R
              refine ev_seg (σ1 := ((d + 1), 190, 109, [some (.inr (.inr 86)), some (.inl (w32 ((w32 (10 * (U1 86 40))) + (U1 94 (U1 86 40).toNat)))), some (.inl r2), some (.inl r3)], [.inl r2, .inl (w32 ((w32 (10 * (U1 86 40))) + (U1 94 (U1 86 40).toNat))), .inr (.inr 95)], (am_sh, am_mm U10))) 4 (fun _ => rfl) ?_
              refine eu_iast 95 (n := 20) rfl (by decide) rfl (fun _ => rfl) ha1a1aaa22a2a1a.1 ?_
              have ha1a1aaa22a2a1aa := ha1a1aaa22a2a1a.2
              refine ev_seg (σ1 := ((d + 1), 190, 116, [some (.inr (.inr 86)), some (.inl (w32 ((w32 (10 * (U1 86 40))) + (U1 94 (U1 86 40).toNat)))), some (.inl r2), some (.inl r3)], [.inl r3, .inl (w32 ((w32 (10 * (U1 86 40))) + (U1 94 (U1 86 40).toNat))), .inr (.inr 96)], (am_sh, am_mm (am_upd U10 95 (w32 ((w32 (10 * (U1 86 40))) + (U1 94 (U1 86 40).toNat))).toNat r2)))) 4 (fun _ => rfl) ?_
              refine eu_iast 96 (n := 20) rfl (by decide) rfl (fun _ => rfl) ha1a1aaa22a2a1aa.1 ?_
              have ha1a1aaa22a2a1aaa := ha1a1aaa22a2a1aa.2
              refine ev_seg (σ1 := ((d + 1), 190, 126, [some (.inr (.inr 86)), some (.inl (w32 ((w32 (10 * (U1 86 40))) + (U1 94 (U1 86 40).toNat)))), some (.inl r2), some (.inl r3)], [.inl ((am_upd (am_upd U10 95 (w32 ((w32 (10 * (U1 86 40))) + (U1 94 (U1 86 40).toNat))).toNat r2) 96 (w32 ((w32 (10 * (U1 86 40))) + (U1 94 (U1 86 40).toNat))).toNat r3) 86 40), .inr (.inr 94), .inl ((am_upd (am_upd U10 95 (w32 ((w32 (10 * (U1 86 40))) + (U1 94 (U1 86 40).toNat))).toNat r2) 96 (w32 ((w32 (10 * (U1 86 40))) + (U1 94 (U1 86 40).toNat))).toNat r3) 86 40), .inr (.inr 94)], (am_sh, am_mm (am_upd (am_upd U10 95 (w32 ((w32 (10 * (U1 86 40))) + (U1 94 (U1 86 40).toNat))).toNat r2) 96 (w32 ((w32 (10 * (U1 86 40))) + (U1 94 (U1 86 40).toNat))).toNat r3)))) 5 (fun _ => rfl) ?_
              refine eu_iald 94 (n := 2) rfl (by decide) rfl (fun _ => rfl) ha1a1aaa22a2a1aaa.1 ?_
              have ha1a1aaa22a2a1aaaa := ha1a1aaa22a2a1aaa.2
              refine ev_seg (σ1 := ((d + 1), 190, 129, [some (.inr (.inr 86)), some (.inl (w32 ((w32 (10 * (U1 86 40))) + (U1 94 (U1 86 40).toNat)))), some (.inl r2), some (.inl r3)], [.inl (w32 (((am_upd (am_upd U10 95 (w32 ((w32 (10 * (U1 86 40))) + (U1 94 (U1 86 40).toNat))).toNat r2) 96 (w32 ((w32 (10 * (U1 86 40))) + (U1 94 (U1 86 40).toNat))).toNat r3) 94 ((am_upd (am_upd U10 95 (w32 ((w32 (10 * (U1 86 40))) + (U1 94 (U1 86 40).toNat))).toNat r2) 96 (w32 ((w32 (10 * (U1 86 40))) + (U1 94 (U1 86 40).toNat))).toNat r3) 86 40).toNat) + 1)), .inl ((am_upd (am_upd U10 95 (w32 ((w32 (10 * (U1 86 40))) + (U1 94 (U1 86 40).toNat))).toNat r2) 96 (w32 ((w32 (10 * (U1 86 40))) + (U1 94 (U1 86 40).toNat))).toNat r3) 86 40), .inr (.inr 94)], (am_sh, am_mm (am_upd (am_upd U10 95 (w32 ((w32 (10 * (U1 86 40))) + (U1 94 (U1 86 40).toNat))).toNat r2) 96 (w32 ((w32 (10 * (U1 86 40))) + (U1 94 (U1 86 40).toNat))).toNat r3)))) 2 (fun _ => rfl) ?_
              refine eu_iast 94 (n := 2) rfl (by decide) rfl (fun _ => rfl) ha1a1aaa22a2a1aaaa.1 ?_
              have ha1a1aaa22a2a1aaaaa := ha1a1aaa22a2a1aaaa.2
              subst ha1a1aaa22a2a1aaaaa
              exact ev_end 1 (fun _ => rfl)
            · have ha1a1aaa22a2a2 := ha1a1aaa22a2a.2 hc
              subst ha1a1aaa22a2a2
              exact ev_end 1 (fun _ => rfl)
    · have ha1a2 := ha1a.2 hc
      subst ha1a2
      exact ev_end 1 (fun _ => rfl)
  · have ha2 := ha.2 hc
    refine ev_seg (σ1 := ((d + 1), 190, 20, [some (.inr (.inr 86)), none, none, none], [.inl 1, .inr (.inr 86)], (am_sh, am_mm U))) 2 (fun _ => rfl) ?_
    obtain ⟨r11, U11, ha2c, ha2a⟩ := ha2
    refine ev_cal (σc := (d, 264, 0, [some (.inr (.inr 86)), some (.inl 1)], [], (am_sh, am_mm U))) (fun _ => rfl) ha2c ?_
    show Ev kz ((d + 1), 190, 23, [some (.inr (.inr 86)), none, none, none], [.inl r11], (am_sh, am_mm U11)) R
    refine ev_br (P := ¬ r11 = 0) (σ1 := ((d + 1), 190, 27, [some (.inr (.inr 86)), none, none, none], [], (am_sh, am_mm U11))) (σ2 := ((d + 1), 190, 26, [some (.inr (.inr 86)), none, none, none], [], (am_sh, am_mm U11))) 1 (fun _ => rfl) (fun hc => ?_) (fun hc => ?_)
    · have ha2a1 := ha2a.1 hc
      refine ev_seg (σ1 := ((d + 1), 190, 42, [some (.inr (.inr 86)), none, none, none], [.inl (U11 86 40), .inr (.inr 94), .inl (w32 (10 * (U11 86 40)))], (am_sh, am_mm U11))) 8 (fun _ => rfl) ?_
      refine eu_iald 94 (n := 2) rfl (by decide) rfl (fun _ => rfl) ha2a1.1 ?_
      have ha2a1a := ha2a1.2
      refine ev_seg (σ1 := ((d + 1), 190, 47, [some (.inr (.inr 86)), some (.inl (w32 ((w32 (10 * (U11 86 40))) + (U11 94 (U11 86 40).toNat)))), none, none], [.inl 1, .inr (.inr 86)], (am_sh, am_mm U11))) 4 (fun _ => rfl) ?_
      obtain ⟨r12, U12, ha2a1ac, ha2a1aa⟩ := ha2a1a
      refine ev_cal (σc := (d, 267, 0, [some (.inr (.inr 86)), some (.inl 1), none], [], (am_sh, am_mm U11))) (fun _ => rfl) ha2a1ac ?_
      show Ev kz ((d + 1), 190, 50, [some (.inr (.inr 86)), some (.inl (w32 ((w32 (10 * (U11 86 40))) + (U11 94 (U11 86 40).toNat)))), none, none], [.inl r12], (am_sh, am_mm U12)) R
      refine ev_seg (σ1 := ((d + 1), 190, 53, [some (.inr (.inr 86)), some (.inl (w32 ((w32 (10 * (U11 86 40))) + (U11 94 (U11 86 40).toNat)))), some (.inl r12), none], [.inl 1, .inr (.inr 86)], (am_sh, am_mm U12))) 3 (fun _ => rfl) ?_
      obtain ⟨r13, U13, ha2a1aac, ha2a1aaa⟩ := ha2a1aa
      refine ev_cal (σc := (d, 269, 0, [some (.inr (.inr 86)), some (.inl 1), none], [], (am_sh, am_mm U12))) (fun _ => rfl) ha2a1aac ?_
      show Ev kz ((d + 1), 190, 56, [some (.inr (.inr 86)), some (.inl (w32 ((w32 (10 * (U11 86 40))) + (U11 94 (U11 86 40).toNat)))), some (.inl r12), none], [.inl r13], (am_sh, am_mm U13)) R
      refine ev_br (P := ¬ (U13 86 8) = 0) (σ1 := ((d + 1), 190, 91, [some (.inr (.inr 86)), some (.inl (w32 ((w32 (10 * (U11 86 40))) + (U11 94 (U11 86 40).toNat)))), some (.inl r12), some (.inl r13)], [], (am_sh, am_mm U13))) (σ2 := ((d + 1), 190, 64, [some (.inr (.inr 86)), some (.inl (w32 ((w32 (10 * (U11 86 40))) + (U11 94 (U11 86 40).toNat)))), some (.inl r12), some (.inl r13)], [], (am_sh, am_mm U13))) 4 (fun _ => rfl) (fun hc => ?_) (fun hc => ?_)
      · have ha2a1aaa1 := ha2a1aaa.1 hc
        refine ev_br (P := (U13 86 8) ≤ 0) (σ1 := ((d + 1), 190, 99, [some (.inr (.inr 86)), some (.inl (w32 ((w32 (10 * (U11 86 40))) + (U11 94 (U11 86 40).toNat)))), some (.inl r12), some (.inl r13)], [], (am_sh, am_mm U13))) (σ2 := ((d + 1), 190, 98, [some (.inr (.inr 86)), some (.inl (w32 ((w32 (10 * (U11 86 40))) + (U11 94 (U11 86 40).toNat)))), some (.inl r12), some (.inl r13)], [], (am_sh, am_mm U13))) 3 (fun _ => rfl) (fun hc => ?_) (fun hc => ?_)
        · have ha2a1aaa11 := ha2a1aaa1.1 hc
          refine ev_seg (σ1 := ((d + 1), 190, 100, [some (.inr (.inr 86)), some (.inl (w32 ((w32 (10 * (U11 86 40))) + (U11 94 (U11 86 40).toNat)))), some (.inl r12), some (.inl r13)], [.inr (.inr 86)], (am_sh, am_mm U13))) 1 (fun _ => rfl) ?_
          obtain ⟨U14, ha2a1aaa11c, ha2a1aaa11a⟩ := ha2a1aaa11
          refine ev_cal (σc := (d, 93, 0, [some (.inr (.inr 86)), none, none, none, none, none], [], (am_sh, am_mm U13))) (fun _ => rfl) ha2a1aaa11c ?_
          show Ev kz ((d + 1), 190, 103, [some (.inr (.inr 86)), some (.inl (w32 ((w32 (10 * (U11 86 40))) + (U11 94 (U11 86 40).toNat)))), some (.inl r12), some (.inl r13)], [], (am_sh, am_mm U14)) R
          refine ev_seg (σ1 := ((d + 1), 190, 109, [some (.inr (.inr 86)), some (.inl (w32 ((w32 (10 * (U11 86 40))) + (U11 94 (U11 86 40).toNat)))), some (.inl r12), some (.inl r13)], [.inl r12, .inl (w32 ((w32 (10 * (U11 86 40))) + (U11 94 (U11 86 40).toNat))), .inr (.inr 95)], (am_sh, am_mm U14))) 4 (fun _ => rfl) ?_
          refine eu_iast 95 (n := 20) rfl (by decide) rfl (fun _ => rfl) ha2a1aaa11a.1 ?_
          have ha2a1aaa11aa := ha2a1aaa11a.2
          refine ev_seg (σ1 := ((d + 1), 190, 116, [some (.inr (.inr 86)), some (.inl (w32 ((w32 (10 * (U11 86 40))) + (U11 94 (U11 86 40).toNat)))), some (.inl r12), some (.inl r13)], [.inl r13, .inl (w32 ((w32 (10 * (U11 86 40))) + (U11 94 (U11 86 40).toNat))), .inr (.inr 96)], (am_sh, am_mm (am_upd U14 95 (w32 ((w32 (10 * (U11 86 40))) + (U11 94 (U11 86 40).toNat))).toNat r12)))) 4 (fun _ => rfl) ?_
          refine eu_iast 96 (n := 20) rfl (by decide) rfl (fun _ => rfl) ha2a1aaa11aa.1 ?_
          have ha2a1aaa11aaa := ha2a1aaa11aa.2
          refine ev_seg (σ1 := ((d + 1), 190, 126, [some (.inr (.inr 86)), some (.inl (w32 ((w32 (10 * (U11 86 40))) + (U11 94 (U11 86 40).toNat)))), some (.inl r12), some (.inl r13)], [.inl ((am_upd (am_upd U14 95 (w32 ((w32 (10 * (U11 86 40))) + (U11 94 (U11 86 40).toNat))).toNat r12) 96 (w32 ((w32 (10 * (U11 86 40))) + (U11 94 (U11 86 40).toNat))).toNat r13) 86 40), .inr (.inr 94), .inl ((am_upd (am_upd U14 95 (w32 ((w32 (10 * (U11 86 40))) + (U11 94 (U11 86 40).toNat))).toNat r12) 96 (w32 ((w32 (10 * (U11 86 40))) + (U11 94 (U11 86 40).toNat))).toNat r13) 86 40), .inr (.inr 94)], (am_sh, am_mm (am_upd (am_upd U14 95 (w32 ((w32 (10 * (U11 86 40))) + (U11 94 (U11 86 40).toNat))).toNat r12) 96 (w32 ((w32 (10 * (U11 86 40))) + (U11 94 (U11 86 40).toNat))).toNat r13)))) 5 (fun _ => rfl) ?_
          refine eu_iald 94 (n := 2) rfl (by decide) rfl (fun _ => rfl) ha2a1aaa11aaa.1 ?_
          have ha2a1aaa11aaaa := ha2a1aaa11aaa.2
          refine ev_seg (σ1 := ((d + 1), 190, 129, [some (.inr (.inr 86)), some (.inl (w32 ((w32 (10 * (U11 86 40))) + (U11 94 (U11 86 40).toNat)))), some (.inl r12), some (.inl r13)], [.inl (w32 (((am_upd (am_upd U14 95 (w32 ((w32 (10 * (U11 86 40))) + (U11 94 (U11 86 40).toNat))).toNat r12) 96 (w32 ((w32 (10 * (U11 86 40))) + (U11 94 (U11 86 40).toNat))).toNat r13) 94 ((am_upd (am_upd U14 95 (w32 ((w32 (10 * (U11 86 40))) + (U11 94 (U11 86 40).toNat))).toNat r12) 96 (w32 ((w32 (10 * (U11 86 40))) + (U11 94 (U11 86 40).toNat))).toNat r13) 86 40).toNat) + 1)), .inl ((am_upd (am_upd U14 95 (w32 ((w32 (10 * (U11 86 40))) + (U11 94 (U11 86 40).toNat))).toNat r12) 96 (w32 ((w32 (10 * (U11 86 40))) + (U11 94 (U11 86 40).toNat))).toNat r13) 86 40), .inr (.inr 94)], (am_sh, am_mm (am_upd (am_upd U14 95 (w32 ((w32 (10 * (U11 86 40))) + (U11 94 (U11 86 40).toNat))).toNat r12) 96 (w32 ((w32 (10 * (U11 86 40))) + (U11 94 (U11 86 40).toNat))).toNat r13)))) 2 (fun _ => rfl) ?_
          refine eu_iast 94 (n := 2) rfl (by decide) rfl (fun _ => rfl) ha2a1aaa11aaaa.1 ?_
          have ha2a1aaa11aaaaa := ha2a1aaa11aaaa.2
          subst ha2a1aaa11aaaaa
          exact ev_end 1 (fun _ => rfl)
        · have ha2a1aaa12 := ha2a1aaa1.2 hc
          subst ha2a1aaa12
          exact ev_end 1 (fun _ => rfl)
      · have ha2a1aaa2 := ha2a1aaa.2 hc
        refine ev_br (P := r12 = r13) (σ1 := ((d + 1), 190, 82, [some (.inr (.inr 86)), some (.inl (w32 ((w32 (10 * (U11 86 40))) + (U11 94 (U11 86 40).toNat)))), some (.inl r12), some (.inl r13)], [], (am_sh, am_mm U13))) (σ2 := ((d + 1), 190, 69, [some (.inr (.inr 86)), some (.inl (w32 ((w32 (10 * (U11 86 40))) + (U11 94 (U11 86 40).toNat)))), some (.inl r12), some (.inl r13)], [], (am_sh, am_mm U13))) 3 (fun _ => rfl) (fun hc => ?_) (fun hc => ?_)
        · have ha2a1aaa21 := ha2a1aaa2.1 hc
          refine ev_seg (σ1 := ((d + 1), 190, 88, [some (.inr (.inr 86)), some (.inl (w32 ((w32 (10 * (U11 86 40))) + (U11 94 (U11 86 40).toNat)))), some (.inl r12), some (.inl r13)], [.inl (U13 86 4), .inl 3, .inr (.inr 86)], (am_sh, am_mm U13))) 4 (fun _ => rfl) ?_
          obtain ⟨U15, ha2a1aaa21c, ha2a1aaa21a⟩ := ha2a1aaa21
          refine ev_cal (σc := (d, 196, 0, [some (.inr (.inr 86)), some (.inl 3), some (.inl (U13 86 4))], [], (am_sh, am_mm U13))) (fun _ => rfl) ha2a1aaa21c ?_
          show Ev kz ((d + 1), 190, 91, [some (.inr (.inr 86)), some (.inl (w32 ((w32 (10 * (U11 86 40))) + (U11 94 (U11 86 40).toNat)))), some (.inl r12), some (.inl r13)], [], (am_sh, am_mm U15)) R
          refine ev_br (P := (U15 86 8) ≤ 0) (σ1 := ((d + 1), 190, 99, [some (.inr (.inr 86)), some (.inl (w32 ((w32 (10 * (U11 86 40))) + (U11 94 (U11 86 40).toNat)))), some (.inl r12), some (.inl r13)], [], (am_sh, am_mm U15))) (σ2 := ((d + 1), 190, 98, [some (.inr (.inr 86)), some (.inl (w32 ((w32 (10 * (U11 86 40))) + (U11 94 (U11 86 40).toNat)))), some (.inl r12), some (.inl r13)], [], (am_sh, am_mm U15))) 3 (fun _ => rfl) (fun hc => ?_) (fun hc => ?_)
          · have ha2a1aaa21a1 := ha2a1aaa21a.1 hc
            refine ev_seg (σ1 := ((d + 1), 190, 100, [some (.inr (.inr 86)), some (.inl (w32 ((w32 (10 * (U11 86 40))) + (U11 94 (U11 86 40).toNat)))), some (.inl r12), some (.inl r13)], [.inr (.inr 86)], (am_sh, am_mm U15))) 1 (fun _ => rfl) ?_
            obtain ⟨U16, ha2a1aaa21a1c, ha2a1aaa21a1a⟩ := ha2a1aaa21a1
            refine ev_cal (σc := (d, 93, 0, [some (.inr (.inr 86)), none, none, none, none, none], [], (am_sh, am_mm U15))) (fun _ => rfl) ha2a1aaa21a1c ?_
            show Ev kz ((d + 1), 190, 103, [some (.inr (.inr 86)), some (.inl (w32 ((w32 (10 * (U11 86 40))) + (U11 94 (U11 86 40).toNat)))), some (.inl r12), some (.inl r13)], [], (am_sh, am_mm U16)) R
            refine ev_seg (σ1 := ((d + 1), 190, 109, [some (.inr (.inr 86)), some (.inl (w32 ((w32 (10 * (U11 86 40))) + (U11 94 (U11 86 40).toNat)))), some (.inl r12), some (.inl r13)], [.inl r12, .inl (w32 ((w32 (10 * (U11 86 40))) + (U11 94 (U11 86 40).toNat))), .inr (.inr 95)], (am_sh, am_mm U16))) 4 (fun _ => rfl) ?_
            refine eu_iast 95 (n := 20) rfl (by decide) rfl (fun _ => rfl) ha2a1aaa21a1a.1 ?_
            have ha2a1aaa21a1aa := ha2a1aaa21a1a.2
            refine ev_seg (σ1 := ((d + 1), 190, 116, [some (.inr (.inr 86)), some (.inl (w32 ((w32 (10 * (U11 86 40))) + (U11 94 (U11 86 40).toNat)))), some (.inl r12), some (.inl r13)], [.inl r13, .inl (w32 ((w32 (10 * (U11 86 40))) + (U11 94 (U11 86 40).toNat))), .inr (.inr 96)], (am_sh, am_mm (am_upd U16 95 (w32 ((w32 (10 * (U11 86 40))) + (U11 94 (U11 86 40).toNat))).toNat r12)))) 4 (fun _ => rfl) ?_
            refine eu_iast 96 (n := 20) rfl (by decide) rfl (fun _ => rfl) ha2a1aaa21a1aa.1 ?_
            have ha2a1aaa21a1aaa := ha2a1aaa21a1aa.2
            refine ev_seg (σ1 := ((d + 1), 190, 126, [some (.inr (.inr 86)), some (.inl (w32 ((w32 (10 * (U11 86 40))) + (U11 94 (U11 86 40).toNat)))), some (.inl r12), some (.inl r13)], [.inl ((am_upd (am_upd U16 95 (w32 ((w32 (10 * (U11 86 40))) + (U11 94 (U11 86 40).toNat))).toNat r12) 96 (w32 ((w32 (10 * (U11 86 40))) + (U11 94 (U11 86 40).toNat))).toNat r13) 86 40), .inr (.inr 94), .inl ((am_upd (am_upd U16 95 (w32 ((w32 (10 * (U11 86 40))) + (U11 94 (U11 86 40).toNat))).toNat r12) 96 (w32 ((w32 (10 * (U11 86 40))) + (U11 94 (U11 86 40).toNat))).toNat r13) 86 40), .inr (.inr 94)], (am_sh, am_mm (am_upd (am_upd U16 95 (w32 ((w32 (10 * (U11 86 40))) + (U11 94 (U11 86 40).toNat))).toNat r12) 96 (w32 ((w32 (10 * (U11 86 40))) + (U11 94 (U11 86 40).toNat))).toNat r13)))) 5 (fun _ => rfl) ?_
            refine eu_iald 94 (n := 2) rfl (by decide) rfl (fun _ => rfl) ha2a1aaa21a1aaa.1 ?_
            have ha2a1aaa21a1aaaa := ha2a1aaa21a1aaa.2
            refine ev_seg (σ1 := ((d + 1), 190, 129, [some (.inr (.inr 86)), some (.inl (w32 ((w32 (10 * (U11 86 40))) + (U11 94 (U11 86 40).toNat)))), some (.inl r12), some (.inl r13)], [.inl (w32 (((am_upd (am_upd U16 95 (w32 ((w32 (10 * (U11 86 40))) + (U11 94 (U11 86 40).toNat))).toNat r12) 96 (w32 ((w32 (10 * (U11 86 40))) + (U11 94 (U11 86 40).toNat))).toNat r13) 94 ((am_upd (am_upd U16 95 (w32 ((w32 (10 * (U11 86 40))) + (U11 94 (U11 86 40).toNat))).toNat r12) 96 (w32 ((w32 (10 * (U11 86 40))) + (U11 94 (U11 86 40).toNat))).toNat r13) 86 40).toNat) + 1)), .inl ((am_upd (am_upd U16 95 (w32 ((w32 (10 * (U11 86 40))) + (U11 94 (U11 86 40).toNat))).toNat r12) 96 (w32 ((w32 (10 * (U11 86 40))) + (U11 94 (U11 86 40).toNat))).toNat r13) 86 40), .inr (.inr 94)], (am_sh, am_mm (am_upd (am_upd U16 95 (w32 ((w32 (10 * (U11 86 40))) + (U11 94 (U11 86 40).toNat))).toNat r12) 96 (w32 ((w32 (10 * (U11 86 40))) + (U11 94 (U11 86 40).toNat))).toNat r13)))) 2 (fun _ => rfl) ?_
            refine eu_iast 94 (n := 2) rfl (by decide) rfl (fun _ => rfl) ha2a1aaa21a1aaaa.1 ?_
            have ha2a1aaa21a1aaaaa := ha2a1aaa21a1aaaa.2
            subst ha2a1aaa21a1aaaaa
            exact ev_end 1 (fun _ => rfl)
          · have ha2a1aaa21a2 := ha2a1aaa21a.2 hc
            subst ha2a1aaa21a2
            exact ev_end 1 (fun _ => rfl)
        · have ha2a1aaa22 := ha2a1aaa2.2 hc
          refine ev_seg (σ1 := ((d + 1), 190, 76, [some (.inr (.inr 86)), some (.inl (w32 ((w32 (10 * (U11 86 40))) + (U11 94 (U11 86 40).toNat)))), some (.inl r12), some (.inl r13)], [.inl r13, .inl r12, .inl (U13 86 40), .inr (.inr 86)], (am_sh, am_mm U13))) 5 (fun _ => rfl) ?_
          obtain ⟨r17, U17, ha2a1aaa22c, ha2a1aaa22a⟩ := ha2a1aaa22
          refine ev_cal (σc := (d, 113, 0, [some (.inr (.inr 86)), some (.inl (U13 86 40)), some (.inl r12), some (.inl r13), none, none], [], (am_sh, am_mm U13))) (fun _ => rfl) ha2a1aaa22c ?_
          show Ev kz ((d + 1), 190, 79, [some (.inr (.inr 86)), some (.inl (w32 ((w32 (10 * (U11 86 40))) + (U11 94 (U11 86 40).toNat)))), some (.inl r12), some (.inl r13)], [.inl r17], (am_sh, am_mm U17)) R
          refine ev_br (P := r17 = 0) (σ1 := ((d + 1), 190, 91, [some (.inr (.inr 86)), some (.inl (w32 ((w32 (10 * (U11 86 40))) + (U11 94 (U11 86 40).toNat)))), some (.inl r12), some (.inl r13)], [], (am_sh, am_mm U17))) (σ2 := ((d + 1), 190, 82, [some (.inr (.inr 86)), some (.inl (w32 ((w32 (10 * (U11 86 40))) + (U11 94 (U11 86 40).toNat)))), some (.inl r12), some (.inl r13)], [], (am_sh, am_mm U17))) 1 (fun _ => rfl) (fun hc => ?_) (fun hc => ?_)
          · have ha2a1aaa22a1 := ha2a1aaa22a.1 hc
            refine ev_br (P := (U17 86 8) ≤ 0) (σ1 := ((d + 1), 190, 99, [some (.inr (.inr 86)), some (.inl (w32 ((w32 (10 * (U11 86 40))) + (U11 94 (U11 86 40).toNat)))), some (.inl r12), some (.inl r13)], [], (am_sh, am_mm U17))) (σ2 := ((d + 1), 190, 98, [some (.inr (.inr 86)), some (.inl (w32 ((w32 (10 * (U11 86 40))) + (U11 94 (U11 86 40).toNat)))), some (.inl r12), some (.inl r13)], [], (am_sh, am_mm U17))) 3 (fun _ => rfl) (fun hc => ?_) (fun hc => ?_)
            · have ha2a1aaa22a11 := ha2a1aaa22a1.1 hc
              refine ev_seg (σ1 := ((d + 1), 190, 100, [some (.inr (.inr 86)), some (.inl (w32 ((w32 (10 * (U11 86 40))) + (U11 94 (U11 86 40).toNat)))), some (.inl r12), some (.inl r13)], [.inr (.inr 86)], (am_sh, am_mm U17))) 1 (fun _ => rfl) ?_
              obtain ⟨U18, ha2a1aaa22a11c, ha2a1aaa22a11a⟩ := ha2a1aaa22a11
              refine ev_cal (σc := (d, 93, 0, [some (.inr (.inr 86)), none, none, none, none, none], [], (am_sh, am_mm U17))) (fun _ => rfl) ha2a1aaa22a11c ?_
              show Ev kz ((d + 1), 190, 103, [some (.inr (.inr 86)), some (.inl (w32 ((w32 (10 * (U11 86 40))) + (U11 94 (U11 86 40).toNat)))), some (.inl r12), some (.inl r13)], [], (am_sh, am_mm U18)) R
              refine ev_seg (σ1 := ((d + 1), 190, 109, [some (.inr (.inr 86)), some (.inl (w32 ((w32 (10 * (U11 86 40))) + (U11 94 (U11 86 40).toNat)))), some (.inl r12), some (.inl r13)], [.inl r12, .inl (w32 ((w32 (10 * (U11 86 40))) + (U11 94 (U11 86 40).toNat))), .inr (.inr 95)], (am_sh, am_mm U18))) 4 (fun _ => rfl) ?_
              refine eu_iast 95 (n := 20) rfl (by decide) rfl (fun _ => rfl) ha2a1aaa22a11a.1 ?_
              have ha2a1aaa22a11aa := ha2a1aaa22a11a.2
              refine ev_seg (σ1 := ((d + 1), 190, 116, [some (.inr (.inr 86)), some (.inl (w32 ((w32 (10 * (U11 86 40))) + (U11 94 (U11 86 40).toNat)))), some (.inl r12), some (.inl r13)], [.inl r13, .inl (w32 ((w32 (10 * (U11 86 40))) + (U11 94 (U11 86 40).toNat))), .inr (.inr 96)], (am_sh, am_mm (am_upd U18 95 (w32 ((w32 (10 * (U11 86 40))) + (U11 94 (U11 86 40).toNat))).toNat r12)))) 4 (fun _ => rfl) ?_
              refine eu_iast 96 (n := 20) rfl (by decide) rfl (fun _ => rfl) ha2a1aaa22a11aa.1 ?_
              have ha2a1aaa22a11aaa := ha2a1aaa22a11aa.2
              refine ev_seg (σ1 := ((d + 1), 190, 126, [some (.inr (.inr 86)), some (.inl (w32 ((w32 (10 * (U11 86 40))) + (U11 94 (U11 86 40).toNat)))), some (.inl r12), some (.inl r13)], [.inl ((am_upd (am_upd U18 95 (w32 ((w32 (10 * (U11 86 40))) + (U11 94 (U11 86 40).toNat))).toNat r12) 96 (w32 ((w32 (10 * (U11 86 40))) + (U11 94 (U11 86 40).toNat))).toNat r13) 86 40), .inr (.inr 94), .inl ((am_upd (am_upd U18 95 (w32 ((w32 (10 * (U11 86 40))) + (U11 94 (U11 86 40).toNat))).toNat r12) 96 (w32 ((w32 (10 * (U11 86 40))) + (U11 94 (U11 86 40).toNat))).toNat r13) 86 40), .inr (.inr 94)], (am_sh, am_mm (am_upd (am_upd U18 95 (w32 ((w32 (10 * (U11 86 40))) + (U11 94 (U11 86 40).toNat))).toNat r12) 96 (w32 ((w32 (10 * (U11 86 40))) + (U11 94 (U11 86 40).toNat))).toNat r13)))) 5 (fun _ => rfl) ?_
              refine eu_iald 94 (n := 2) rfl (by decide) rfl (fun _ => rfl) ha2a1aaa22a11aaa.1 ?_
              have ha2a1aaa22a11aaaa := ha2a1aaa22a11aaa.2
              refine ev_seg (σ1 := ((d + 1), 190, 129, [some (.inr (.inr 86)), some (.inl (w32 ((w32 (10 * (U11 86 40))) + (U11 94 (U11 86 40).toNat)))), some (.inl r12), some (.inl r13)], [.inl (w32 (((am_upd (am_upd U18 95 (w32 ((w32 (10 * (U11 86 40))) + (U11 94 (U11 86 40).toNat))).toNat r12) 96 (w32 ((w32 (10 * (U11 86 40))) + (U11 94 (U11 86 40).toNat))).toNat r13) 94 ((am_upd (am_upd U18 95 (w32 ((w32 (10 * (U11 86 40))) + (U11 94 (U11 86 40).toNat))).toNat r12) 96 (w32 ((w32 (10 * (U11 86 40))) + (U11 94 (U11 86 40).toNat))).toNat r13) 86 40).toNat) + 1)), .inl ((am_upd (am_upd U18 95 (w32 ((w32 (10 * (U11 86 40))) + (U11 94 (U11 86 40).toNat))).toNat r12) 96 (w32 ((w32 (10 * (U11 86 40))) + (U11 94 (U11 86 40).toNat))).toNat r13) 86 40), .inr (.inr 94)], (am_sh, am_mm (am_upd (am_upd U18 95 (w32 ((w32 (10 * (U11 86 40))) + (U11 94 (U11 86 40).toNat))).toNat r12) 96 (w32 ((w32 (10 * (U11 86 40))) + (U11 94 (U11 86 40).toNat))).toNat r13)))) 2 (fun _ => rfl) ?_
              refine eu_iast 94 (n := 2) rfl (by decide) rfl (fun _ => rfl) ha2a1aaa22a11aaaa.1 ?_
              have ha2a1aaa22a11aaaaa := ha2a1aaa22a11aaaa.2
              subst ha2a1aaa22a11aaaaa
              exact ev_end 1 (fun _ => rfl)
            · have ha2a1aaa22a12 := ha2a1aaa22a1.2 hc
              subst ha2a1aaa22a12
              exact ev_end 1 (fun _ => rfl)
          · have ha2a1aaa22a2 := ha2a1aaa22a.2 hc
            refine ev_seg (σ1 := ((d + 1), 190, 88, [some (.inr (.inr 86)), some (.inl (w32 ((w32 (10 * (U11 86 40))) + (U11 94 (U11 86 40).toNat)))), some (.inl r12), some (.inl r13)], [.inl (U17 86 4), .inl 3, .inr (.inr 86)], (am_sh, am_mm U17))) 4 (fun _ => rfl) ?_
            obtain ⟨U19, ha2a1aaa22a2c, ha2a1aaa22a2a⟩ := ha2a1aaa22a2
            refine ev_cal (σc := (d, 196, 0, [some (.inr (.inr 86)), some (.inl 3), some (.inl (U17 86 4))], [], (am_sh, am_mm U17))) (fun _ => rfl) ha2a1aaa22a2c ?_
            show Ev kz ((d + 1), 190, 91, [some (.inr (.inr 86)), some (.inl (w32 ((w32 (10 * (U11 86 40))) + (U11 94 (U11 86 40).toNat)))), some (.inl r12), some (.inl r13)], [], (am_sh, am_mm U19)) R
            refine ev_br (P := (U19 86 8) ≤ 0) (σ1 := ((d + 1), 190, 99, [some (.inr (.inr 86)), some (.inl (w32 ((w32 (10 * (U11 86 40))) + (U11 94 (U11 86 40).toNat)))), some (.inl r12), some (.inl r13)], [], (am_sh, am_mm U19))) (σ2 := ((d + 1), 190, 98, [some (.inr (.inr 86)), some (.inl (w32 ((w32 (10 * (U11 86 40))) + (U11 94 (U11 86 40).toNat)))), some (.inl r12), some (.inl r13)], [], (am_sh, am_mm U19))) 3 (fun _ => rfl) (fun hc => ?_) (fun hc => ?_)
            · have ha2a1aaa22a2a1 := ha2a1aaa22a2a.1 hc
              refine ev_seg (σ1 := ((d + 1), 190, 100, [some (.inr (.inr 86)), some (.inl (w32 ((w32 (10 * (U11 86 40))) + (U11 94 (U11 86 40).toNat)))), some (.inl r12), some (.inl r13)], [.inr (.inr 86)], (am_sh, am_mm U19))) 1 (fun _ => rfl) ?_
              obtain ⟨U20, ha2a1aaa22a2a1c, ha2a1aaa22a2a1a⟩ := ha2a1aaa22a2a1
              refine ev_cal (σc := (d, 93, 0, [some (.inr (.inr 86)), none, none, none, none, none], [], (am_sh, am_mm U19))) (fun _ => rfl) ha2a1aaa22a2a1c ?_
              show Ev kz ((d + 1), 190, 103, [some (.inr (.inr 86)), some (.inl (w32 ((w32 (10 * (U11 86 40))) + (U11 94 (U11 86 40).toNat)))), some (.inl r12), some (.inl r13)], [], (am_sh, am_mm U20)) R
              refine ev_seg (σ1 := ((d + 1), 190, 109, [some (.inr (.inr 86)), some (.inl (w32 ((w32 (10 * (U11 86 40))) + (U11 94 (U11 86 40).toNat)))), some (.inl r12), some (.inl r13)], [.inl r12, .inl (w32 ((w32 (10 * (U11 86 40))) + (U11 94 (U11 86 40).toNat))), .inr (.inr 95)], (am_sh, am_mm U20))) 4 (fun _ => rfl) ?_
              refine eu_iast 95 (n := 20) rfl (by decide) rfl (fun _ => rfl) ha2a1aaa22a2a1a.1 ?_
              have ha2a1aaa22a2a1aa := ha2a1aaa22a2a1a.2
              refine ev_seg (σ1 := ((d + 1), 190, 116, [some (.inr (.inr 86)), some (.inl (w32 ((w32 (10 * (U11 86 40))) + (U11 94 (U11 86 40).toNat)))), some (.inl r12), some (.inl r13)], [.inl r13, .inl (w32 ((w32 (10 * (U11 86 40))) + (U11 94 (U11 86 40).toNat))), .inr (.inr 96)], (am_sh, am_mm (am_upd U20 95 (w32 ((w32 (10 * (U11 86 40))) + (U11 94 (U11 86 40).toNat))).toNat r12)))) 4 (fun _ => rfl) ?_
              refine eu_iast 96 (n := 20) rfl (by decide) rfl (fun _ => rfl) ha2a1aaa22a2a1aa.1 ?_
              have ha2a1aaa22a2a1aaa := ha2a1aaa22a2a1aa.2
              refine ev_seg (σ1 := ((d + 1), 190, 126, [some (.inr (.inr 86)), some (.inl (w32 ((w32 (10 * (U11 86 40))) + (U11 94 (U11 86 40).toNat)))), some (.inl r12), some (.inl r13)], [.inl ((am_upd (am_upd U20 95 (w32 ((w32 (10 * (U11 86 40))) + (U11 94 (U11 86 40).toNat))).toNat r12) 96 (w32 ((w32 (10 * (U11 86 40))) + (U11 94 (U11 86 40).toNat))).toNat r13) 86 40), .inr (.inr 94), .inl ((am_upd (am_upd U20 95 (w32 ((w32 (10 * (U11 86 40))) + (U11 94 (U11 86 40).toNat))).toNat r12) 96 (w32 ((w32 (10 * (U11 86 40))) + (U11 94 (U11 86 40).toNat))).toNat r13) 86 40), .inr (.inr 94)], (am_sh, am_mm (am_upd (am_upd U20 95 (w32 ((w32 (10 * (U11 86 40))) + (U11 94 (U11 86 40).toNat))).toNat r12) 96 (w32 ((w32 (10 * (U11 86 40))) + (U11 94 (U11 86 40).toNat))).toNat r13)))) 5 (fun _ => rfl) ?_
              refine eu_iald 94 (n := 2) rfl (by decide) rfl (fun _ => rfl) ha2a1aaa22a2a1aaa.1 ?_
              have ha2a1aaa22a2a1aaaa := ha2a1aaa22a2a1aaa.2
              refine ev_seg (σ1 := ((d + 1), 190, 129, [some (.inr (.inr 86)), some (.inl (w32 ((w32 (10 * (U11 86 40))) + (U11 94 (U11 86 40).toNat)))), some (.inl r12), some (.inl r13)], [.inl (w32 (((am_upd (am_upd U20 95 (w32 ((w32 (10 * (U11 86 40))) + (U11 94 (U11 86 40).toNat))).toNat r12) 96 (w32 ((w32 (10 * (U11 86 40))) + (U11 94 (U11 86 40).toNat))).toNat r13) 94 ((am_upd (am_upd U20 95 (w32 ((w32 (10 * (U11 86 40))) + (U11 94 (U11 86 40).toNat))).toNat r12) 96 (w32 ((w32 (10 * (U11 86 40))) + (U11 94 (U11 86 40).toNat))).toNat r13) 86 40).toNat) + 1)), .inl ((am_upd (am_upd U20 95 (w32 ((w32 (10 * (U11 86 40))) + (U11 94 (U11 86 40).toNat))).toNat r12) 96 (w32 ((w32 (10 * (U11 86 40))) + (U11 94 (U11 86 40).toNat))).toNat r13) 86 40), .inr (.inr 94)], (am_sh, am_mm (am_upd (am_upd U20 95 (w32 ((w32 (10 * (U11 86 40))) + (U11 94 (U11 86 40).toNat))).toNat r12) 96 (w32 ((w32 (10 * (U11 86 40))) + (U11 94 (U11 86 40).toNat))).toNat r13)))) 2 (fun _ => rfl) ?_
              refine eu_iast 94 (n := 2) rfl (by decide) rfl (fun _ => rfl) ha2a1aaa22a2a1aaaa.1 ?_
              have ha2a1aaa22a2a1aaaaa := ha2a1aaa22a2a1aaaa.2
              subst ha2a1aaa22a2a1aaaaa
              exact ev_end 1 (fun _ => rfl)
            · have ha2a1aaa22a2a2 := ha2a1aaa22a2a.2 hc
              subst ha2a1aaa22a2a2
              exact ev_end 1 (fun _ => rfl)
    · have ha2a2 := ha2a.2 hc
      subst ha2a2
      exact ev_end 1 (fun _ => rfl)
