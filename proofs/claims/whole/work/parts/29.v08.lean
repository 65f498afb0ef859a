set_option maxRecDepth 8000 in
theorem st290_m2_0 (kz : am_Z) (d : Nat) (x1 : Int) (U : Nat → Nat → Int) (R : Option am_V × am_M) (h : ∃ (r1 : Int) (U1 : Nat → Nat → Int), Ev kz (d, 318, 0, [some (.inr (.inr (-2))), some (.inl x1), some (.inl 0)], [], (am_sh, am_mm U)) (some (.inl r1), (am_sh, am_mm U1)) ∧ R = (some (.inl r1), (am_sh, am_mm U1))) : Ev kz ((d + 1), 290, 0, [some (.inr (.inr (-2))), some (.inl x1)], [], (am_sh, am_mm U)) R := by
  refine ev_seg (σ1 := ((d + 1), 290, 3, [some (.inr (.inr (-2))), some (.inl x1)], [.inl 0, .inl x1, .inr (.inr (-2))], (am_sh, am_mm U))) 3 (fun _ => rfl) ?_
  obtain ⟨r1, U1, hc, ha⟩ := h
  refine ev_cal (σc := (d, 318, 0, [some (.inr (.inr (-2))), some (.inl x1), some (.inl 0)], [], (am_sh, am_mm U))) (fun _ => rfl) hc ?_
  show Ev kz ((d + 1), 290, 6, [some (.inr (.inr (-2))), some (.inl x1)], [.inl r1], (am_sh, am_mm U1)) R
  subst ha
  exact ev_end 1 (fun _ => rfl)
set_option maxRecDepth 8000 in
theorem st289_27_2_0 (kz : am_Z) (d : Nat) (x2 x3 x4 : Int) (U : Nat → Nat → Int) (R : Option am_V × am_M) (h : (((¬ x3 = (U 27 5) : Prop)) → (((x4 = 0 : Prop)) → Ev kz ((d + 1), 289, 36, [some (.inr (.inr 27)), some (.inr (.inr 2)), some (.inl x2), some (.inl x3), some (.inl x4), some (.inl 9), some (.inl 0), some (.inl x3)], [], (am_sh, am_mm U)) R) ∧ (¬ (x4 = 0) → Ev kz ((d + 1), 289, 36, [some (.inr (.inr 27)), some (.inr (.inr 2)), some (.inl x2), some (.inl x3), some (.inl x4), some (.inl 6), some (.inl 0), some (.inl x3)], [], (am_sh, am_mm U)) R)) ∧ (¬ (¬ x3 = (U 27 5)) → ∃ (r1 : Int) (U1 : Nat → Nat → Int), Ev kz (d, 291, 0, [some (.inr (.inr 27)), some (.inl x3), some (.inl x3), some (.inl x2)], [], (am_sh, am_mm U)) (some (.inl r1), (am_sh, am_mm U1)) ∧ R = (some (.inl r1), (am_sh, am_mm U1)))) : Ev kz ((d + 1), 289, 0, [some (.inr (.inr 27)), some (.inr (.inr 2)), some (.inl x2), some (.inl x3), some (.inl x4), none, none, none], [], (am_sh, am_mm U)) R := by
  refine ev_br (P := ¬ x3 = (U 27 5)) (σ1 := ((d + 1), 289, 16, [some (.inr (.inr 27)), some (.inr (.inr 2)), some (.inl x2), some (.inl x3), some (.inl x4), none, none, none], [], (am_sh, am_mm U))) (σ2 := ((d + 1), 289, 8, [some (.inr (.inr 27)), some (.inr (.inr 2)), some (.inl x2), some (.inl x3), some (.inl x4), none, none, none], [], (am_sh, am_mm U))) 4 (fun _ => rfl) (fun hc => ?_) (fun hc => ?_)
  · have h1 := h.1 hc
    refine ev_br (P := x4 = 0) (σ1 := ((d + 1), 289, 26, [some (.inr (.inr 27)), some (.inr (.inr 2)), some (.inl x2), some (.inl x3), some (.inl x4), none, none, none], [], (am_sh, am_mm U))) (σ2 := ((d + 1), 289, 21, [some (.inr (.inr 27)), some (.inr (.inr 2)), some (.inl x2), some (.inl x3), some (.inl x4), none, none, none], [], (am_sh, am_mm U))) 2 (fun _ => rfl) (fun hc => ?_) (fun hc => ?_)
    · have h11 := h1.1 hc
      refine ev_seg (σ1 := ((d + 1), 289, 36, [some (.inr (.inr 27)), some (.inr (.inr 2)), some (.inl x2), some (.inl x3), some (.inl x4), some (.inl 9), some (.inl 0), some (.inl x3)], [], (am_sh, am_mm U))) 6 (fun _ => rfl) ?_
      exact h11
    · have h12 := h1.2 hc
      refine ev_seg (σ1 := ((d + 1), 289, 36, [some (.inr (.inr 27)), some (.inr (.inr 2)), some (.inl x2), some (.inl x3), some (.inl x4), some (.inl 6), some (.inl 0), some (.inl x3)], [], (am_sh, am_mm U))) 7 (fun _ => rfl) ?_
      exact h12
  · have h2 := h.2 hc
    refine ev_seg (σ1 := ((d + 1), 289, 12, [some (.inr (.inr 27)), some (.inr (.inr 2)), some (.inl x2), some (.inl x3), some (.inl x4), none, none, none], [.inl x2, .inl x3, .inl x3, .inr (.inr 27)], (am_sh, am_mm U))) 4 (fun _ => rfl) ?_
    obtain ⟨r1, U1, h2c, h2a⟩ := h2
    refine ev_cal (σc := (d, 291, 0, [some (.inr (.inr 27)), some (.inl x3), some (.inl x3), some (.inl x2)], [], (am_sh, am_mm U))) (fun _ => rfl) h2c ?_
    show Ev kz ((d + 1), 289, 15, [some (.inr (.inr 27)), some (.inr (.inr 2)), some (.inl x2), some (.inl x3), some (.inl x4), none, none, none], [.inl r1], (am_sh, am_mm U1)) R
    subst h2a
    exact ev_end 1 (fun _ => rfl)
set_option maxRecDepth 8000 in
theorem st289_27_2_36 (kz : am_Z) (d : Nat) (x2 x3 x4 x5 x6 x7 : Int) (U : Nat → Nat → Int) (R : Option am_V × am_M) (h : (((x2 ≤ x7 : Prop)) → (((x4 = 0 : Prop)) → ∃ U1 : Nat → Nat → Int, Ev kz (d, 248, 0, [some (.inr (.inr 27)), some (.inl 3), some (.inl x6), some (.inl x3)], [], (am_sh, am_mm U)) (none, (am_sh, am_mm U1)) ∧ R = (some (.inl x7), (am_sh, am_mm (am_upd U1 27 5 x7)))) ∧ (¬ (x4 = 0) → ∃ U2 : Nat → Nat → Int, Ev kz (d, 317, 0, [some (.inr (.inr 27)), some (.inr (.inr 2)), some (.inl x3), some (.inl x7), some (.inl x6), none], [], (am_sh, am_mm U)) (none, (am_sh, am_mm U2)) ∧ R = (some (.inl x7), (am_sh, am_mm (am_upd U2 27 5 x7))))) ∧ (¬ (x2 ≤ x7) → (((x5 < (w32 (x7 - x3)) : Prop)) → (((x4 = 0 : Prop)) → ∃ U3 : Nat → Nat → Int, Ev kz (d, 248, 0, [some (.inr (.inr 27)), some (.inl 3), some (.inl x6), some (.inl x3)], [], (am_sh, am_mm U)) (none, (am_sh, am_mm U3)) ∧ R = (some (.inl x7), (am_sh, am_mm (am_upd U3 27 5 x7)))) ∧ (¬ (x4 = 0) → ∃ U4 : Nat → Nat → Int, Ev kz (d, 317, 0, [some (.inr (.inr 27)), some (.inr (.inr 2)), some (.inl x3), some (.inl x7), some (.inl x6), none], [], (am_sh, am_mm U)) (none, (am_sh, am_mm U4)) ∧ R = (some (.inl x7), (am_sh, am_mm (am_upd U4 27 5 x7))))) ∧ (¬ (x5 < (w32 (x7 - x3))) → (((x4 = 0 : Prop)) → (0 ≤ x7 ∧ x7 < 1600) ∧ ∃ (r5 : Int) (U5 : Nat → Nat → Int), Ev kz (d, 288, 0, [some (.inl (U 2 x7.toNat))], [], (am_sh, am_mm U)) (some (.inl r5), (am_sh, am_mm U5)) ∧ (((r5 = 0 : Prop)) → (((x4 = 0 : Prop)) → ∃ U6 : Nat → Nat → Int, Ev kz (d, 248, 0, [some (.inr (.inr 27)), some (.inl 3), some (.inl x6), some (.inl x3)], [], (am_sh, am_mm U5)) (none, (am_sh, am_mm U6)) ∧ R = (some (.inl x7), (am_sh, am_mm (am_upd U6 27 5 x7)))) ∧ (¬ (x4 = 0) → ∃ U7 : Nat → Nat → Int, Ev kz (d, 317, 0, [some (.inr (.inr 27)), some (.inr (.inr 2)), some (.inl x3), some (.inl x7), some (.inl x6), none], [], (am_sh, am_mm U5)) (none, (am_sh, am_mm U7)) ∧ R = (some (.inl x7), (am_sh, am_mm (am_upd U7 27 5 x7))))) ∧ (¬ (r5 = 0) → (((¬ (w32 (x7 - x3)) = x5 : Prop)) → (((x4 = 0 : Prop)) → (0 ≤ x7 ∧ x7 < 1600) ∧ Ev kz ((d + 1), 289, 36, [some (.inr (.inr 27)), some (.inr (.inr 2)), some (.inl x2), some (.inl x3), some (.inl x4), some (.inl x5), some (.inl (w32 ((w32 ((w32 (10 * x6)) + (U5 2 x7.toNat))) - 48))), some (.inl (w32 (x7 + 1)))], [], (am_sh, am_mm U5)) R) ∧ (¬ (x4 = 0) → (0 ≤ x7 ∧ x7 < 1600) ∧ Ev kz ((d + 1), 289, 36, [some (.inr (.inr 27)), some (.inr (.inr 2)), some (.inl x2), some (.inl x3), some (.inl x4), some (.inl x5), some (.inl (am_or x6 (am_shl (w32 ((U5 2 x7.toNat) - 96)) (w32 (25 - (w32 (5 * (w32 (x7 - x3))))))))), some (.inl (w32 (x7 + 1)))], [], (am_sh, am_mm U5)) R)) ∧ (¬ (¬ (w32 (x7 - x3)) = x5) → ∃ (r8 : Int) (U8 : Nat → Nat → Int), Ev kz (d, 291, 0, [some (.inr (.inr 27)), some (.inl x3), some (.inl x7), some (.inl x2)], [], (am_sh, am_mm U5)) (some (.inl r8), (am_sh, am_mm U8)) ∧ R = (some (.inl r8), (am_sh, am_mm U8))))) ∧ (¬ (x4 = 0) → (0 ≤ x7 ∧ x7 < 1600) ∧ ∃ (r9 : Int) (U9 : Nat → Nat → Int), Ev kz (d, 287, 0, [some (.inl (U 2 x7.toNat))], [], (am_sh, am_mm U)) (some (.inl r9), (am_sh, am_mm U9)) ∧ (((r9 = 0 : Prop)) → (((x4 = 0 : Prop)) → ∃ U10 : Nat → Nat → Int, Ev kz (d, 248, 0, [some (.inr (.inr 27)), some (.inl 3), some (.inl x6), some (.inl x3)], [], (am_sh, am_mm U9)) (none, (am_sh, am_mm U10)) ∧ R = (some (.inl x7), (am_sh, am_mm (am_upd U10 27 5 x7)))) ∧ (¬ (x4 = 0) → ∃ U11 : Nat → Nat → Int, Ev kz (d, 317, 0, [some (.inr (.inr 27)), some (.inr (.inr 2)), some (.inl x3), some (.inl x7), some (.inl x6), none], [], (am_sh, am_mm U9)) (none, (am_sh, am_mm U11)) ∧ R = (some (.inl x7), (am_sh, am_mm (am_upd U11 27 5 x7))))) ∧ (¬ (r9 = 0) → (((¬ (w32 (x7 - x3)) = x5 : Prop)) → (((x4 = 0 : Prop)) → (0 ≤ x7 ∧ x7 < 1600) ∧ Ev kz ((d + 1), 289, 36, [some (.inr (.inr 27)), some (.inr (.inr 2)), some (.inl x2), some (.inl x3), some (.inl x4), some (.inl x5), some (.inl (w32 ((w32 ((w32 (10 * x6)) + (U9 2 x7.toNat))) - 48))), some (.inl (w32 (x7 + 1)))], [], (am_sh, am_mm U9)) R) ∧ (¬ (x4 = 0) → (0 ≤ x7 ∧ x7 < 1600) ∧ Ev kz ((d + 1), 289, 36, [some (.inr (.inr 27)), some (.inr (.inr 2)), some (.inl x2), some (.inl x3), some (.inl x4), some (.inl x5), some (.inl (am_or x6 (am_shl (w32 ((U9 2 x7.toNat) - 96)) (w32 (25 - (w32 (5 * (w32 (x7 - x3))))))))), some (.inl (w32 (x7 + 1)))], [], (am_sh, am_mm U9)) R)) ∧ (¬ (¬ (w32 (x7 - x3)) = x5) → ∃ (r12 : Int) (U12 : Nat → Nat → Int), Ev kz (d, 291, 0, [some (.inr (.inr 27)), some (.inl x3), some (.inl x7), some (.inl x2)], [], (am_sh, am_mm U9)) (some (.inl r12), (am_sh, am_mm U12)) ∧ R = (some (.inl r12), (am_sh, am_mm U12)))))))) : Ev kz ((d + 1), 289, 36, [some (.inr (.inr 27)), some (.inr (.inr 2)), some (.inl x2), some (.inl x3), some (.inl x4), some (.inl x5), some (.inl x6), some (.inl x7)], [], (am_sh, am_mm U)) R := by
  refine ev_br (P := x2 ≤ x7) (σ1 := ((d + 1), 289, 146, [some (.inr (.inr 27)), some (.inr (.inr 2)), some (.inl x2), some (.inl x3), some (.inl x4), some (.inl x5), some (.inl x6), some (.inl x7)], [], (am_sh, am_mm U))) (σ2 := ((d + 1), 289, 42, [some (.inr (.inr 27)), some (.inr (.inr 2)), some (.inl x2), some (.inl x3), some (.inl x4), some (.inl x5), some (.inl x6), some (.inl x7)], [], (am_sh, am_mm U))) 3 (fun _ => rfl) (fun hc => ?_) (fun hc => ?_)
  · have h1 := h.1 hc
    refine ev_br (P := x4 = 0) (σ1 := ((d + 1), 289, 164, [some (.inr (.inr 27)), some (.inr (.inr 2)), some (.inl x2), some (.inl x3), some (.inl x4), some (.inl x5), some (.inl x6), some (.inl x7)], [], (am_sh, am_mm U))) (σ2 := ((d + 1), 289, 151, [some (.inr (.inr 27)), some (.inr (.inr 2)), some (.inl x2), some (.inl x3), some (.inl x4), some (.inl x5), some (.inl x6), some (.inl x7)], [], (am_sh, am_mm U))) 2 (fun _ => rfl) (fun hc => ?_) (fun hc => ?_)
    · have h11 := h1.1 hc
      refine ev_seg (σ1 := ((d + 1), 289, 169, [some (.inr (.inr 27)), some (.inr (.inr 2)), some (.inl x2), some (.inl x3), some (.inl x4), some (.inl x5), some (.inl x6), some (.inl x7)], [.inl x3, .inl x6, .inl 3, .inr (.inr 27)], (am_sh, am_mm U))) 4 (fun _ => rfl) ?_
      obtain ⟨U1, h11c, h11a⟩ := h11
      refine ev_cal (σc := (d, 248, 0, [some (.inr (.inr 27)), some (.inl 3), some (.inl x6), some (.inl x3)], [], (am_sh, am_mm U))) (fun _ => rfl) h11c ?_
      show Ev kz ((d + 1), 289, 172, [some (.inr (.inr 27)), some (.inr (.inr 2)), some (.inl x2), some (.inl x3), some (.inl x4), some (.inl x5), some (.inl x6), some (.inl x7)], [], (am_sh, am_mm U1)) R
      refine ev_seg (σ1 := ((d + 1), 289, 175, [some (.inr (.inr 27)), some (.inr (.inr 2)), some (.inl x2), some (.inl x3), some (.inl x4), some (.inl x5), some (.inl x6), some (.inl x7)], [.inl x7, .inr (.inr 27)], (am_sh, am_mm U1))) 2 (fun _ => rfl) ?_
      refine eu_puti 27 (n := 6) rfl (by decide) rfl rfl ?_
      subst h11a
      exact ev_end 2 (fun _ => rfl)
    · have h12 := h1.2 hc
      refine ev_seg (σ1 := ((d + 1), 289, 158, [some (.inr (.inr 27)), some (.inr (.inr 2)), some (.inl x2), some (.inl x3), some (.inl x4), some (.inl x5), some (.inl x6), some (.inl x7)], [.inl x6, .inl x7, .inl x3, .inr (.inr 2), .inr (.inr 27)], (am_sh, am_mm U))) 5 (fun _ => rfl) ?_
      obtain ⟨U2, h12c, h12a⟩ := h12
      refine ev_cal (σc := (d, 317, 0, [some (.inr (.inr 27)), some (.inr (.inr 2)), some (.inl x3), some (.inl x7), some (.inl x6), none], [], (am_sh, am_mm U))) (fun _ => rfl) h12c ?_
      show Ev kz ((d + 1), 289, 161, [some (.inr (.inr 27)), some (.inr (.inr 2)), some (.inl x2), some (.inl x3), some (.inl x4), some (.inl x5), some (.inl x6), some (.inl x7)], [], (am_sh, am_mm U2)) R
      refine ev_seg (σ1 := ((d + 1), 289, 175, [some (.inr (.inr 27)), some (.inr (.inr 2)), some (.inl x2), some (.inl x3), some (.inl x4), some (.inl x5), some (.inl x6), some (.inl x7)], [.inl x7, .inr (.inr 27)], (am_sh, am_mm U2))) 3 (fun _ => rfl) ?_
      refine eu_puti 27 (n := 6) rfl (by decide) rfl rfl ?_
      subst h12a
      exact ev_end 2 (fun _ => rfl)
  · have h2 := h.2 hc
    refine ev_br (P := x5 < (w32 (x7 - x3))) (σ1 := ((d + 1), 289, 146, [some (.inr (.inr 27)), some (.inr (.inr 2)), some (.inl x2), some (.inl x3), some (.inl x4), some (.inl x5), some (.inl x6), some (.inl x7)], [], (am_sh, am_mm U))) (σ2 := ((d + 1), 289, 51, [some (.inr (.inr 27)), some (.inr (.inr 2)), some (.inl x2), some (.inl x3), some (.inl x4), some (.inl x5), some (.inl x6), some (.inl x7)], [], (am_sh, am_mm U))) 5 (fun _ => rfl) (fun hc => ?_) (fun hc => ?_)
    · have h21 := h2.1 hc
      refine ev_br (P := x4 = 0) (σ1 := ((d + 1), 289, 164, [some (.inr (.inr 27)), some (.inr (.inr 2)), some (.inl x2), some (.inl x3), some (.inl x4), some (.inl x5), some (.inl x6), some (.inl x7)], [], (am_sh, am_mm U))) (σ2 := ((d + 1), 289, 151, [some (.inr (.inr 27)), some (.inr (.inr 2)), some (.inl x2), some (.inl x3), some (.inl x4), some (.inl x5), some (.inl x6), some (.inl x7)], [], (am_sh, am_mm U))) 2 (fun _ => rfl) (fun hc => ?_) (fun hc => ?_)
      · have h211 := h21.1 hc
        refine ev_seg (σ1 := ((d + 1), 289, 169, [some (.inr (.inr 27)), some (.inr (.inr 2)), some (.inl x2), some (.inl x3), some (.inl x4), some (.inl x5), some (.inl x6), some (.inl x7)], [.inl x3, .inl x6, .inl 3, .inr (.inr 27)], (am_sh, am_mm U))) 4 (fun _ => rfl) ?_
        obtain ⟨U3, h211c, h211a⟩ := h211
        refine ev_cal (σc := (d, 248, 0, [some (.inr (.inr 27)), some (.inl 3), some (.inl x6), some (.inl x3)], [], (am_sh, am_mm U))) (fun _ => rfl) h211c ?_
        show Ev kz ((d + 1), 289, 172, [some (.inr (.inr 27)), some (.inr (.inr 2)), some (.inl x2), some (.inl x3), some (.inl x4), some (.inl x5), some (.inl x6), some (.inl x7)], [], (am_sh, am_mm U3)) R
        refine ev_seg (σ1 := ((d + 1), 289, 175, [some (.inr (.inr 27)), some (.inr (.inr 2)), some (.inl x2), some (.inl x3), some (.inl x4), some (.inl x5), some (.inl x6), some (.inl x7)], [.inl x7, .inr (.inr 27)], (am_sh, am_mm U3))) 2 (fun _ => rfl) ?_
        refine eu_puti 27 (n := 6) rfl (by decide) rfl rfl ?_
        subst h211a
        exact ev_end 2 (fun _ => rfl)
      · have h212 := h21.2 hc
        refine ev_seg (σ1 := ((d + 1), 289, 158, [some (.inr (.inr 27)), some (.inr (.inr 2)), some (.inl x2), some (.inl x3), some (.inl x4), some (.inl x5), some (.inl x6), some (.inl x7)], [.inl x6, .inl x7, .inl x3, .inr (.inr 2), .inr (.inr 27)], (am_sh, am_mm U))) 5 (fun _ => rfl) ?_
        obtain ⟨U4, h212c, h212a⟩ := h212
        refine ev_cal (σc := (d, 317, 0, [some (.inr (.inr 27)), some (.inr (.inr 2)), some (.inl x3), some (.inl x7), some (.inl x6), none], [], (am_sh, am_mm U))) (fun _ => rfl) h212c ?_
        show Ev kz ((d + 1), 289, 161, [some (.inr (.inr 27)), some (.inr (.inr 2)), some (.inl x2), some (.inl x3), some (.inl x4), some (.inl x5), some (.inl x6), some (.inl x7)], [], (am_sh, am_mm U4)) R
        refine ev_seg (σ1 := ((d + 1), 289, 175, [some (.inr (.inr 27)), some (.inr (.inr 2)), some (.inl x2), some (.inl x3), some (.inl x4), some (.inl x5), some (.inl x6), some (.inl x7)], [.inl x7, .inr (.inr 27)], (am_sh, am_mm U4))) 3 (fun _ => rfl) ?_
        refine eu_puti 27 (n := 6) rfl (by decide) rfl rfl ?_
        subst h212a
        exact ev_end 2 (fun _ => rfl)
    · have h22 := h2.2 hc
      refine ev_br (P := x4 = 0) (σ1 := ((d + 1), 289, 69, [some (.inr (.inr 27)), some (.inr (.inr 2)), some (.inl x2), some (.inl x3), some (.inl x4), some (.inl x5), some (.inl x6), some (.inl x7)], [], (am_sh, am_mm U))) (σ2 := ((d + 1), 289, 56, [some (.inr (.inr 27)), some (.inr (.inr 2)), some (.inl x2), some (.inl x3), some (.inl x4), some (.inl x5), some (.inl x6), some (.inl x7)], [], (am_sh, am_mm U))) 2 (fun _ => rfl) (fun hc => ?_) (fun hc => ?_)
      · have h221 := h22.1 hc
        refine ev_seg (σ1 := ((d + 1), 289, 72, [some (.inr (.inr 27)), some (.inr (.inr 2)), some (.inl x2), some (.inl x3), some (.inl x4), some (.inl x5), some (.inl x6), some (.inl x7)], [.inl x7, .inr (.inr 2)], (am_sh, am_mm U))) 2 (fun _ => rfl) ?_
        refine eu_iald 2 (n := 1600) rfl (by decide) rfl (fun _ => rfl) h221.1 ?_
        have h221a := h221.2
        obtain ⟨r5, U5, h221ac, h221aa⟩ := h221a
        refine ev_cal (σc := (d, 288, 0, [some (.inl (U 2 x7.toNat))], [], (am_sh, am_mm U))) (fun _ => rfl) h221ac ?_
        show Ev kz ((d + 1), 289, 76, [some (.inr (.inr 27)), some (.inr (.inr 2)), some (.inl x2), some (.inl x3), some (.inl x4), some (.inl x5), some (.inl x6), some (.inl x7)], [.inl r5], (am_sh, am_mm U5)) R
        refine ev_br (P := r5 = 0) (σ1 := ((d + 1), 289, 146, [some (.inr (.inr 27)), some (.inr (.inr 2)), some (.inl x2), some (.inl x3), some (.inl x4), some (.inl x5), some (.inl x6), some (.inl x7)], [], (am_sh, am_mm U5))) (σ2 := ((d + 1), 289, 79, [some (.inr (.inr 27)), some (.inr (.inr 2)), some (.inl x2), some (.inl x3), some (.inl x4), some (.inl x5), some (.inl x6), some (.inl x7)], [], (am_sh, am_mm U5))) 1 (fun _ => rfl) (fun hc => ?_) (fun hc => ?_)
        · have h221aa1 := h221aa.1 hc
          refine ev_br (P := x4 = 0) (σ1 := ((d + 1), 289, 164, [some (.inr (.inr 27)), some (.inr (.inr 2)), some (.inl x2), some (.inl x3), some (.inl x4), some (.inl x5), some (.inl x6), some (.inl x7)], [], (am_sh, am_mm U5))) (σ2 := ((d + 1), 289, 151, [some (.inr (.inr 27)), some (.inr (.inr 2)), some (.inl x2), some (.inl x3), some (.inl x4), some (.inl x5), some (.inl x6), some (.inl x7)], [], (am_sh, am_mm U5))) 2 (fun _ => rfl) (fun hc => ?_) (fun hc => ?_)
          · have h221aa11 := h221aa1.1 hc
            refine ev_seg (σ1 := ((d + 1), 289, 169, [some (.inr (.inr 27)), some (.inr (.inr 2)), some (.inl x2), some (.inl x3), some (.inl x4), some (.inl x5), some (.inl x6), some (.inl x7)], [.inl x3, .inl x6, .inl 3, .inr (.inr 27)], (am_sh, am_mm U5))) 4 (fun _ => rfl) ?_
            obtain ⟨U6, h221aa11c, h221aa11a⟩ := h221aa11
            refine ev_cal (σc := (d, 248, 0, [some (.inr (.inr 27)), some (.inl 3), some (.inl x6), some (.inl x3)], [], (am_sh, am_mm U5))) (fun _ => rfl) h221aa11c ?_
            show Ev kz ((d + 1), 289, 172, [some (.inr (.inr 27)), some (.inr (.inr 2)), some (.inl x2), some (.inl x3), some (.inl x4), some (.inl x5), some (.inl x6), some (.inl x7)], [], (am_sh, am_mm U6)) R
            refine ev_seg (σ1 := ((d + 1), 289, 175, [some (.inr (.inr 27)), some (.inr (.inr 2)), some (.inl x2), some (.inl x3), some (.inl x4), some (.inl x5), some (.inl x6), some (.inl x7)], [.inl x7, .inr (.inr 27)], (am_sh, am_mm U6))) 2 (fun _ => rfl) ?_
            refine eu_puti 27 (n := 6) rfl (by decide) rfl rfl ?_
            subst h221aa11a
            exact ev_end 2 (fun _ => rfl)
          · have h221aa12 := h221aa1.2 hc
            refine ev_seg (σ1 := ((d + 1), 289, 158, [some (.inr (.inr 27)), some (.inr (.inr 2)), some (.inl x2), some (.inl x3), some (.inl x4), some (.inl x5), some (.inl x6), some (.inl x7)], [.inl x6, .inl x7, .inl x3, .inr (.inr 2), .inr (.inr 27)], (am_sh, am_mm U5))) 5 (fun _ => rfl) ?_
            obtain ⟨U7, h221aa12c, h221aa12a⟩ := h221aa12
            refine ev_cal (σc := (d, 317, 0, [some (.inr (.inr 27)), some (.inr (.inr 2)), some (.inl x3), some (.inl x7), some (.inl x6), none], [], (am_sh, am_mm U5))) (fun _ => rfl) h221aa12c ?_
            show Ev kz ((d + 1), 289, 161, [some (.inr (.inr 27)), some (.inr (.inr 2)), some (.inl x2), some (.inl x3), some (.inl x4), some (.inl x5), some (.inl x6), some (.inl x7)], [], (am_sh, am_mm U7)) R
            refine ev_seg (σ1 := ((d + 1), 289, 175, [some (.inr (.inr 27)), some (.inr (.inr 2)), some (.inl x2), some (.inl x3), some (.inl x4), some (.inl x5), some (.inl x6), some (.inl x7)], [.inl x7, .inr (.inr 27)], (am_sh, am_mm U7))) 3 (fun _ => rfl) ?_
            refine eu_puti 27 (n := 6) rfl (by decide) rfl rfl ?_
            subst h221aa12a
            exact ev_end 2 (fun _ => rfl)
        · have h221aa2 := h221aa.2 hc
          refine ev_br (P := ¬ (w32 (x7 - x3)) = x5) (σ1 := ((d + 1), 289, 97, [some (.inr (.inr 27)), some (.inr (.inr 2)), some (.inl x2), some (.inl x3), some (.inl x4), some (.inl x5), some (.inl x6), some (.inl x7)], [], (am_sh, am_mm U5))) (σ2 := ((d + 1), 289, 88, [some (.inr (.inr 27)), some (.inr (.inr 2)), some (.inl x2), some (.inl x3), some (.inl x4), some (.inl x5), some (.inl x6), some (.inl x7)], [], (am_sh, am_mm U5))) 5 (fun _ => rfl) (fun hc => ?_) (fun hc => ?_)
          · have h221aa21 := h221aa2.1 hc
            refine ev_br (P := x4 = 0) (σ1 := ((d + 1), 289, 125, [some (.inr (.inr 27)), some (.inr (.inr 2)), some (.inl x2), some (.inl x3), some (.inl x4), some (.inl x5), some (.inl x6), some (.inl x7)], [], (am_sh, am_mm U5))) (σ2 := ((d + 1), 289, 102, [some (.inr (.inr 27)), some (.inr (.inr 2)), some (.inl x2), some (.inl x3), some (.inl x4), some (.inl x5), some (.inl x6), some (.inl x7)], [], (am_sh, am_mm U5))) 2 (fun _ => rfl) (fun hc => ?_) (fun hc => ?_)
            · have h221aa211 := h221aa21.1 hc
              refine ev_seg (σ1 := ((d + 1), 289, 133, [some (.inr (.inr 27)), some (.inr (.inr 2)), some (.inl x2), some (.inl x3), some (.inl x4), some (.inl x5), some (.inl x6), some (.inl x7)], [.inl x7, .inr (.inr 2), .inl (w32 (10 * x6))], (am_sh, am_mm U5))) 5 (fun _ => rfl) ?_
              refine eu_iald 2 (n := 1600) rfl (by decide) rfl (fun _ => rfl) h221aa211.1 ?_
              have h221aa211a := h221aa211.2
              refine ev_seg (σ1 := ((d + 1), 289, 36, [some (.inr (.inr 27)), some (.inr (.inr 2)), some (.inl x2), some (.inl x3), some (.inl x4), some (.inl x5), some (.inl (w32 ((w32 ((w32 (10 * x6)) + (U5 2 x7.toNat))) - 48))), some (.inl (w32 (x7 + 1)))], [], (am_sh, am_mm U5))) 6 (fun _ => rfl) ?_
              exact h221aa211a
            · have h221aa212 := h221aa21.2 hc
              refine ev_seg (σ1 := ((d + 1), 289, 107, [some (.inr (.inr 27)), some (.inr (.inr 2)), some (.inl x2), some (.inl x3), some (.inl x4), some (.inl x5), some (.inl x6), some (.inl x7)], [.inl x7, .inr (.inr 2), .inl x6], (am_sh, am_mm U5))) 3 (fun _ => rfl) ?_
              refine eu_iald 2 (n := 1600) rfl (by decide) rfl (fun _ => rfl) h221aa212.1 ?_
              have h221aa212a := h221aa212.2
              refine ev_seg (σ1 := ((d + 1), 289, 36, [some (.inr (.inr 27)), some (.inr (.inr 2)), some (.inl x2), some (.inl x3), some (.inl x4), some (.inl x5), some (.inl (am_or x6 (am_shl (w32 ((U5 2 x7.toNat) - 96)) (w32 (25 - (w32 (5 * (w32 (x7 - x3))))))))), some (.inl (w32 (x7 + 1)))], [], (am_sh, am_mm U5))) 15 (fun _ => rfl) ?_
              exact h221aa212a
          · have h221aa22 := h221aa2.2 hc
            refine ev_seg (σ1 := ((d + 1), 289, 93, [some (.inr (.inr 27)), some (.inr (.inr 2)), some (.inl x2), some (.inl x3), some (.inl x4), some (.inl x5), some (.inl x6), some (.inl x7)], [.inl x2, .inl x7, .inl x3, .inr (.inr 27)], (am_sh, am_mm U5))) 4 (fun _ => rfl) ?_
            obtain ⟨r8, U8, h221aa22c, h221aa22a⟩ := h221aa22
            refine ev_cal (σc := (d, 291, 0, [some (.inr (.inr 27)), some (.inl x3), some (.inl x7), some (.inl x2)], [], (am_sh, am_mm U5))) (fun _ => rfl) h221aa22c ?_
            show Ev kz ((d + 1), 289, 96, [some (.inr (.inr 27)), some (.inr (.inr 2)), some (.inl x2), some (.inl x3), some (.inl x4), some (.inl x5), some (.inl x6), some (.inl x7)], [.inl r8], (am_sh, am_mm U8)) R
            subst h221aa22a
            exact ev_end 1 (fun _ => rfl)
      · have h222 := h22.2 hc
        refine ev_seg (σ1 := ((d + 1), 289, 59, [some (.inr (.inr 27)), some (.inr (.inr 2)), some (.inl x2), some (.inl x3), some (.inl x4), some (.inl x5), some (.inl x6), some (.inl x7)], [.inl x7, .inr (.inr 2)], (am_sh, am_mm U))) 2 (fun _ => rfl) ?_
        refine eu_iald 2 (n := 1600) rfl (by decide) rfl (fun _ => rfl) h222.1 ?_
        have h222a := h222.2
        obtain ⟨r9, U9, h222ac, h222aa⟩ := h222a
        refine ev_cal (σc := (d, 287, 0, [some (.inl (U 2 x7.toNat))], [], (am_sh, am_mm U))) (fun _ => rfl) h222ac ?_
        show Ev kz ((d + 1), 289, 63, [some (.inr (.inr 27)), some (.inr (.inr 2)), some (.inl x2), some (.inl x3), some (.inl x4), some (.inl x5), some (.inl x6), some (.inl x7)], [.inl r9], (am_sh, am_mm U9)) R
        refine ev_br (P := r9 = 0) (σ1 := ((d + 1), 289, 146, [some (.inr (.inr 27)), some (.inr (.inr 2)), some (.inl x2), some (.inl x3), some (.inl x4), some (.inl x5), some (.inl x6), some (.inl x7)], [], (am_sh, am_mm U9))) (σ2 := ((d + 1), 289, 66, [some (.inr (.inr 27)), some (.inr (.inr 2)), some (.inl x2), some (.inl x3), some (.inl x4), some (.inl x5), some (.inl x6), some (.inl x7)], [], (am_sh, am_mm U9))) 1 (fun _ => rfl) (fun hc => ?_) (fun hc => ?_)
        · have h222aa1 := h222aa.1 hc
          refine ev_br (P := x4 = 0) (σ1 := ((d + 1), 289, 164, [some (.inr (.inr 27)), some (.inr (.inr 2)), some (.inl x2), some (.inl x3), some (.inl x4), some (.inl x5), some (.inl x6), some (.inl x7)], [], (am_sh, am_mm U9))) (σ2 := ((d + 1), 289, 151, [some (.inr (.inr 27)), some (.inr (.inr 2)), some (.inl x2), some (.inl x3), some (.inl x4), some (.inl x5), some (.inl x6), some (.inl x7)], [], (am_sh, am_mm U9))) 2 (fun _ => rfl) (fun hc => ?_) (fun hc => ?_)
          · have h222aa11 := h222aa1.1 hc
            refine ev_seg (σ1 := ((d + 1), 289, 169, [some (.inr (.inr 27)), some (.inr (.inr 2)), some (.inl x2), some (.inl x3), some (.inl x4), some (.inl x5), some (.inl x6), some (.inl x7)], [.inl x3, .inl x6, .inl 3, .inr (.inr 27)], (am_sh, am_mm U9))) 4 (fun _ => rfl) ?_
            obtain ⟨U10, h222aa11c, h222aa11a⟩ := h222aa11
            refine ev_cal (σc := (d, 248, 0, [some (.inr (.inr 27)), some (.inl 3), some (.inl x6), some (.inl x3)], [], (am_sh, am_mm U9))) (fun _ => rfl) h222aa11c ?_
            show Ev kz ((d + 1), 289, 172, [some (.inr (.inr 27)), some (.inr (.inr 2)), some (.inl x2), some (.inl x3), some (.inl x4), some (.inl x5), some (.inl x6), some (.inl x7)], [], (am_sh, am_mm U10)) R
            refine ev_seg (σ1 := ((d + 1), 289, 175, [some (.inr (.inr 27)), some (.inr (.inr 2)), some (.inl x2), some (.inl x3), some (.inl x4), some (.inl x5), some (.inl x6), some (.inl x7)], [.inl x7, .inr (.inr 27)], (am_sh, am_mm U10))) 2 (fun _ => rfl) ?_
            refine eu_puti 27 (n := 6) rfl (by decide) rfl rfl ?_
            subst h222aa11a
            exact ev_end 2 (fun _ => rfl)
          · have h222aa12 := h222aa1.2 hc
            refine ev_seg (σ1 := ((d + 1), 289, 158, [some (.inr (.inr 27)), some (.inr (.inr 2)), some (.inl x2), some (.inl x3), some (.inl x4), some (.inl x5), some (.inl x6), some (.inl x7)], [.inl x6, .inl x7, .inl x3, .inr (.inr 2), .inr (.inr 27)], (am_sh, am_mm U9))) 5 (fun _ => rfl) ?_
            obtain ⟨U11, h222aa12c, h222aa12a⟩ := h222aa12
            refine ev_cal (σc := (d, 317, 0, [some (.inr (.inr 27)), some (.inr (.inr 2)), some (.inl x3), some (.inl x7), some (.inl x6), none], [], (am_sh, am_mm U9))) (fun _ => rfl) h222aa12c ?_
            show Ev kz ((d + 1), 289, 161, [some (.inr (.inr 27)), some (.inr (.inr 2)), some (.inl x2), some (.inl x3), some (.inl x4), some (.inl x5), some (.inl x6), some (.inl x7)], [], (am_sh, am_mm U11)) R
            refine ev_seg (σ1 := ((d + 1), 289, 175, [some (.inr (.inr 27)), some (.inr (.inr 2)), some (.inl x2), some (.inl x3), some (.inl x4), some (.inl x5), some (.inl x6), some (.inl x7)], [.inl x7, .inr (.inr 27)], (am_sh, am_mm U11))) 3 (fun _ => rfl) ?_
            refine eu_puti 27 (n := 6) rfl (by decide) rfl rfl ?_
            subst h222aa12a
            exact ev_end 2 (fun _ => rfl)
        · have h222aa2 := h222aa.2 hc
          refine ev_br (P := ¬ (w32 (x7 - x3)) = x5) (σ1 := ((d + 1), 289, 97, [some (.inr (.inr 27)), some (.inr (.inr 2)), some (.inl x2), some (.inl x3), some (.inl x4), some (.inl x5), some (.inl x6), some (.inl x7)], [], (am_sh, am_mm U9))) (σ2 := ((d + 1), 289, 88, [some (.inr (.inr 27)), some (.inr (.inr 2)), some (.inl x2), some (.inl x3), some (.inl x4), some (.inl x5), some (.inl x6), some (.inl x7)], [], (am_sh, am_mm U9))) 6 (fun _ => rfl) (fun hc => ?_) (fun hc => ?_)
          · have h222aa21 := h222aa2.1 hc
            refine ev_br (P := x4 = 0) (σ1 := ((d + 1), 289, 125, [some (.inr (.inr 27)), some (.inr (.inr 2)), some (.inl x2), some (.inl x3), some (.inl x4), some (.inl x5), some (.inl x6), some (.inl x7)], [], (am_sh, am_mm U9))) (σ2 := ((d + 1), 289, 102, [some (.inr (.inr 27)), some (.inr (.inr 2)), some (.inl x2), some (.inl x3), some (.inl x4), some (.inl x5), some (.inl x6), some (.inl x7)], [], (am_sh, am_mm U9))) 2 (fun _ => rfl) (fun hc => ?_) (fun hc => ?_)
            · have h222aa211 := h222aa21.1 hc
              refine ev_seg (σ1 := ((d + 1), 289, 133, [some (.inr (.inr 27)), some (.inr (.inr 2)), some (.inl x2), some (.inl x3), some (.inl x4), some (.inl x5), some (.inl x6), some (.inl x7)], [.inl x7, .inr (.inr 2), .inl (w32 (10 * x6))], (am_sh, am_mm U9))) 5 (fun _ => rfl) ?_
              refine eu_iald 2 (n := 1600) rfl (by decide) rfl (fun _ => rfl) h222aa211.1 ?_
              have h222aa211a := h222aa211.2
              refine ev_seg (σ1 := ((d + 1), 289, 36, [some (.inr (.inr 27)), some (.inr (.inr 2)), some (.inl x2), some (.inl x3), some (.inl x4), some (.inl x5), some (.inl (w32 ((w32 ((w32 (10 * x6)) + (U9 2 x7.toNat))) - 48))), some (.inl (w32 (x7 + 1)))], [], (am_sh, am_mm U9))) 6 (fun _ => rfl) ?_
              exact h222aa211a
            · have h222aa212 := h222aa21.2 hc
              refine ev_seg (σ1 := ((d + 1), 289, 107, [some (.inr (.inr 27)), some (.inr (.inr 2)), some (.inl x2), some (.inl x3), some (.inl x4), some (.inl x5), some (.inl x6), some (.inl x7)], [.inl x7, .inr (.inr 2), .inl x6], (am_sh, am_mm U9))) 3 (fun _ => rfl) ?_
              refine eu_iald 2 (n := 1600) rfl (by decide) rfl (fun _ => rfl) h222aa212.1 ?_
              have h222aa212a := h222aa212.2
              refine ev_seg (σ1 := ((d + 1), 289, 36, [some (.inr (.inr 27)), some (.inr (.inr 2)), some (.inl x2), some (.inl x3), some (.inl x4), some (.inl x5), some (.inl (am_or x6 (am_shl (w32 ((U9 2 x7.toNat) - 96)) (w32 (25 - (w32 (5 * (w32 (x7 - x3))))))))), some (.inl (w32 (x7 + 1)))], [], (am_sh, am_mm U9))) 15 (fun _ => rfl) ?_
              exact h222aa212a
          · have h222aa22 := h222aa2.2 hc
            refine ev_seg (σ1 := ((d + 1), 289, 93, [some (.inr (.inr 27)), some (.inr (.inr 2)), some (.inl x2), some (.inl x3), some (.inl x4), some (.inl x5), some (.inl x6), some (.inl x7)], [.inl x2, .inl x7, .inl x3, .inr (.inr 27)], (am_sh, am_mm U9))) 4 (fun _ => rfl) ?_
            obtain ⟨r12, U12, h222aa22c, h222aa22a⟩ := h222aa22
            refine ev_cal (σc := (d, 291, 0, [some (.inr (.inr 27)), some (.inl x3), some (.inl x7), some (.inl x2)], [], (am_sh, am_mm U9))) (fun _ => rfl) h222aa22c ?_
            show Ev kz ((d + 1), 289, 96, [some (.inr (.inr 27)), some (.inr (.inr 2)), some (.inl x2), some (.inl x3), some (.inl x4), some (.inl x5), some (.inl x6), some (.inl x7)], [.inl r12], (am_sh, am_mm U12)) R
            subst h222aa22a
            exact ev_end 1 (fun _ => rfl)
set_option maxRecDepth 8000 in
theorem st288_0 (kz : am_Z) (d : Nat) (x0 : Int) (U : Nat → Nat → Int) (R : Option am_V × am_M) (h : (((x0 < 48 : Prop)) → R = (some (.inl 0), (am_sh, am_mm U))) ∧ (¬ (x0 < 48) → (((57 < x0 : Prop)) → R = (some (.inl 0), (am_sh, am_mm U))) ∧ (¬ (57 < x0) → R = (some (.inl 1), (am_sh, am_mm U))))) : Ev kz (d, 288, 0, [some (.inl x0)], [], (am_sh, am_mm U)) R := by
  refine ev_br (P := x0 < 48) (σ1 := (d, 288, 16, [some (.inl x0)], [], (am_sh, am_mm U))) (σ2 := (d, 288, 6, [some (.inl x0)], [], (am_sh, am_mm U))) 3 (fun _ => rfl) (fun hc => ?_) (fun hc => ?_)
  · have h1 := h.1 hc
    subst h1
    exact ev_end 2 (fun _ => rfl)
  · have h2 := h.2 hc
    refine ev_br (P := 57 < x0) (σ1 := (d, 288, 16, [some (.inl x0)], [], (am_sh, am_mm U))) (σ2 := (d, 288, 12, [some (.inl x0)], [], (am_sh, am_mm U))) 3 (fun _ => rfl) (fun hc => ?_) (fun hc => ?_)
    · have h21 := h2.1 hc
      subst h21
      exact ev_end 2 (fun _ => rfl)
    · have h22 := h2.2 hc
      subst h22
      exact ev_end 3 (fun _ => rfl)
set_option maxRecDepth 8000 in
theorem st287_0 (kz : am_Z) (d : Nat) (x0 : Int) (U : Nat → Nat → Int) (R : Option am_V × am_M) (h : (((x0 < 97 : Prop)) → R = (some (.inl 0), (am_sh, am_mm U))) ∧ (¬ (x0 < 97) → (((122 < x0 : Prop)) → R = (some (.inl 0), (am_sh, am_mm U))) ∧ (¬ (122 < x0) → R = (some (.inl 1), (am_sh, am_mm U))))) : Ev kz (d, 287, 0, [some (.inl x0)], [], (am_sh, am_mm U)) R := by
  refine ev_br (P := x0 < 97) (σ1 := (d, 287, 16, [some (.inl x0)], [], (am_sh, am_mm U))) (σ2 := (d, 287, 6, [some (.inl x0)], [], (am_sh, am_mm U))) 3 (fun _ => rfl) (fun hc => ?_) (fun hc => ?_)
  · have h1 := h.1 hc
    subst h1
    exact ev_end 2 (fun _ => rfl)
  · have h2 := h.2 hc
    refine ev_br (P := 122 < x0) (σ1 := (d, 287, 16, [some (.inl x0)], [], (am_sh, am_mm U))) (σ2 := (d, 287, 12, [some (.inl x0)], [], (am_sh, am_mm U))) 3 (fun _ => rfl) (fun hc => ?_) (fun hc => ?_)
    · have h21 := h2.1 hc
      subst h21
      exact ev_end 2 (fun _ => rfl)
    · have h22 := h2.2 hc
      subst h22
      exact ev_end 3 (fun _ => rfl)
set_option maxRecDepth 8000 in
theorem st291_27_0 (kz : am_Z) (d : Nat) (x1 x2 x3 : Int) (U : Nat → Nat → Int) (R : Option am_V × am_M) (h : ∃ U1 : Nat → Nat → Int, Ev kz (d, 248, 0, [some (.inr (.inr 27)), some (.inl 5), some (.inl 0), some (.inl x1)], [], (am_sh, am_mm U)) (none, (am_sh, am_mm U1)) ∧ R = (some (.inl x3), (am_sh, am_mm (am_upd U1 27 4 x2)))) : Ev kz ((d + 1), 291, 0, [some (.inr (.inr 27)), some (.inl x1), some (.inl x2), some (.inl x3)], [], (am_sh, am_mm U)) R := by
  refine ev_seg (σ1 := ((d + 1), 291, 4, [some (.inr (.inr 27)), some (.inl x1), some (.inl x2), some (.inl x3)], [.inl x1, .inl 0, .inl 5, .inr (.inr 27)], (am_sh, am_mm U))) 4 (fun _ => rfl) ?_
  obtain ⟨U1, hc, ha⟩ := h
  refine ev_cal (σc := (d, 248, 0, [some (.inr (.inr 27)), some (.inl 5), some (.inl 0), some (.inl x1)], [], (am_sh, am_mm U))) (fun _ => rfl) hc ?_
  show Ev kz ((d + 1), 291, 7, [some (.inr (.inr 27)), some (.inl x1), some (.inl x2), some (.inl x3)], [], (am_sh, am_mm U1)) R
  refine ev_seg (σ1 := ((d + 1), 291, 9, [some (.inr (.inr 27)), some (.inl x1), some (.inl x2), some (.inl x3)], [.inl x2, .inr (.inr 27)], (am_sh, am_mm U1))) 2 (fun _ => rfl) ?_
  refine eu_puti 27 (n := 6) rfl (by decide) rfl rfl ?_
  subst ha
  exact ev_end 2 (fun _ => rfl)
set_option maxRecDepth 8000 in
theorem st307_86_0 (kz : am_Z) (d : Nat) (x1 x2 : Int) (U : Nat → Nat → Int) (R : Option am_V × am_M) (h : Ev kz ((d + 1), 307, 3, [some (.inr (.inr 86)), some (.inl x1), some (.inr (.inl x2)), none, some (.inl 0)], [], (am_sh, am_mm U)) R) : Ev kz ((d + 1), 307, 0, [some (.inr (.inr 86)), some (.inl x1), some (.inr (.inl x2)), none, none], [], (am_sh, am_mm U)) R := by
  refine ev_seg (σ1 := ((d + 1), 307, 3, [some (.inr (.inr 86)), some (.inl x1), some (.inr (.inl x2)), none, some (.inl 0)], [], (am_sh, am_mm U))) 2 (fun _ => rfl) ?_
  exact h
set_option maxRecDepth 8000 in
theorem st307_86_3 (kz : am_Z) (d : Nat) (x1 x2 x4 : Int) (U : Nat → Nat → Int) (R : Option am_V × am_M) (h : ∃ (r1 : Int) (U1 : Nat → Nat → Int), Ev kz (d, 104, 0, [some (.inr (.inr 86)), some (.inl (U 86 40)), some (.inl x1)], [], (am_sh, am_mm U)) (some (.inl r1), (am_sh, am_mm U1)) ∧ (((r1 ≤ x4 : Prop)) → R = (some (.inl (-1)), (am_sh, am_mm U1))) ∧ (¬ (r1 ≤ x4) → ∃ (r2 : Int) (U2 : Nat → Nat → Int), Ev kz (d, 105, 0, [some (.inr (.inr 86)), some (.inl (U1 86 40)), some (.inl x1), some (.inl x4)], [], (am_sh, am_mm U1)) (some (.inr (.inl r2)), (am_sh, am_mm U2)) ∧ (((¬ (am_lcmp r2 x2) = 0 : Prop)) → Ev kz ((d + 1), 307, 3, [some (.inr (.inr 86)), some (.inl x1), some (.inr (.inl x2)), none, some (.inl (w32 (x4 + 1)))], [], (am_sh, am_mm U2)) R) ∧ (¬ (¬ (am_lcmp r2 x2) = 0) → R = (some (.inl x4), (am_sh, am_mm U2))))) : Ev kz ((d + 1), 307, 3, [some (.inr (.inr 86)), some (.inl x1), some (.inr (.inl x2)), none, some (.inl x4)], [], (am_sh, am_mm U)) R := by
  refine ev_seg (σ1 := ((d + 1), 307, 11, [some (.inr (.inr 86)), some (.inl x1), some (.inr (.inl x2)), none, some (.inl x4)], [.inl x1, .inl (U 86 40), .inr (.inr 86), .inl x4], (am_sh, am_mm U))) 5 (fun _ => rfl) ?_
  obtain ⟨r1, U1, hc, ha⟩ := h
  refine ev_cal (σc := (d, 104, 0, [some (.inr (.inr 86)), some (.inl (U 86 40)), some (.inl x1)], [], (am_sh, am_mm U))) (fun _ => rfl) hc ?_
  show Ev kz ((d + 1), 307, 14, [some (.inr (.inr 86)), some (.inl x1), some (.inr (.inl x2)), none, some (.inl x4)], [.inl r1, .inl x4], (am_sh, am_mm U1)) R
  refine ev_br (P := r1 ≤ x4) (σ1 := ((d + 1), 307, 42, [some (.inr (.inr 86)), some (.inl x1), some (.inr (.inl x2)), none, some (.inl x4)], [], (am_sh, am_mm U1))) (σ2 := ((d + 1), 307, 17, [some (.inr (.inr 86)), some (.inl x1), some (.inr (.inl x2)), none, some (.inl x4)], [], (am_sh, am_mm U1))) 1 (fun _ => rfl) (fun hc => ?_) (fun hc => ?_)
  · have ha1 := ha.1 hc
    subst ha1
    exact ev_end 2 (fun _ => rfl)
  · have ha2 := ha.2 hc
    refine ev_seg (σ1 := ((d + 1), 307, 25, [some (.inr (.inr 86)), some (.inl x1), some (.inr (.inl x2)), none, some (.inl x4)], [.inl x4, .inl x1, .inl (U1 86 40), .inr (.inr 86)], (am_sh, am_mm U1))) 5 (fun _ => rfl) ?_
    obtain ⟨r2, U2, ha2c, ha2a⟩ := ha2
    refine ev_cal (σc := (d, 105, 0, [some (.inr (.inr 86)), some (.inl (U1 86 40)), some (.inl x1), some (.inl x4)], [], (am_sh, am_mm U1))) (fun _ => rfl) ha2c ?_
    show Ev kz ((d + 1), 307, 28, [some (.inr (.inr 86)), some (.inl x1), some (.inr (.inl x2)), none, some (.inl x4)], [.inr (.inl r2)], (am_sh, am_mm U2)) R
    refine ev_br (P := ¬ (am_lcmp r2 x2) = 0) (σ1 := ((d + 1), 307, 36, [some (.inr (.inr 86)), some (.inl x1), some (.inr (.inl x2)), none, some (.inl x4)], [], (am_sh, am_mm U2))) (σ2 := ((d + 1), 307, 33, [some (.inr (.inr 86)), some (.inl x1), some (.inr (.inl x2)), none, some (.inl x4)], [], (am_sh, am_mm U2))) 3 (fun _ => rfl) (fun hc => ?_) (fun hc => ?_)
    · have ha2a1 := ha2a.1 hc
      refine ev_seg (σ1 := ((d + 1), 307, 3, [some (.inr (.inr 86)), some (.inl x1), some (.inr (.inl x2)), none, some (.inl (w32 (x4 + 1)))], [], (am_sh, am_mm U2))) 2 (fun _ => rfl) ?_
      exact ha2a1
    · have ha2a2 := ha2a.2 hc
      subst ha2a2
      exact ev_end 2 (fun _ => rfl)
set_option maxRecDepth 8000 in
theorem st306_86_0 (kz : am_Z) (d : Nat) (x1 : Int) (U : Nat → Nat → Int) (R : Option am_V × am_M) (h : ((((am_lcmp x1 126943972648308) = 0 : Prop)) → Ev kz (d, 306, 40, [some (.inr (.inr 86)), some (.inr (.inl x1)), none], [], (am_sh, am_mm U)) R) ∧ (¬ ((am_lcmp x1 126943972648308) = 0) → ((((am_lcmp x1 448546567013) = 0 : Prop)) → Ev kz (d, 306, 40, [some (.inr (.inr 86)), some (.inr (.inl x1)), none], [], (am_sh, am_mm U)) R) ∧ (¬ ((am_lcmp x1 448546567013) = 0) → ((((am_lcmp x1 28518) = 0 : Prop)) → Ev kz (d, 306, 40, [some (.inr (.inr 86)), some (.inr (.inl x1)), none], [], (am_sh, am_mm U)) R) ∧ (¬ ((am_lcmp x1 28518) = 0) → ((((am_lcmp x1 491495845235) = 0 : Prop)) → Ev kz (d, 306, 40, [some (.inr (.inr 86)), some (.inr (.inl x1)), none], [], (am_sh, am_mm U)) R) ∧ (¬ ((am_lcmp x1 491495845235) = 0) → (((¬ (am_lcmp x1 1818324581) = 0 : Prop)) → ((((am_lcmp x1 121450625394034) = 0 : Prop)) → Ev kz (d, 306, 82, [some (.inr (.inr 86)), some (.inr (.inl x1)), none], [], (am_sh, am_mm U)) R) ∧ (¬ ((am_lcmp x1 121450625394034) = 0) → ((((am_lcmp x1 26990) = 0 : Prop)) → Ev kz (d, 306, 82, [some (.inr (.inr 86)), some (.inr (.inl x1)), none], [], (am_sh, am_mm U)) R) ∧ (¬ ((am_lcmp x1 26990) = 0) → ((((am_lcmp x1 7102839) = 0 : Prop)) → Ev kz (d, 306, 82, [some (.inr (.inr 86)), some (.inr (.inl x1)), none], [], (am_sh, am_mm U)) R) ∧ (¬ ((am_lcmp x1 7102839) = 0) → ((((am_lcmp x1 1700881256) = 0 : Prop)) → Ev kz (d, 306, 82, [some (.inr (.inr 86)), some (.inr (.inl x1)), none], [], (am_sh, am_mm U)) R) ∧ (¬ ((am_lcmp x1 1700881256) = 0) → (((¬ (am_lcmp x1 108187867505765) = 0 : Prop)) → ((((am_lcmp x1 131294808271214) = 0 : Prop)) → Ev kz (d, 306, 124, [some (.inr (.inr 86)), some (.inr (.inl x1)), none], [], (am_sh, am_mm U)) R) ∧ (¬ ((am_lcmp x1 131294808271214) = 0) → ((((am_lcmp x1 7824740) = 0 : Prop)) → Ev kz (d, 306, 124, [some (.inr (.inr 86)), some (.inr (.inl x1)), none], [], (am_sh, am_mm U)) R) ∧ (¬ ((am_lcmp x1 7824740) = 0) → ((((am_lcmp x1 1870095731) = 0 : Prop)) → Ev kz (d, 306, 124, [some (.inr (.inr 86)), some (.inr (.inl x1)), none], [], (am_sh, am_mm U)) R) ∧ (¬ ((am_lcmp x1 1870095731) = 0) → ((((am_lcmp x1 1718186597) = 0 : Prop)) → Ev kz (d, 306, 124, [some (.inr (.inr 86)), some (.inr (.inl x1)), none], [], (am_sh, am_mm U)) R) ∧ (¬ ((am_lcmp x1 1718186597) = 0) → (((¬ (am_lcmp x1 28005) = 0 : Prop)) → ((((am_lcmp x1 478694368626) = 0 : Prop)) → Ev kz (d, 306, 166, [some (.inr (.inr 86)), some (.inr (.inl x1)), none], [], (am_sh, am_mm U)) R) ∧ (¬ ((am_lcmp x1 478694368626) = 0) → ((((am_lcmp x1 1835101817) = 0 : Prop)) → Ev kz (d, 306, 166, [some (.inr (.inr 86)), some (.inr (.inl x1)), none], [], (am_sh, am_mm U)) R) ∧ (¬ ((am_lcmp x1 1835101817) = 0) → ((((am_lcmp x1 126931137819237) = 0 : Prop)) → Ev kz (d, 306, 166, [some (.inr (.inr 86)), some (.inr (.inl x1)), none], [], (am_sh, am_mm U)) R) ∧ (¬ ((am_lcmp x1 126931137819237) = 0) → ((((am_lcmp x1 482955849061) = 0 : Prop)) → Ev kz (d, 306, 166, [some (.inr (.inr 86)), some (.inr (.inl x1)), none], [], (am_sh, am_mm U)) R) ∧ (¬ ((am_lcmp x1 482955849061) = 0) → (((¬ (am_lcmp x1 28530) = 0 : Prop)) → ((((am_lcmp x1 6385252) = 0 : Prop)) → Ev kz (d, 306, 208, [some (.inr (.inr 86)), some (.inr (.inl x1)), none], [], (am_sh, am_mm U)) R) ∧ (¬ ((am_lcmp x1 6385252) = 0) → ((((am_lcmp x1 7237492) = 0 : Prop)) → Ev kz (d, 306, 208, [some (.inr (.inr 86)), some (.inr (.inl x1)), none], [], (am_sh, am_mm U)) R) ∧ (¬ ((am_lcmp x1 7237492) = 0) → ((((am_lcmp x1 6384748) = 0 : Prop)) → Ev kz (d, 306, 208, [some (.inr (.inr 86)), some (.inr (.inl x1)), none], [], (am_sh, am_mm U)) R) ∧ (¬ ((am_lcmp x1 6384748) = 0) → ((((am_lcmp x1 7170414) = 0 : Prop)) → Ev kz (d, 306, 208, [some (.inr (.inr 86)), some (.inr (.inl x1)), none], [], (am_sh, am_mm U)) R) ∧ (¬ ((am_lcmp x1 7170414) = 0) → (((¬ (am_lcmp x1 7168376) = 0 : Prop)) → (((¬ (am_lcmp x1 6775652) = 0 : Prop)) → R = (some (.inl 0), (am_sh, am_mm U))) ∧ (¬ (¬ (am_lcmp x1 6775652) = 0) → R = (some (.inl 1), (am_sh, am_mm U)))) ∧ (¬ (¬ (am_lcmp x1 7168376) = 0) → Ev kz (d, 306, 208, [some (.inr (.inr 86)), some (.inr (.inl x1)), none], [], (am_sh, am_mm U)) R)))))) ∧ (¬ (¬ (am_lcmp x1 28530) = 0) → Ev kz (d, 306, 166, [some (.inr (.inr 86)), some (.inr (.inl x1)), none], [], (am_sh, am_mm U)) R)))))) ∧ (¬ (¬ (am_lcmp x1 28005) = 0) → Ev kz (d, 306, 124, [some (.inr (.inr 86)), some (.inr (.inl x1)), none], [], (am_sh, am_mm U)) R)))))) ∧ (¬ (¬ (am_lcmp x1 108187867505765) = 0) → Ev kz (d, 306, 82, [some (.inr (.inr 86)), some (.inr (.inl x1)), none], [], (am_sh, am_mm U)) R)))))) ∧ (¬ (¬ (am_lcmp x1 1818324581) = 0) → Ev kz (d, 306, 40, [some (.inr (.inr 86)), some (.inr (.inl x1)), none], [], (am_sh, am_mm U)) R)))))) : Ev kz (d, 306, 0, [some (.inr (.inr 86)), some (.inr (.inl x1)), none], [], (am_sh, am_mm U)) R := by
  refine ev_br (P := (am_lcmp x1 126943972648308) = 0) (σ1 := (d, 306, 40, [some (.inr (.inr 86)), some (.inr (.inl x1)), none], [], (am_sh, am_mm U))) (σ2 := (d, 306, 8, [some (.inr (.inr 86)), some (.inr (.inl x1)), none], [], (am_sh, am_mm U))) 4 (fun _ => rfl) (fun hc => ?_) (fun hc => ?_)
  · have h1 := h.1 hc
    exact h1
  · have h2 := h.2 hc
    refine ev_br (P := (am_lcmp x1 448546567013) = 0) (σ1 := (d, 306, 40, [some (.inr (.inr 86)), some (.inr (.inl x1)), none], [], (am_sh, am_mm U))) (σ2 := (d, 306, 16, [some (.inr (.inr 86)), some (.inr (.inl x1)), none], [], (am_sh, am_mm U))) 4 (fun _ => rfl) (fun hc => ?_) (fun hc => ?_)
    · have h21 := h2.1 hc
      exact h21
    · have h22 := h2.2 hc
      refine ev_br (P := (am_lcmp x1 28518) = 0) (σ1 := (d, 306, 40, [some (.inr (.inr 86)), some (.inr (.inl x1)), none], [], (am_sh, am_mm U))) (σ2 := (d, 306, 24, [some (.inr (.inr 86)), some (.inr (.inl x1)), none], [], (am_sh, am_mm U))) 4 (fun _ => rfl) (fun hc => ?_) (fun hc => ?_)
      · have h221 := h22.1 hc
        exact h221
      · have h222 := h22.2 hc
        refine ev_br (P := (am_lcmp x1 491495845235) = 0) (σ1 := (d, 306, 40, [some (.inr (.inr 86)), some (.inr (.inl x1)), none], [], (am_sh, am_mm U))) (σ2 := (d, 306, 32, [some (.inr (.inr 86)), some (.inr (.inl x1)), none], [], (am_sh, am_mm U))) 4 (fun _ => rfl) (fun hc => ?_) (fun hc => ?_)
        · have h2221 := h222.1 hc
          exact h2221
        · have h2222 := h222.2 hc
          refine ev_br (P := ¬ (am_lcmp x1 1818324581) = 0) (σ1 := (d, 306, 42, [some (.inr (.inr 86)), some (.inr (.inl x1)), none], [], (am_sh, am_mm U))) (σ2 := (d, 306, 40, [some (.inr (.inr 86)), some (.inr (.inl x1)), none], [], (am_sh, am_mm U))) 4 (fun _ => rfl) (fun hc => ?_) (fun hc => ?_)
          · have h22221 := h2222.1 hc
            refine ev_br (P := (am_lcmp x1 121450625394034) = 0) (σ1 := (d, 306, 82, [some (.inr (.inr 86)), some (.inr (.inl x1)), none], [], (am_sh, am_mm U))) (σ2 := (d, 306, 50, [some (.inr (.inr 86)), some (.inr (.inl x1)), none], [], (am_sh, am_mm U))) 4 (fun _ => rfl) (fun hc => ?_) (fun hc => ?_)
            · have h222211 := h22221.1 hc
              exact h222211
            · have h222212 := h22221.2 hc
              refine ev_br (P := (am_lcmp x1 26990) = 0) (σ1 := (d, 306, 82, [some (.inr (.inr 86)), some (.inr (.inl x1)), none], [], (am_sh, am_mm U))) (σ2 := (d, 306, 58, [some (.inr (.inr 86)), some (.inr (.inl x1)), none], [], (am_sh, am_mm U))) 4 (fun _ => rfl) (fun hc => ?_) (fun hc => ?_)
              · have h2222121 := h222212.1 hc
                exact h2222121
              · have h2222122 := h222212.2 hc
                refine ev_br (P := (am_lcmp x1 7102839) = 0) (σ1 := (d, 306, 82, [some (.inr (.inr 86)), some (.inr (.inl x1)), none], [], (am_sh, am_mm U))) (σ2 := (d, 306, 66, [some (.inr (.inr 86)), some (.inr (.inl x1)), none], [], (am_sh, am_mm U))) 4 (fun _ => rfl) (fun hc => ?_) (fun hc => ?_)
                · have h22221221 := h2222122.1 hc
                  exact h22221221
                · have h22221222 := h2222122.2 hc
                  refine ev_br (P := (am_lcmp x1 1700881256) = 0) (σ1 := (d, 306, 82, [some (.inr (.inr 86)), some (.inr (.inl x1)), none], [], (am_sh, am_mm U))) (σ2 := (d, 306, 74, [some (.inr (.inr 86)), some (.inr (.inl x1)), none], [], (am_sh, am_mm U))) 4 (fun _ => rfl) (fun hc => ?_) (fun hc => ?_)
                  · have h222212221 := h22221222.1 hc
                    exact h222212221
                  · have h222212222 := h22221222.2 hc
                    refine ev_br (P := ¬ (am_lcmp x1 108187867505765) = 0) (σ1 := (d, 306, 84, [some (.inr (.inr 86)), some (.inr (.inl x1)), none], [], (am_sh, am_mm U))) (σ2 := (d, 306, 82, [some (.inr (.inr 86)), some (.inr (.inl x1)), none], [], (am_sh, am_mm U))) 4 (fun _ => rfl) (fun hc => ?_) (fun hc => ?_)
                    · have h2222122221 := h222212222.1 hc
                      refine ev_br (P := (am_lcmp x1 131294808271214) = 0) (σ1 := (d, 306, 124, [some (.inr (.inr 86)), some (.inr (.inl x1)), none], [], (am_sh, am_mm U))) (σ2 := (d, 306, 92, [some (.inr (.inr 86)), some (.inr (.inl x1)), none], [], (am_sh, am_mm U))) 4 (fun _ => rfl) (fun hc => ?_) (fun hc => ?_)
                      · have h22221222211 := h2222122221.1 hc
                        exact h22221222211
                      · have h22221222212 := h2222122221.2 hc
                        refine ev_br (P := (am_lcmp x1 7824740) = 0) (σ1 := (d, 306, 124, [some (.inr (.inr 86)), some (.inr (.inl x1)), none], [], (am_sh, am_mm U))) (σ2 := (d, 306, 100, [some (.inr (.inr 86)), some (.inr (.inl x1)), none], [], (am_sh, am_mm U))) 4 (fun _ => rfl) (fun hc => ?_) (fun hc => ?_)
                        · have h222212222121 := h22221222212.1 hc
                          exact h222212222121
                        · have h222212222122 := h22221222212.2 hc
                          refine ev_br (P := (am_lcmp x1 1870095731) = 0) (σ1 := (d, 306, 124, [some (.inr (.inr 86)), some (.inr (.inl x1)), none], [], (am_sh, am_mm U))) (σ2 := (d, 306, 108, [some (.inr (.inr 86)), some (.inr (.inl x1)), none], [], (am_sh, am_mm U))) 4 (fun _ => rfl) (fun hc => ?_) (fun hc => ?_)
                          · have h2222122221221 := h222212222122.1 hc
                            exact h2222122221221
                          · have h2222122221222 := h222212222122.2 hc
                            refine ev_br (P := (am_lcmp x1 1718186597) = 0) (σ1 := (d, 306, 124, [some (.inr (.inr 86)), some (.inr (.inl x1)), none], [], (am_sh, am_mm U))) (σ2 := (d, 306, 116, [some (.inr (.inr 86)), some (.inr (.inl x1)), none], [], (am_sh, am_mm U))) 4 (fun _ => rfl) (fun hc => ?_) (fun hc => ?_)
                            · have h22221222212221 := h2222122221222.1 hc
                              exact h22221222212221
                            · have h22221222212222 := h2222122221222.2 hc
                              refine ev_br (P := ¬ (am_lcmp x1 28005) = 0) (σ1 := (d, 306, 126, [some (.inr (.inr 86)), some (.inr (.inl x1)), none], [], (am_sh, am_mm U))) (σ2 := (d, 306, 124, [some (.inr (.inr 86)), some (.inr (.inl x1)), none], [], (am_sh, am_mm U))) 4 (fun _ => rfl) (fun hc => ?_) (fun hc => ?_)
                              · have h222212222122221 := h22221222212222.1 hc
                                refine ev_br (P := (am_lcmp x1 478694368626) = 0) (σ1 := (d, 306, 166, [some (.inr (.inr 86)), some (.inr (.inl x1)), none], [], (am_sh, am_mm U))) (σ2 := (d, 306, 134, [some (.inr (.inr 86)), some (.inr (.inl x1)), none], [], (am_sh, am_mm U))) 4 (fun _ => rfl) (fun hc => ?_) (fun hc => ?_)
                                · have h2222122221222211 := h222212222122221.1 hc
                                  exact h2222122221222211
                                · have h2222122221222212 := h222212222122221.2 hc
                                  refine ev_br (P := (am_lcmp x1 1835101817) = 0) (σ1 := (d, 306, 166, [some (.inr (.inr 86)), some (.inr (.inl x1)), none], [], (am_sh, am_mm U))) (σ2 := (d, 306, 142, [some (.inr (.inr 86)), some (.inr (.inl x1)), none], [], (am_sh, am_mm U))) 4 (fun _ => rfl) (fun hc => ?_) (fun hc => ?_)
                                  · have h22221222212222121 := h2222122221222212.1 hc
                                    exact h22221222212222121
                                  · have h22221222212222122 := h2222122221222212.2 hc
                                    refine ev_br (P := (am_lcmp x1 126931137819237) = 0) (σ1 := (d, 306, 166, [some (.inr (.inr 86)), some (.inr (.inl x1)), none], [], (am_sh, am_mm U))) (σ2 := (d, 306, 150, [some (.inr (.inr 86)), some (.inr (.inl x1)), none], [], (am_sh, am_mm U))) 4 (fun _ => rfl) (fun hc => ?_) (fun hc => ?_)
                                    · have h222212222122221221 := h22221222212222122.1 hc
                                      exact h222212222122221221
                                    · have h222212222122221222 := h22221222212222122.2 hc
                                      refine ev_br (P := (am_lcmp x1 482955849061) = 0) (σ1 := (d, 306, 166, [some (.inr (.inr 86)), some (.inr (.inl x1)), none], [], (am_sh, am_mm U))) (σ2 := (d, 306, 158, [some (.inr (.inr 86)), some (.inr (.inl x1)), none], [], (am_sh, am_mm U))) 4 (fun _ => rfl) (fun hc => ?_) (fun hc => ?_)
                                      · have h2222122221222212221 := h222212222122221222.1 hc
                                        exact h2222122221222212221
                                      · have h2222122221222212222 := h222212222122221222.2 hc
                                        refine ev_br (P := ¬ (am_lcmp x1 28530) = 0) (σ1 := (d, 306, 168, [some (.inr (.inr 86)), some (.inr (.inl x1)), none], [], (am_sh, am_mm U))) (σ2 := (d, 306, 166, [some (.inr (.inr 86)), some (.inr (.inl x1)), none], [], (am_sh, am_mm U))) 4 (fun _ => rfl) (fun hc => ?_) (fun hc => ?_)
                                        · have h22221222212222122221 := h2222122221222212222.1 hc
                                          refine ev_br (P := (am_lcmp x1 6385252) = 0) (σ1 := (d, 306, 208, [some (.inr (.inr 86)), some (.inr (.inl x1)), none], [], (am_sh, am_mm U))) (σ2 := (d, 306, 176, [some (.inr (.inr 86)), some (.inr (.inl x1)), none], [], (am_sh, am_mm U))) 4 (fun _ => rfl) (fun hc => ?_) (fun hc => ?_)
                                          · have h222212222122221222211 := h22221222212222122221.1 hc
                                            exact h222212222122221222211
                                          · have h222212222122221222212 := h22221222212222122221.2 hc
                                            refine ev_br (P := (am_lcmp x1 7237492) = 0) (σ1 := (d, 306, 208, [some (.inr (.inr 86)), some (.inr (.inl x1)), none], [], (am_sh, am_mm U))) (σ2 := (d, 306, 184, [some (.inr (.inr 86)), some (.inr (.inl x1)), none], [], (am_sh, am_mm U))) 4 (fun _ => rfl) (fun hc => ?_) (fun hc => ?_)
                                            · have h2222122221222212222121 := h222212222122221222212.1 hc
                                              exact h2222122221222212222121
                                            · have h2222122221222212222122 := h222212222122221222212.2 hc
                                              refine ev_br (P := (am_lcmp x1 6384748) = 0) (σ1 := (d, 306, 208, [some (.inr (.inr 86)), some (.inr (.inl x1)), none], [], (am_sh, am_mm U))) (σ2 := (d, 306, 192, [some (.inr (.inr 86)), some (.inr (.inl x1)), none], [], (am_sh, am_mm U))) 4 (fun _ => rfl) (fun hc => ?_) (fun hc => ?_)
                                              · have h22221222212222122221221 := h2222122221222212222122.1 hc
                                                exact h22221222212222122221221
                                              · have h22221222212222122221222 := h2222122221222212222122.2 hc
                                                refine ev_br (P := (am_lcmp x1 7170414) = 0) (σ1 := (d, 306, 208, [some (.inr (.inr 86)), some (.inr (.inl x1)), none], [], (am_sh, am_mm U))) (σ2 := (d, 306, 200, [some (.inr (.inr 86)), some (.inr (.inl x1)), none], [], (am_sh, am_mm U))) 4 (fun _ => rfl) (fun hc => ?_) (fun hc => ?_)
                                                · have h222212222122221222212221 := h22221222212222122221222.1 hc
                                                  exact h222212222122221222212221
                                                · have h222212222122221222212222 := h22221222212222122221222.2 hc
                                                  refine ev_br (P := ¬ (am_lcmp x1 7168376) = 0) (σ1 := (d, 306, 210, [some (.inr (.inr 86)), some (.inr (.inl x1)), none], [], (am_sh, am_mm U))) (σ2 := (d, 306, 208, [some (.inr (.inr 86)), some (.inr (.inl x1)), none], [], (am_sh, am_mm U))) 4 (fun _ => rfl) (fun hc => ?_) (fun hc => ?_)
                                                  · have h2222122221222212222122221 := h222212222122221222212222.1 hc
                                                    refine ev_br (P := ¬ (am_lcmp x1 6775652) = 0) (σ1 := (d, 306, 220, [some (.inr (.inr 86)), some (.inr (.inl x1)), none], [], (am_sh, am_mm U))) (σ2 := (d, 306, 218, [some (.inr (.inr 86)), some (.inr (.inl x1)), none], [], (am_sh, am_mm U))) 4 (fun _ => rfl) (fun hc => ?_) (fun hc => ?_)
                                                    · have h22221222212222122221222211 := h2222122221222212222122221.1 hc
                                                      subst h22221222212222122221222211
                                                      exact ev_end 2 (fun _ => rfl)
                                                    · have h22221222212222122221222212 := h2222122221222212222122221.2 hc
                                                      subst h22221222212222122221222212
                                                      exact ev_end 2 (fun _ => rfl)
                                                  · have h2222122221222212222122222 := h222212222122221222212222.2 hc
                                                    exact h2222122221222212222122222
                                        · have h22221222212222122222 := h2222122221222212222.2 hc
                                          exact h22221222212222122222
                              · have h222212222122222 := h22221222212222.2 hc
                                exact h222212222122222
                    · have h2222122222 := h222212222.2 hc
                      exact h2222122222
          · have h22222 := h2222.2 hc
            exact h22222
set_option maxRecDepth 8000 in
theorem st306_86_40 (kz : am_Z) (d : Nat) (x1 : Int) (U : Nat → Nat → Int) (R : Option am_V × am_M) (h : R = (some (.inl 1), (am_sh, am_mm U))) : Ev kz (d, 306, 40, [some (.inr (.inr 86)), some (.inr (.inl x1)), none], [], (am_sh, am_mm U)) R := by
  subst h
  exact ev_end 2 (fun _ => rfl)
set_option maxRecDepth 8000 in
theorem st306_86_82 (kz : am_Z) (d : Nat) (x1 : Int) (U : Nat → Nat → Int) (R : Option am_V × am_M) (h : R = (some (.inl 1), (am_sh, am_mm U))) : Ev kz (d, 306, 82, [some (.inr (.inr 86)), some (.inr (.inl x1)), none], [], (am_sh, am_mm U)) R := by
  subst h
  exact ev_end 2 (fun _ => rfl)
set_option maxRecDepth 8000 in
theorem st306_86_124 (kz : am_Z) (d : Nat) (x1 : Int) (U : Nat → Nat → Int) (R : Option am_V × am_M) (h : R = (some (.inl 1), (am_sh, am_mm U))) : Ev kz (d, 306, 124, [some (.inr (.inr 86)), some (.inr (.inl x1)), none], [], (am_sh, am_mm U)) R := by
  subst h
  exact ev_end 2 (fun _ => rfl)
set_option maxRecDepth 8000 in
theorem st306_86_166 (kz : am_Z) (d : Nat) (x1 : Int) (U : Nat → Nat → Int) (R : Option am_V × am_M) (h : R = (some (.inl 1), (am_sh, am_mm U))) : Ev kz (d, 306, 166, [some (.inr (.inr 86)), some (.inr (.inl x1)), none], [], (am_sh, am_mm U)) R := by
  subst h
  exact ev_end 2 (fun _ => rfl)
set_option maxRecDepth 8000 in
theorem st306_86_208 (kz : am_Z) (d : Nat) (x1 : Int) (U : Nat → Nat → Int) (R : Option am_V × am_M) (h : R = (some (.inl 1), (am_sh, am_mm U))) : Ev kz (d, 306, 208, [some (.inr (.inr 86)), some (.inr (.inl x1)), none], [], (am_sh, am_mm U)) R := by
  subst h
  exact ev_end 2 (fun _ => rfl)
set_option maxRecDepth 8000 in
theorem st308_86_0 (kz : am_Z) (d : Nat) (x1 : Int) (U : Nat → Nat → Int) (R : Option am_V × am_M) (h : (0 ≤ (U 86 46) ∧ (U 86 46) < 20) ∧ (0 ≤ ((am_upd U 113 (U 86 46).toNat x1) 86 46) ∧ ((am_upd U 113 (U 86 46).toNat x1) 86 46) < 20) ∧ (0 ≤ ((am_upd (am_upd U 113 (U 86 46).toNat x1) 114 ((am_upd U 113 (U 86 46).toNat x1) 86 46).toNat 0) 86 46) ∧ ((am_upd (am_upd U 113 (U 86 46).toNat x1) 114 ((am_upd U 113 (U 86 46).toNat x1) 86 46).toNat 0) 86 46) < 20) ∧ (0 ≤ ((am_upd (am_upd (am_upd U 113 (U 86 46).toNat x1) 114 ((am_upd U 113 (U 86 46).toNat x1) 86 46).toNat 0) 115 ((am_upd (am_upd U 113 (U 86 46).toNat x1) 114 ((am_upd U 113 (U 86 46).toNat x1) 86 46).toNat 0) 86 46).toNat 1) 86 46) ∧ ((am_upd (am_upd (am_upd U 113 (U 86 46).toNat x1) 114 ((am_upd U 113 (U 86 46).toNat x1) 86 46).toNat 0) 115 ((am_upd (am_upd U 113 (U 86 46).toNat x1) 114 ((am_upd U 113 (U 86 46).toNat x1) 86 46).toNat 0) 86 46).toNat 1) 86 46) < 20) ∧ R = (none, (am_sh, am_mm (am_upd (am_upd (am_upd (am_upd (am_upd U 113 (U 86 46).toNat x1) 114 ((am_upd U 113 (U 86 46).toNat x1) 86 46).toNat 0) 115 ((am_upd (am_upd U 113 (U 86 46).toNat x1) 114 ((am_upd U 113 (U 86 46).toNat x1) 86 46).toNat 0) 86 46).toNat 1) 117 ((am_upd (am_upd (am_upd U 113 (U 86 46).toNat x1) 114 ((am_upd U 113 (U 86 46).toNat x1) 86 46).toNat 0) 115 ((am_upd (am_upd U 113 (U 86 46).toNat x1) 114 ((am_upd U 113 (U 86 46).toNat x1) 86 46).toNat 0) 86 46).toNat 1) 86 46).toNat ((am_upd (am_upd (am_upd U 113 (U 86 46).toNat x1) 114 ((am_upd U 113 (U 86 46).toNat x1) 86 46).toNat 0) 115 ((am_upd (am_upd U 113 (U 86 46).toNat x1) 114 ((am_upd U 113 (U 86 46).toNat x1) 86 46).toNat 0) 86 46).toNat 1) 86 49)) 86 46 (w32 (((am_upd (am_upd (am_upd (am_upd U 113 (U 86 46).toNat x1) 114 ((am_upd U 113 (U 86 46).toNat x1) 86 46).toNat 0) 115 ((am_upd (am_upd U 113 (U 86 46).toNat x1) 114 ((am_upd U 113 (U 86 46).toNat x1) 86 46).toNat 0) 86 46).toNat 1) 117 ((am_upd (am_upd (am_upd U 113 (U 86 46).toNat x1) 114 ((am_upd U 113 (U 86 46).toNat x1) 86 46).toNat 0) 115 ((am_upd (am_upd U 113 (U 86 46).toNat x1) 114 ((am_upd U 113 (U 86 46).toNat x1) 86 46).toNat 0) 86 46).toNat 1) 86 46).toNat ((am_upd (am_upd (am_upd U 113 (U 86 46).toNat x1) 114 ((am_upd U 113 (U 86 46).toNat x1) 86 46).toNat 0) 115 ((am_upd (am_upd U 113 (U 86 46).toNat x1) 114 ((am_upd U 113 (U 86 46).toNat x1) 86 46).toNat 0) 86 46).toNat 1) 86 49)) 86 46) + 1)))))) : Ev kz (d, 308, 0, [some (.inr (.inr 86)), some (.inl x1)], [], (am_sh, am_mm U)) R := by
  refine ev_seg (σ1 := (d, 308, 9, [some (.inr (.inr 86)), some (.inl x1)], [.inl x1, .inl (U 86 46), .inr (.inr 113)], (am_sh, am_mm U))) 5 (fun _ => rfl) ?_
  refine eu_iast 113 (n := 20) rfl (by decide) rfl (fun _ => rfl) h.1 ?_
  have ha := h.2
  refine ev_seg (σ1 := (d, 308, 19, [some (.inr (.inr 86)), some (.inl x1)], [.inl 0, .inl ((am_upd U 113 (U 86 46).toNat x1) 86 46), .inr (.inr 114)], (am_sh, am_mm (am_upd U 113 (U 86 46).toNat x1)))) 5 (fun _ => rfl) ?_
  refine eu_iast 114 (n := 20) rfl (by decide) rfl (fun _ => rfl) ha.1 ?_
  have haa := ha.2
  refine ev_seg (σ1 := (d, 308, 29, [some (.inr (.inr 86)), some (.inl x1)], [.inl 1, .inl ((am_upd (am_upd U 113 (U 86 46).toNat x1) 114 ((am_upd U 113 (U 86 46).toNat x1) 86 46).toNat 0) 86 46), .inr (.inr 115)], (am_sh, am_mm (am_upd (am_upd U 113 (U 86 46).toNat x1) 114 ((am_upd U 113 (U 86 46).toNat x1) 86 46).toNat 0)))) 5 (fun _ => rfl) ?_
  refine eu_zast 115 (by decide) (n := 20) rfl (by decide) rfl (fun _ => rfl) haa.1 ?_
  have haaa := haa.2
  refine ev_seg (σ1 := (d, 308, 42, [some (.inr (.inr 86)), some (.inl x1)], [.inl ((am_upd (am_upd (am_upd U 113 (U 86 46).toNat x1) 114 ((am_upd U 113 (U 86 46).toNat x1) 86 46).toNat 0) 115 ((am_upd (am_upd U 113 (U 86 46).toNat x1) 114 ((am_upd U 113 (U 86 46).toNat x1) 86 46).toNat 0) 86 46).toNat 1) 86 49), .inl ((am_upd (am_upd (am_upd U 113 (U 86 46).toNat x1) 114 ((am_upd U 113 (U 86 46).toNat x1) 86 46).toNat 0) 115 ((am_upd (am_upd U 113 (U 86 46).toNat x1) 114 ((am_upd U 113 (U 86 46).toNat x1) 86 46).toNat 0) 86 46).toNat 1) 86 46), .inr (.inr 117)], (am_sh, am_mm (am_upd (am_upd (am_upd U 113 (U 86 46).toNat x1) 114 ((am_upd U 113 (U 86 46).toNat x1) 86 46).toNat 0) 115 ((am_upd (am_upd U 113 (U 86 46).toNat x1) 114 ((am_upd U 113 (U 86 46).toNat x1) 86 46).toNat 0) 86 46).toNat 1)))) 6 (fun _ => rfl) ?_
  refine eu_iast 117 (n := 20) rfl (by decide) rfl (fun _ => rfl) haaa.1 ?_
  have haaaa := haaa.2
  refine ev_seg (σ1 := (d, 308, 50, [some (.inr (.inr 86)), some (.inl x1)], [.inl (w32 (((am_upd (am_upd (am_upd (am_upd U 113 (U 86 46).toNat x1) 114 ((am_upd U 113 (U 86 46).toNat x1) 86 46).toNat 0) 115 ((am_upd (am_upd U 113 (U 86 46).toNat x1) 114 ((am_upd U 113 (U 86 46).toNat x1) 86 46).toNat 0) 86 46).toNat 1) 117 ((am_upd (am_upd (am_upd U 113 (U 86 46).toNat x1) 114 ((am_upd U 113 (U 86 46).toNat x1) 86 46).toNat 0) 115 ((am_upd (am_upd U 113 (U 86 46).toNat x1) 114 ((am_upd U 113 (U 86 46).toNat x1) 86 46).toNat 0) 86 46).toNat 1) 86 46).toNat ((am_upd (am_upd (am_upd U 113 (U 86 46).toNat x1) 114 ((am_upd U 113 (U 86 46).toNat x1) 86 46).toNat 0) 115 ((am_upd (am_upd U 113 (U 86 46).toNat x1) 114 ((am_upd U 113 (U 86 46).toNat x1) 86 46).toNat 0) 86 46).toNat 1) 86 49)) 86 46) + 1)), .inr (.inr 86)], (am_sh, am_mm (am_upd (am_upd (am_upd (am_upd U 113 (U 86 46).toNat x1) 114 ((am_upd U 113 (U 86 46).toNat x1) 86 46).toNat 0) 115 ((am_upd (am_upd U 113 (U 86 46).toNat x1) 114 ((am_upd U 113 (U 86 46).toNat x1) 86 46).toNat 0) 86 46).toNat 1) 117 ((am_upd (am_upd (am_upd U 113 (U 86 46).toNat x1) 114 ((am_upd U 113 (U 86 46).toNat x1) 86 46).toNat 0) 115 ((am_upd (am_upd U 113 (U 86 46).toNat x1) 114 ((am_upd U 113 (U 86 46).toNat x1) 86 46).toNat 0) 86 46).toNat 1) 86 46).toNat ((am_upd (am_upd (am_upd U 113 (U 86 46).toNat x1) 114 ((am_upd U 113 (U 86 46).toNat x1) 86 46).toNat 0) 115 ((am_upd (am_upd U 113 (U 86 46).toNat x1) 114 ((am_upd U 113 (U 86 46).toNat x1) 86 46).toNat 0) 86 46).toNat 1) 86 49))))) 5 (fun _ => rfl) ?_
  refine eu_puti 86 (n := 90) rfl (by decide) rfl rfl ?_
  subst haaaa
  exact ev_end 1 (fun _ => rfl)
set_option maxRecDepth 8000 in
theorem st310_86_0 (kz : am_Z) (d : Nat) (U : Nat → Nat → Int) (R : Option am_V × am_M) (h : ∃ U1 : Nat → Nat → Int, Ev kz (d, 186, 0, [some (.inr (.inr 86))], [], (am_sh, am_mm U)) (none, (am_sh, am_mm U1)) ∧ ((((U1 86 8) ≤ 0 : Prop)) → (0 ≤ (w32 ((U1 86 46) - 1)) ∧ (w32 ((U1 86 46) - 1)) < 20) ∧ ∃ (r2 : Int) (U2 : Nat → Nat → Int), Ev kz (d, 325, 0, [some (.inl (U1 113 (w32 ((U1 86 46) - 1)).toNat))], [], (am_sh, am_mm U1)) (some (.inl r2), (am_sh, am_mm U2)) ∧ (0 ≤ (w32 ((U1 86 46) - 1)) ∧ (w32 ((U1 86 46) - 1)) < 20) ∧ (((2 ≤ (U2 114 (w32 ((U1 86 46) - 1)).toNat) : Prop)) → Ev kz ((d + 1), 310, 188, [some (.inr (.inr 86)), some (.inl (w32 ((U1 86 46) - 1))), some (.inl (U1 113 (w32 ((U1 86 46) - 1)).toNat)), some (.inl r2), none], [], (am_sh, am_mm U2)) R) ∧ (¬ (2 ≤ (U2 114 (w32 ((U1 86 46) - 1)).toNat)) → ∃ (r3 : Int) (U3 : Nat → Nat → Int), Ev kz (d, 197, 0, [some (.inr (.inr 86)), some (.inl 43)], [], (am_sh, am_mm U2)) (some (.inl r3), (am_sh, am_mm U3)) ∧ (((¬ r3 = 0 : Prop)) → Ev kz ((d + 1), 310, 87, [some (.inr (.inr 86)), some (.inl (w32 ((U1 86 46) - 1))), some (.inl (U1 113 (w32 ((U1 86 46) - 1)).toNat)), some (.inl r2), none], [], (am_sh, am_mm U3)) R) ∧ (¬ (¬ r3 = 0) → ∃ (r4 : Int) (U4 : Nat → Nat → Int), Ev kz (d, 197, 0, [some (.inr (.inr 86)), some (.inl 45)], [], (am_sh, am_mm U3)) (some (.inl r4), (am_sh, am_mm U4)) ∧ (((¬ r4 = 0 : Prop)) → Ev kz ((d + 1), 310, 87, [some (.inr (.inr 86)), some (.inl (w32 ((U1 86 46) - 1))), some (.inl (U1 113 (w32 ((U1 86 46) - 1)).toNat)), some (.inl r2), none], [], (am_sh, am_mm U4)) R) ∧ (¬ (¬ r4 = 0) → ∃ (r5 : Int) (U5 : Nat → Nat → Int), Ev kz (d, 197, 0, [some (.inr (.inr 86)), some (.inl 42)], [], (am_sh, am_mm U4)) (some (.inl r5), (am_sh, am_mm U5)) ∧ (((¬ r5 = 0 : Prop)) → Ev kz ((d + 1), 310, 87, [some (.inr (.inr 86)), some (.inl (w32 ((U1 86 46) - 1))), some (.inl (U1 113 (w32 ((U1 86 46) - 1)).toNat)), some (.inl r2), none], [], (am_sh, am_mm U5)) R) ∧ (¬ (¬ r5 = 0) → ∃ (r6 : Int) (U6 : Nat → Nat → Int), Ev kz (d, 197, 0, [some (.inr (.inr 86)), some (.inl 47)], [], (am_sh, am_mm U5)) (some (.inl r6), (am_sh, am_mm U6)) ∧ (((¬ r6 = 0 : Prop)) → Ev kz ((d + 1), 310, 87, [some (.inr (.inr 86)), some (.inl (w32 ((U1 86 46) - 1))), some (.inl (U1 113 (w32 ((U1 86 46) - 1)).toNat)), some (.inl r2), none], [], (am_sh, am_mm U6)) R) ∧ (¬ (¬ r6 = 0) → ∃ (r7 : Int) (U7 : Nat → Nat → Int), Ev kz (d, 197, 0, [some (.inr (.inr 86)), some (.inl 37)], [], (am_sh, am_mm U6)) (some (.inl r7), (am_sh, am_mm U7)) ∧ (((r7 = 0 : Prop)) → Ev kz ((d + 1), 310, 188, [some (.inr (.inr 86)), some (.inl (w32 ((U1 86 46) - 1))), some (.inl (U1 113 (w32 ((U1 86 46) - 1)).toNat)), some (.inl r2), none], [], (am_sh, am_mm U7)) R) ∧ (¬ (r7 = 0) → Ev kz ((d + 1), 310, 87, [some (.inr (.inr 86)), some (.inl (w32 ((U1 86 46) - 1))), some (.inl (U1 113 (w32 ((U1 86 46) - 1)).toNat)), some (.inl r2), none], [], (am_sh, am_mm U7)) R))))))) ∧ (¬ ((U1 86 8) ≤ 0) → R = (some (.inl 0), (am_sh, am_mm U1)))) : Ev kz ((d + 1), 310, 0, [some (.inr (.inr 86)), none, none, none, none], [], (am_sh, am_mm U)) R := by
  refine ev_seg (σ1 := ((d + 1), 310, 1, [some (.inr (.inr 86)), none, none, none, none], [.inr (.inr 86)], (am_sh, am_mm U))) 1 (fun _ => rfl) ?_
  obtain ⟨U1, hc, ha⟩ := h
  refine ev_cal (σc := (d, 186, 0, [some (.inr (.inr 86))], [], (am_sh, am_mm U))) (fun _ => rfl) hc ?_
  show Ev kz ((d + 1), 310, 4, [some (.inr (.inr 86)), none, none, none, none], [], (am_sh, am_mm U1)) R
  refine ev_br (P := (U1 86 8) ≤ 0) (σ1 := ((d + 1), 310, 13, [some (.inr (.inr 86)), none, none, none, none], [], (am_sh, am_mm U1))) (σ2 := ((d + 1), 310, 11, [some (.inr (.inr 86)), none, none, none, none], [], (am_sh, am_mm U1))) 3 (fun _ => rfl) (fun hc => ?_) (fun hc => ?_)
  · have ha1 := ha.1 hc
    refine ev_seg (σ1 := ((d + 1), 310, 25, [some (.inr (.inr 86)), some (.inl (w32 ((U1 86 46) - 1))), none, none, none], [.inl (w32 ((U1 86 46) - 1)), .inr (.inr 113)], (am_sh, am_mm U1))) 8 (fun _ => rfl) ?_
    refine eu_iald 113 (n := 20) rfl (by decide) rfl (fun _ => rfl) ha1.1 ?_
    have ha1a := ha1.2
    refine ev_seg (σ1 := ((d + 1), 310, 28, [some (.inr (.inr 86)), some (.inl (w32 ((U1 86 46) - 1))), some (.inl (U1 113 (w32 ((U1 86 46) - 1)).toNat)), none, none], [.inl (U1 113 (w32 ((U1 86 46) - 1)).toNat)], (am_sh, am_mm U1))) 2 (fun _ => rfl) ?_
    obtain ⟨r2, U2, ha1ac, ha1aa⟩ := ha1a
    refine ev_cal (σc := (d, 325, 0, [some (.inl (U1 113 (w32 ((U1 86 46) - 1)).toNat))], [], (am_sh, am_mm U1))) (fun _ => rfl) ha1ac ?_
    show Ev kz ((d + 1), 310, 31, [some (.inr (.inr 86)), some (.inl (w32 ((U1 86 46) - 1))), some (.inl (U1 113 (w32 ((U1 86 46) - 1)).toNat)), none, none], [.inl r2], (am_sh, am_mm U2)) R
    refine ev_seg (σ1 := ((d + 1), 310, 37, [some (.inr (.inr 86)), some (.inl (w32 ((U1 86 46) - 1))), some (.inl (U1 113 (w32 ((U1 86 46) - 1)).toNat)), some (.inl r2), none], [.inl (w32 ((U1 86 46) - 1)), .inr (.inr 114)], (am_sh, am_mm U2))) 4 (fun _ => rfl) ?_
    refine eu_iald 114 (n := 20) rfl (by decide) rfl (fun _ => rfl) ha1aa.1 ?_
    have ha1aaa := ha1aa.2
    refine ev_br (P := 2 ≤ (U2 114 (w32 ((U1 86 46) - 1)).toNat)) (σ1 := ((d + 1), 310, 188, [some (.inr (.inr 86)), some (.inl (w32 ((U1 86 46) - 1))), some (.inl (U1 113 (w32 ((U1 86 46) - 1)).toNat)), some (.inl r2), none], [], (am_sh, am_mm U2))) (σ2 := ((d + 1), 310, 42, [some (.inr (.inr 86)), some (.inl (w32 ((U1 86 46) - 1))), some (.inl (U1 113 (w32 ((U1 86 46) - 1)).toNat)), some (.inl r2), none], [], (am_sh, am_mm U2))) 2 (fun _ => rfl) (fun hc => ?_) (fun hc => ?_)
    · have ha1aaa1 := ha1aaa.1 hc
      exact ha1aaa1
    · have ha1aaa2 := ha1aaa.2 hc
      refine ev_seg (σ1 := ((d + 1), 310, 45, [some (.inr (.inr 86)), some (.inl (w32 ((U1 86 46) - 1))), some (.inl (U1 113 (w32 ((U1 86 46) - 1)).toNat)), some (.inl r2), none], [.inl 43, .inr (.inr 86)], (am_sh, am_mm U2))) 2 (fun _ => rfl) ?_
      obtain ⟨r3, U3, ha1aaa2c, ha1aaa2a⟩ := ha1aaa2
      refine ev_cal (σc := (d, 197, 0, [some (.inr (.inr 86)), some (.inl 43)], [], (am_sh, am_mm U2))) (fun _ => rfl) ha1aaa2c ?_
      show Ev kz ((d + 1), 310, 48, [some (.inr (.inr 86)), some (.inl (w32 ((U1 86 46) - 1))), some (.inl (U1 113 (w32 ((U1 86 46) - 1)).toNat)), some (.inl r2), none], [.inl r3], (am_sh, am_mm U3)) R
      refine ev_br (P := ¬ r3 = 0) (σ1 := ((d + 1), 310, 87, [some (.inr (.inr 86)), some (.inl (w32 ((U1 86 46) - 1))), some (.inl (U1 113 (w32 ((U1 86 46) - 1)).toNat)), some (.inl r2), none], [], (am_sh, am_mm U3))) (σ2 := ((d + 1), 310, 51, [some (.inr (.inr 86)), some (.inl (w32 ((U1 86 46) - 1))), some (.inl (U1 113 (w32 ((U1 86 46) - 1)).toNat)), some (.inl r2), none], [], (am_sh, am_mm U3))) 1 (fun _ => rfl) (fun hc => ?_) (fun hc => ?_)
      · have ha1aaa2a1 := ha1aaa2a.1 hc
        exact ha1aaa2a1
      · have ha1aaa2a2 := ha1aaa2a.2 hc
        refine ev_seg (σ1 := ((d + 1), 310, 54, [some (.inr (.inr 86)), some (.inl (w32 ((U1 86 46) - 1))), some (.inl (U1 113 (w32 ((U1 86 46) - 1)).toNat)), some (.inl r2), none], [.inl 45, .inr (.inr 86)], (am_sh, am_mm U3))) 2 (fun _ => rfl) ?_
        obtain ⟨r4, U4, ha1aaa2a2c, ha1aaa2a2a⟩ := ha1aaa2a2
        refine ev_cal (σc := (d, 197, 0, [some (.inr (.inr 86)), some (.inl 45)], [], (am_sh, am_mm U3))) (fun _ => rfl) ha1aaa2a2c ?_
        show Ev kz ((d + 1), 310, 57, [some (.inr (.inr 86)), some (.inl (w32 ((U1 86 46) - 1))), some (.inl (U1 113 (w32 ((U1 86 46) - 1)).toNat)), some (.inl r2), none], [.inl r4], (am_sh, am_mm U4)) R
        refine ev_br (P := ¬ r4 = 0) (σ1 := ((d + 1), 310, 87, [some (.inr (.inr 86)), some (.inl (w32 ((U1 86 46) - 1))), some (.inl (U1 113 (w32 ((U1 86 46) - 1)).toNat)), some (.inl r2), none], [], (am_sh, am_mm U4))) (σ2 := ((d + 1), 310, 60, [some (.inr (.inr 86)), some (.inl (w32 ((U1 86 46) - 1))), some (.inl (U1 113 (w32 ((U1 86 46) - 1)).toNat)), some (.inl r2), none], [], (am_sh, am_mm U4))) 1 (fun _ => rfl) (fun hc => ?_) (fun hc => ?_)
        · have ha1aaa2a2a1 := ha1aaa2a2a.1 hc
          exact ha1aaa2a2a1
        · have ha1aaa2a2a2 := ha1aaa2a2a.2 hc
          refine ev_seg (σ1 := ((d + 1), 310, 63, [some (.inr (.inr 86)), some (.inl (w32 ((U1 86 46) - 1))), some (.inl (U1 113 (w32 ((U1 86 46) - 1)).toNat)), some (.inl r2), none], [.inl 42, .inr (.inr 86)], (am_sh, am_mm U4))) 2 (fun _ => rfl) ?_
          obtain ⟨r5, U5, ha1aaa2a2a2c, ha1aaa2a2a2a⟩ := ha1aaa2a2a2
          refine ev_cal (σc := (d, 197, 0, [some (.inr (.inr 86)), some (.inl 42)], [], (am_sh, am_mm U4))) (fun _ => rfl) ha1aaa2a2a2c ?_
          show Ev kz ((d + 1), 310, 66, [some (.inr (.inr 86)), some (.inl (w32 ((U1 86 46) - 1))), some (.inl (U1 113 (w32 ((U1 86 46) - 1)).toNat)), some (.inl r2), none], [.inl r5], (am_sh, am_mm U5)) R
          refine ev_br (P := ¬ r5 = 0) (σ1 := ((d + 1), 310, 87, [some (.inr (.inr 86)), some (.inl (w32 ((U1 86 46) - 1))), some (.inl (U1 113 (w32 ((U1 86 46) - 1)).toNat)), some (.inl r2), none], [], (am_sh, am_mm U5))) (σ2 := ((d + 1), 310, 69, [some (.inr (.inr 86)), some (.inl (w32 ((U1 86 46) - 1))), some (.inl (U1 113 (w32 ((U1 86 46) - 1)).toNat)), some (.inl r2), none], [], (am_sh, am_mm U5))) 1 (fun _ => rfl) (fun hc => ?_) (fun hc => ?_)
          · have ha1aaa2a2a2a1 := ha1aaa2a2a2a.1 hc
            exact ha1aaa2a2a2a1
          · have ha1aaa2a2a2a2 := ha1aaa2a2a2a.2 hc
            refine ev_seg (σ1 := ((d + 1), 310, 72, [some (.inr (.inr 86)), some (.inl (w32 ((U1 86 46) - 1))), some (.inl (U1 113 (w32 ((U1 86 46) - 1)).toNat)), some (.inl r2), none], [.inl 47, .inr (.inr 86)], (am_sh, am_mm U5))) 2 (fun _ => rfl) ?_
            obtain ⟨r6, U6, ha1aaa2a2a2a2c, ha1aaa2a2a2a2a⟩ := ha1aaa2a2a2a2
            refine ev_cal (σc := (d, 197, 0, [some (.inr (.inr 86)), some (.inl 47)], [], (am_sh, am_mm U5))) (fun _ => rfl) ha1aaa2a2a2a2c ?_
            show Ev kz ((d + 1), 310, 75, [some (.inr (.inr 86)), some (.inl (w32 ((U1 86 46) - 1))), some (.inl (U1 113 (w32 ((U1 86 46) - 1)).toNat)), some (.inl r2), none], [.inl r6], (am_sh, am_mm U6)) R
            refine ev_br (P := ¬ r6 = 0) (σ1 := ((d + 1), 310, 87, [some (.inr (.inr 86)), some (.inl (w32 ((U1 86 46) - 1))), some (.inl (U1 113 (w32 ((U1 86 46) - 1)).toNat)), some (.inl r2), none], [], (am_sh, am_mm U6))) (σ2 := ((d + 1), 310, 78, [some (.inr (.inr 86)), some (.inl (w32 ((U1 86 46) - 1))), some (.inl (U1 113 (w32 ((U1 86 46) - 1)).toNat)), some (.inl r2), none], [], (am_sh, am_mm U6))) 1 (fun _ => rfl) (fun hc => ?_) (fun hc => ?_)
            · have ha1aaa2a2a2a2a1 := ha1aaa2a2a2a2a.1 hc
              exact ha1aaa2a2a2a2a1
            · have ha1aaa2a2a2a2a2 := ha1aaa2a2a2a2a.2 hc
              refine ev_seg (σ1 := ((d + 1), 310, 81, [some (.inr (.inr 86)), some (.inl (w32 ((U1 86 46) - 1))), some (.inl (U1 113 (w32 ((U1 86 46) - 1)).toNat)), some (.inl r2), none], [.inl 37, .inr (.inr 86)], (am_sh, am_mm U6))) 2 (fun _ => rfl) ?_
              obtain ⟨r7, U7, ha1aaa2a2a2a2a2c, ha1aaa2a2a2a2a2a⟩ := ha1aaa2a2a2a2a2
              refine ev_cal (σc := (d, 197, 0, [some (.inr (.inr 86)), some (.inl 37)], [], (am_sh, am_mm U6))) (fun _ => rfl) ha1aaa2a2a2a2a2c ?_
              show Ev kz ((d + 1), 310, 84, [some (.inr (.inr 86)), some (.inl (w32 ((U1 86 46) - 1))), some (.inl (U1 113 (w32 ((U1 86 46) - 1)).toNat)), some (.inl r2), none], [.inl r7], (am_sh, am_mm U7)) R
              refine ev_br (P := r7 = 0) (σ1 := ((d + 1), 310, 188, [some (.inr (.inr 86)), some (.inl (w32 ((U1 86 46) - 1))), some (.inl (U1 113 (w32 ((U1 86 46) - 1)).toNat)), some (.inl r2), none], [], (am_sh, am_mm U7))) (σ2 := ((d + 1), 310, 87, [some (.inr (.inr 86)), some (.inl (w32 ((U1 86 46) - 1))), some (.inl (U1 113 (w32 ((U1 86 46) - 1)).toNat)), some (.inl r2), none], [], (am_sh, am_mm U7))) 1 (fun _ => rfl) (fun hc => ?_) (fun hc => ?_)
              · have ha1aaa2a2a2a2a2a1 := ha1aaa2a2a2a2a2a.1 hc
                exact ha1aaa2a2a2a2a2a1
              · have ha1aaa2a2a2a2a2a2 := ha1aaa2a2a2a2a2a.2 hc
                exact ha1aaa2a2a2a2a2a2
  · have ha2 := ha.2 hc
    subst ha2
    exact ev_end 2 (fun _ => rfl)
set_option maxRecDepth 8000 in
theorem st310_86_188 (kz : am_Z) (d : Nat) (x1 x2 x3 : Int) (U : Nat → Nat → Int) (R : Option am_V × am_M) (h : (((x3 = 0 : Prop)) → Ev kz ((d + 1), 310, 285, [some (.inr (.inr 86)), some (.inl x1), some (.inl x2), some (.inl x3), none], [], (am_sh, am_mm U)) R) ∧ (¬ (x3 = 0) → (0 ≤ x1 ∧ x1 < 20) ∧ (((¬ (U 114 x1.toNat) = 0 : Prop)) → Ev kz ((d + 1), 310, 285, [some (.inr (.inr 86)), some (.inl x1), some (.inl x2), some (.inl x3), none], [], (am_sh, am_mm U)) R) ∧ (¬ (¬ (U 114 x1.toNat) = 0) → ∃ (r1 : Int) (U1 : Nat → Nat → Int), Ev kz (d, 197, 0, [some (.inr (.inr 86)), some (.inl 60)], [], (am_sh, am_mm U)) (some (.inl r1), (am_sh, am_mm U1)) ∧ (((¬ r1 = 0 : Prop)) → Ev kz ((d + 1), 310, 228, [some (.inr (.inr 86)), some (.inl x1), some (.inl x2), some (.inl x3), none], [], (am_sh, am_mm U1)) R) ∧ (¬ (¬ r1 = 0) → ∃ (r2 : Int) (U2 : Nat → Nat → Int), Ev kz (d, 197, 0, [some (.inr (.inr 86)), some (.inl 62)], [], (am_sh, am_mm U1)) (some (.inl r2), (am_sh, am_mm U2)) ∧ (((¬ r2 = 0 : Prop)) → Ev kz ((d + 1), 310, 228, [some (.inr (.inr 86)), some (.inl x1), some (.inl x2), some (.inl x3), none], [], (am_sh, am_mm U2)) R) ∧ (¬ (¬ r2 = 0) → ∃ (r3 : Int) (U3 : Nat → Nat → Int), Ev kz (d, 197, 0, [some (.inr (.inr 86)), some (.inl 61)], [], (am_sh, am_mm U2)) (some (.inl r3), (am_sh, am_mm U3)) ∧ (((r3 = 0 : Prop)) → Ev kz ((d + 1), 310, 285, [some (.inr (.inr 86)), some (.inl x1), some (.inl x2), some (.inl x3), none], [], (am_sh, am_mm U3)) R) ∧ (¬ (r3 = 0) → Ev kz ((d + 1), 310, 228, [some (.inr (.inr 86)), some (.inl x1), some (.inl x2), some (.inl x3), none], [], (am_sh, am_mm U3)) R)))))) : Ev kz ((d + 1), 310, 188, [some (.inr (.inr 86)), some (.inl x1), some (.inl x2), some (.inl x3), none], [], (am_sh, am_mm U)) R := by
  refine ev_br (P := x3 = 0) (σ1 := ((d + 1), 310, 285, [some (.inr (.inr 86)), some (.inl x1), some (.inl x2), some (.inl x3), none], [], (am_sh, am_mm U))) (σ2 := ((d + 1), 310, 192, [some (.inr (.inr 86)), some (.inl x1), some (.inl x2), some (.inl x3), none], [], (am_sh, am_mm U))) 2 (fun _ => rfl) (fun hc => ?_) (fun hc => ?_)
  · have h1 := h.1 hc
    exact h1
  · have h2 := h.2 hc
    refine ev_seg (σ1 := ((d + 1), 310, 197, [some (.inr (.inr 86)), some (.inl x1), some (.inl x2), some (.inl x3), none], [.inl x1, .inr (.inr 114)], (am_sh, am_mm U))) 3 (fun _ => rfl) ?_
    refine eu_iald 114 (n := 20) rfl (by decide) rfl (fun _ => rfl) h2.1 ?_
    have h2a := h2.2
    refine ev_br (P := ¬ (U 114 x1.toNat) = 0) (σ1 := ((d + 1), 310, 285, [some (.inr (.inr 86)), some (.inl x1), some (.inl x2), some (.inl x3), none], [], (am_sh, am_mm U))) (σ2 := ((d + 1), 310, 201, [some (.inr (.inr 86)), some (.inl x1), some (.inl x2), some (.inl x3), none], [], (am_sh, am_mm U))) 1 (fun _ => rfl) (fun hc => ?_) (fun hc => ?_)
    · have h2a1 := h2a.1 hc
      exact h2a1
    · have h2a2 := h2a.2 hc
      refine ev_seg (σ1 := ((d + 1), 310, 204, [some (.inr (.inr 86)), some (.inl x1), some (.inl x2), some (.inl x3), none], [.inl 60, .inr (.inr 86)], (am_sh, am_mm U))) 2 (fun _ => rfl) ?_
      obtain ⟨r1, U1, h2a2c, h2a2a⟩ := h2a2
      refine ev_cal (σc := (d, 197, 0, [some (.inr (.inr 86)), some (.inl 60)], [], (am_sh, am_mm U))) (fun _ => rfl) h2a2c ?_
      show Ev kz ((d + 1), 310, 207, [some (.inr (.inr 86)), some (.inl x1), some (.inl x2), some (.inl x3), none], [.inl r1], (am_sh, am_mm U1)) R
      refine ev_br (P := ¬ r1 = 0) (σ1 := ((d + 1), 310, 228, [some (.inr (.inr 86)), some (.inl x1), some (.inl x2), some (.inl x3), none], [], (am_sh, am_mm U1))) (σ2 := ((d + 1), 310, 210, [some (.inr (.inr 86)), some (.inl x1), some (.inl x2), some (.inl x3), none], [], (am_sh, am_mm U1))) 1 (fun _ => rfl) (fun hc => ?_) (fun hc => ?_)
      · have h2a2a1 := h2a2a.1 hc
        exact h2a2a1
      · have h2a2a2 := h2a2a.2 hc
        refine ev_seg (σ1 := ((d + 1), 310, 213, [some (.inr (.inr 86)), some (.inl x1), some (.inl x2), some (.inl x3), none], [.inl 62, .inr (.inr 86)], (am_sh, am_mm U1))) 2 (fun _ => rfl) ?_
        obtain ⟨r2, U2, h2a2a2c, h2a2a2a⟩ := h2a2a2
        refine ev_cal (σc := (d, 197, 0, [some (.inr (.inr 86)), some (.inl 62)], [], (am_sh, am_mm U1))) (fun _ => rfl) h2a2a2c ?_
        show Ev kz ((d + 1), 310, 216, [some (.inr (.inr 86)), some (.inl x1), some (.inl x2), some (.inl x3), none], [.inl r2], (am_sh, am_mm U2)) R
        refine ev_br (P := ¬ r2 = 0) (σ1 := ((d + 1), 310, 228, [some (.inr (.inr 86)), some (.inl x1), some (.inl x2), some (.inl x3), none], [], (am_sh, am_mm U2))) (σ2 := ((d + 1), 310, 219, [some (.inr (.inr 86)), some (.inl x1), some (.inl x2), some (.inl x3), none], [], (am_sh, am_mm U2))) 1 (fun _ => rfl) (fun hc => ?_) (fun hc => ?_)
        · have h2a2a2a1 := h2a2a2a.1 hc
          exact h2a2a2a1
        · have h2a2a2a2 := h2a2a2a.2 hc
          refine ev_seg (σ1 := ((d + 1), 310, 222, [some (.inr (.inr 86)), some (.inl x1), some (.inl x2), some (.inl x3), none], [.inl 61, .inr (.inr 86)], (am_sh, am_mm U2))) 2 (fun _ => rfl) ?_
          obtain ⟨r3, U3, h2a2a2a2c, h2a2a2a2a⟩ := h2a2a2a2
          refine ev_cal (σc := (d, 197, 0, [some (.inr (.inr 86)), some (.inl 61)], [], (am_sh, am_mm U2))) (fun _ => rfl) h2a2a2a2c ?_
          show Ev kz ((d + 1), 310, 225, [some (.inr (.inr 86)), some (.inl x1), some (.inl x2), some (.inl x3), none], [.inl r3], (am_sh, am_mm U3)) R
          refine ev_br (P := r3 = 0) (σ1 := ((d + 1), 310, 285, [some (.inr (.inr 86)), some (.inl x1), some (.inl x2), some (.inl x3), none], [], (am_sh, am_mm U3))) (σ2 := ((d + 1), 310, 228, [some (.inr (.inr 86)), some (.inl x1), some (.inl x2), some (.inl x3), none], [], (am_sh, am_mm U3))) 1 (fun _ => rfl) (fun hc => ?_) (fun hc => ?_)
          · have h2a2a2a2a1 := h2a2a2a2a.1 hc
            exact h2a2a2a2a1
          · have h2a2a2a2a2 := h2a2a2a2a.2 hc
            exact h2a2a2a2a2
set_option maxRecDepth 8000 in
theorem st310_86_87 (kz : am_Z) (d : Nat) (x1 x2 x3 : Int) (U : Nat → Nat → Int) (R : Option am_V × am_M) (h : ∃ (r1 : Int) (U1 : Nat → Nat → Int), Ev kz (d, 197, 0, [some (.inr (.inr 86)), some (.inl 43)], [], (am_sh, am_mm U)) (some (.inl r1), (am_sh, am_mm U1)) ∧ (((¬ r1 = 0 : Prop)) → Ev kz ((d + 1), 310, 106, [some (.inr (.inr 86)), some (.inl x1), some (.inl x2), some (.inl x3), none], [.inr (.inr 86)], (am_sh, am_mm U1)) R) ∧ (¬ (¬ r1 = 0) → ∃ (r2 : Int) (U2 : Nat → Nat → Int), Ev kz (d, 197, 0, [some (.inr (.inr 86)), some (.inl 45)], [], (am_sh, am_mm U1)) (some (.inl r2), (am_sh, am_mm U2)) ∧ (((r2 = 0 : Prop)) → Ev kz ((d + 1), 310, 112, [some (.inr (.inr 86)), some (.inl x1), some (.inl x2), some (.inl x3), none], [.inl 6, .inr (.inr 86)], (am_sh, am_mm U2)) R) ∧ (¬ (r2 = 0) → Ev kz ((d + 1), 310, 106, [some (.inr (.inr 86)), some (.inl x1), some (.inl x2), some (.inl x3), none], [.inr (.inr 86)], (am_sh, am_mm U2)) R))) : Ev kz ((d + 1), 310, 87, [some (.inr (.inr 86)), some (.inl x1), some (.inl x2), some (.inl x3), none], [], (am_sh, am_mm U)) R := by
  refine ev_seg (σ1 := ((d + 1), 310, 91, [some (.inr (.inr 86)), some (.inl x1), some (.inl x2), some (.inl x3), none], [.inl 43, .inr (.inr 86), .inr (.inr 86)], (am_sh, am_mm U))) 3 (fun _ => rfl) ?_
  obtain ⟨r1, U1, hc, ha⟩ := h
  refine ev_cal (σc := (d, 197, 0, [some (.inr (.inr 86)), some (.inl 43)], [], (am_sh, am_mm U))) (fun _ => rfl) hc ?_
  show Ev kz ((d + 1), 310, 94, [some (.inr (.inr 86)), some (.inl x1), some (.inl x2), some (.inl x3), none], [.inl r1, .inr (.inr 86)], (am_sh, am_mm U1)) R
  refine ev_br (P := ¬ r1 = 0) (σ1 := ((d + 1), 310, 106, [some (.inr (.inr 86)), some (.inl x1), some (.inl x2), some (.inl x3), none], [.inr (.inr 86)], (am_sh, am_mm U1))) (σ2 := ((d + 1), 310, 97, [some (.inr (.inr 86)), some (.inl x1), some (.inl x2), some (.inl x3), none], [.inr (.inr 86)], (am_sh, am_mm U1))) 1 (fun _ => rfl) (fun hc => ?_) (fun hc => ?_)
  · have ha1 := ha.1 hc
    exact ha1
  · have ha2 := ha.2 hc
    refine ev_seg (σ1 := ((d + 1), 310, 100, [some (.inr (.inr 86)), some (.inl x1), some (.inl x2), some (.inl x3), none], [.inl 45, .inr (.inr 86), .inr (.inr 86)], (am_sh, am_mm U1))) 2 (fun _ => rfl) ?_
    obtain ⟨r2, U2, ha2c, ha2a⟩ := ha2
    refine ev_cal (σc := (d, 197, 0, [some (.inr (.inr 86)), some (.inl 45)], [], (am_sh, am_mm U1))) (fun _ => rfl) ha2c ?_
    show Ev kz ((d + 1), 310, 103, [some (.inr (.inr 86)), some (.inl x1), some (.inl x2), some (.inl x3), none], [.inl r2, .inr (.inr 86)], (am_sh, am_mm U2)) R
    refine ev_br (P := r2 = 0) (σ1 := ((d + 1), 310, 110, [some (.inr (.inr 86)), some (.inl x1), some (.inl x2), some (.inl x3), none], [.inr (.inr 86)], (am_sh, am_mm U2))) (σ2 := ((d + 1), 310, 106, [some (.inr (.inr 86)), some (.inl x1), some (.inl x2), some (.inl x3), none], [.inr (.inr 86)], (am_sh, am_mm U2))) 1 (fun _ => rfl) (fun hc => ?_) (fun hc => ?_)
    · have ha2a1 := ha2a.1 hc
      refine ev_seg (σ1 := ((d + 1), 310, 112, [some (.inr (.inr 86)), some (.inl x1), some (.inl x2), some (.inl x3), none], [.inl 6, .inr (.inr 86)], (am_sh, am_mm U2))) 1 (fun _ => rfl) ?_
      exact ha2a1
    · have ha2a2 := ha2a.2 hc
      exact ha2a2
set_option maxRecDepth 8000 in
theorem st310_86_285 (kz : am_Z) (d : Nat) (x1 x2 x3 : Int) (U : Nat → Nat → Int) (R : Option am_V × am_M) (h : (((x3 = 0 : Prop)) → Ev kz ((d + 1), 310, 400, [some (.inr (.inr 86)), some (.inl x1), some (.inl x2), some (.inl x3), none], [], (am_sh, am_mm U)) R) ∧ (¬ (x3 = 0) → ∃ (r1 : Int) (U1 : Nat → Nat → Int), Ev kz (d, 187, 0, [some (.inr (.inr 86)), some (.inr (.inl 6385252)), none], [], (am_sh, am_mm U)) (some (.inl r1), (am_sh, am_mm U1)) ∧ (((¬ r1 = 0 : Prop)) → Ev kz ((d + 1), 310, 309, [some (.inr (.inr 86)), some (.inl x1), some (.inl x2), some (.inl x3), none], [], (am_sh, am_mm U1)) R) ∧ (¬ (¬ r1 = 0) → ∃ (r2 : Int) (U2 : Nat → Nat → Int), Ev kz (d, 187, 0, [some (.inr (.inr 86)), some (.inr (.inl 28530)), none], [], (am_sh, am_mm U1)) (some (.inl r2), (am_sh, am_mm U2)) ∧ (((r2 = 0 : Prop)) → Ev kz ((d + 1), 310, 400, [some (.inr (.inr 86)), some (.inl x1), some (.inl x2), some (.inl x3), none], [], (am_sh, am_mm U2)) R) ∧ (¬ (r2 = 0) → Ev kz ((d + 1), 310, 309, [some (.inr (.inr 86)), some (.inl x1), some (.inl x2), some (.inl x3), none], [], (am_sh, am_mm U2)) R)))) : Ev kz ((d + 1), 310, 285, [some (.inr (.inr 86)), some (.inl x1), some (.inl x2), some (.inl x3), none], [], (am_sh, am_mm U)) R := by
  refine ev_br (P := x3 = 0) (σ1 := ((d + 1), 310, 400, [some (.inr (.inr 86)), some (.inl x1), some (.inl x2), some (.inl x3), none], [], (am_sh, am_mm U))) (σ2 := ((d + 1), 310, 289, [some (.inr (.inr 86)), some (.inl x1), some (.inl x2), some (.inl x3), none], [], (am_sh, am_mm U))) 2 (fun _ => rfl) (fun hc => ?_) (fun hc => ?_)
  · have h1 := h.1 hc
    exact h1
  · have h2 := h.2 hc
    refine ev_seg (σ1 := ((d + 1), 310, 293, [some (.inr (.inr 86)), some (.inl x1), some (.inl x2), some (.inl x3), none], [.inr (.inl 6385252), .inr (.inr 86)], (am_sh, am_mm U))) 2 (fun _ => rfl) ?_
    obtain ⟨r1, U1, h2c, h2a⟩ := h2
    refine ev_cal (σc := (d, 187, 0, [some (.inr (.inr 86)), some (.inr (.inl 6385252)), none], [], (am_sh, am_mm U))) (fun _ => rfl) h2c ?_
    show Ev kz ((d + 1), 310, 296, [some (.inr (.inr 86)), some (.inl x1), some (.inl x2), some (.inl x3), none], [.inl r1], (am_sh, am_mm U1)) R
    refine ev_br (P := ¬ r1 = 0) (σ1 := ((d + 1), 310, 309, [some (.inr (.inr 86)), some (.inl x1), some (.inl x2), some (.inl x3), none], [], (am_sh, am_mm U1))) (σ2 := ((d + 1), 310, 299, [some (.inr (.inr 86)), some (.inl x1), some (.inl x2), some (.inl x3), none], [], (am_sh, am_mm U1))) 1 (fun _ => rfl) (fun hc => ?_) (fun hc => ?_)
    · have h2a1 := h2a.1 hc
      exact h2a1
    · have h2a2 := h2a.2 hc
      refine ev_seg (σ1 := ((d + 1), 310, 303, [some (.inr (.inr 86)), some (.inl x1), some (.inl x2), some (.inl x3), none], [.inr (.inl 28530), .inr (.inr 86)], (am_sh, am_mm U1))) 2 (fun _ => rfl) ?_
      obtain ⟨r2, U2, h2a2c, h2a2a⟩ := h2a2
      refine ev_cal (σc := (d, 187, 0, [some (.inr (.inr 86)), some (.inr (.inl 28530)), none], [], (am_sh, am_mm U1))) (fun _ => rfl) h2a2c ?_
      show Ev kz ((d + 1), 310, 306, [some (.inr (.inr 86)), some (.inl x1), some (.inl x2), some (.inl x3), none], [.inl r2], (am_sh, am_mm U2)) R
      refine ev_br (P := r2 = 0) (σ1 := ((d + 1), 310, 400, [some (.inr (.inr 86)), some (.inl x1), some (.inl x2), some (.inl x3), none], [], (am_sh, am_mm U2))) (σ2 := ((d + 1), 310, 309, [some (.inr (.inr 86)), some (.inl x1), some (.inl x2), some (.inl x3), none], [], (am_sh, am_mm U2))) 1 (fun _ => rfl) (fun hc => ?_) (fun hc => ?_)
      · have h2a2a1 := h2a2a.1 hc
        exact h2a2a1
      · have h2a2a2 := h2a2a.2 hc
        exact h2a2a2
set_option maxRecDepth 8000 in
theorem st310_86_228 (kz : am_Z) (d : Nat) (x1 x2 x3 : Int) (U : Nat → Nat → Int) (R : Option am_V × am_M) (h : ∃ U1 : Nat → Nat → Int, Ev kz (d, 329, 0, [some (.inr (.inr 86)), some (.inl 5)], [], (am_sh, am_mm U)) (none, (am_sh, am_mm U1)) ∧ ∃ (r2 : Int) (U2 : Nat → Nat → Int), Ev kz (d, 197, 0, [some (.inr (.inr 86)), some (.inl 60)], [], (am_sh, am_mm U1)) (some (.inl r2), (am_sh, am_mm U2)) ∧ (((r2 = 0 : Prop)) → ∃ (r3 : Int) (U3 : Nat → Nat → Int), Ev kz (d, 197, 0, [some (.inr (.inr 86)), some (.inl 62)], [], (am_sh, am_mm U2)) (some (.inl r3), (am_sh, am_mm U3)) ∧ (((r3 = 0 : Prop)) → Ev kz ((d + 1), 310, 264, [some (.inr (.inr 86)), some (.inl x1), some (.inl x2), some (.inl x3), none], [.inl 19, .inr (.inr 86)], (am_sh, am_mm U3)) R) ∧ (¬ (r3 = 0) → Ev kz ((d + 1), 310, 264, [some (.inr (.inr 86)), some (.inl x1), some (.inl x2), some (.inl x3), none], [.inl 18, .inr (.inr 86)], (am_sh, am_mm U3)) R)) ∧ (¬ (r2 = 0) → Ev kz ((d + 1), 310, 264, [some (.inr (.inr 86)), some (.inl x1), some (.inl x2), some (.inl x3), none], [.inl 17, .inr (.inr 86)], (am_sh, am_mm U2)) R)) : Ev kz ((d + 1), 310, 228, [some (.inr (.inr 86)), some (.inl x1), some (.inl x2), some (.inl x3), none], [], (am_sh, am_mm U)) R := by
  refine ev_seg (σ1 := ((d + 1), 310, 230, [some (.inr (.inr 86)), some (.inl x1), some (.inl x2), some (.inl x3), none], [.inl 5, .inr (.inr 86)], (am_sh, am_mm U))) 2 (fun _ => rfl) ?_
  obtain ⟨U1, hc, ha⟩ := h
  refine ev_cal (σc := (d, 329, 0, [some (.inr (.inr 86)), some (.inl 5)], [], (am_sh, am_mm U))) (fun _ => rfl) hc ?_
  show Ev kz ((d + 1), 310, 233, [some (.inr (.inr 86)), some (.inl x1), some (.inl x2), some (.inl x3), none], [], (am_sh, am_mm U1)) R
  refine ev_seg (σ1 := ((d + 1), 310, 237, [some (.inr (.inr 86)), some (.inl x1), some (.inl x2), some (.inl x3), none], [.inl 60, .inr (.inr 86), .inr (.inr 86)], (am_sh, am_mm U1))) 3 (fun _ => rfl) ?_
  obtain ⟨r2, U2, hac, haa⟩ := ha
  refine ev_cal (σc := (d, 197, 0, [some (.inr (.inr 86)), some (.inl 60)], [], (am_sh, am_mm U1))) (fun _ => rfl) hac ?_
  show Ev kz ((d + 1), 310, 240, [some (.inr (.inr 86)), some (.inl x1), some (.inl x2), some (.inl x3), none], [.inl r2, .inr (.inr 86)], (am_sh, am_mm U2)) R
  refine ev_br (P := r2 = 0) (σ1 := ((d + 1), 310, 248, [some (.inr (.inr 86)), some (.inl x1), some (.inl x2), some (.inl x3), none], [.inr (.inr 86)], (am_sh, am_mm U2))) (σ2 := ((d + 1), 310, 243, [some (.inr (.inr 86)), some (.inl x1), some (.inl x2), some (.inl x3), none], [.inr (.inr 86)], (am_sh, am_mm U2))) 1 (fun _ => rfl) (fun hc => ?_) (fun hc => ?_)
  · have haa1 := haa.1 hc
    refine ev_seg (σ1 := ((d + 1), 310, 251, [some (.inr (.inr 86)), some (.inl x1), some (.inl x2), some (.inl x3), none], [.inl 62, .inr (.inr 86), .inr (.inr 86)], (am_sh, am_mm U2))) 2 (fun _ => rfl) ?_
    obtain ⟨r3, U3, haa1c, haa1a⟩ := haa1
    refine ev_cal (σc := (d, 197, 0, [some (.inr (.inr 86)), some (.inl 62)], [], (am_sh, am_mm U2))) (fun _ => rfl) haa1c ?_
    show Ev kz ((d + 1), 310, 254, [some (.inr (.inr 86)), some (.inl x1), some (.inl x2), some (.inl x3), none], [.inl r3, .inr (.inr 86)], (am_sh, am_mm U3)) R
    refine ev_br (P := r3 = 0) (σ1 := ((d + 1), 310, 262, [some (.inr (.inr 86)), some (.inl x1), some (.inl x2), some (.inl x3), none], [.inr (.inr 86)], (am_sh, am_mm U3))) (σ2 := ((d + 1), 310, 257, [some (.inr (.inr 86)), some (.inl x1), some (.inl x2), some (.inl x3), none], [.inr (.inr 86)], (am_sh, am_mm U3))) 1 (fun _ => rfl) (fun hc => ?_) (fun hc => ?_)
    · have haa1a1 := haa1a.1 hc
      refine ev_seg (σ1 := ((d + 1), 310, 264, [some (.inr (.inr 86)), some (.inl x1), some (.inl x2), some (.inl x3), none], [.inl 19, .inr (.inr 86)], (am_sh, am_mm U3))) 1 (fun _ => rfl) ?_
      exact haa1a1
    · have haa1a2 := haa1a.2 hc
      refine ev_seg (σ1 := ((d + 1), 310, 264, [some (.inr (.inr 86)), some (.inl x1), some (.inl x2), some (.inl x3), none], [.inl 18, .inr (.inr 86)], (am_sh, am_mm U3))) 2 (fun _ => rfl) ?_
      exact haa1a2
  · have haa2 := haa.2 hc
    refine ev_seg (σ1 := ((d + 1), 310, 264, [some (.inr (.inr 86)), some (.inl x1), some (.inl x2), some (.inl x3), none], [.inl 17, .inr (.inr 86)], (am_sh, am_mm U2))) 2 (fun _ => rfl) ?_
    exact haa2
set_option maxRecDepth 8000 in
theorem st310_86_106 (kz : am_Z) (d : Nat) (x1 x2 x3 : Int) (U : Nat → Nat → Int) (R : Option am_V × am_M) (h : Ev kz ((d + 1), 310, 112, [some (.inr (.inr 86)), some (.inl x1), some (.inl x2), some (.inl x3), none], [.inl 5, .inr (.inr 86)], (am_sh, am_mm U)) R) : Ev kz ((d + 1), 310, 106, [some (.inr (.inr 86)), some (.inl x1), some (.inl x2), some (.inl x3), none], [.inr (.inr 86)], (am_sh, am_mm U)) R := by
  refine ev_seg (σ1 := ((d + 1), 310, 112, [some (.inr (.inr 86)), some (.inl x1), some (.inl x2), some (.inl x3), none], [.inl 5, .inr (.inr 86)], (am_sh, am_mm U))) 2 (fun _ => rfl) ?_
  exact h
set_option maxRecDepth 8000 in
theorem st310_86_112 (kz : am_Z) (d : Nat) (x1 x2 x3 s1 : Int) (U : Nat → Nat → Int) (R : Option am_V × am_M) (h : ∃ U1 : Nat → Nat → Int, Ev kz (d, 329, 0, [some (.inr (.inr 86)), some (.inl s1)], [], (am_sh, am_mm U)) (none, (am_sh, am_mm U1)) ∧ ∃ (r2 : Int) (U2 : Nat → Nat → Int), Ev kz (d, 197, 0, [some (.inr (.inr 86)), some (.inl 43)], [], (am_sh, am_mm U1)) (some (.inl r2), (am_sh, am_mm U2)) ∧ (((r2 = 0 : Prop)) → ∃ (r3 : Int) (U3 : Nat → Nat → Int), Ev kz (d, 197, 0, [some (.inr (.inr 86)), some (.inl 45)], [], (am_sh, am_mm U2)) (some (.inl r3), (am_sh, am_mm U3)) ∧ (((r3 = 0 : Prop)) → ∃ (r4 : Int) (U4 : Nat → Nat → Int), Ev kz (d, 197, 0, [some (.inr (.inr 86)), some (.inl 42)], [], (am_sh, am_mm U3)) (some (.inl r4), (am_sh, am_mm U4)) ∧ (((r4 = 0 : Prop)) → ∃ (r5 : Int) (U5 : Nat → Nat → Int), Ev kz (d, 197, 0, [some (.inr (.inr 86)), some (.inl 47)], [], (am_sh, am_mm U4)) (some (.inl r5), (am_sh, am_mm U5)) ∧ (((r5 = 0 : Prop)) → Ev kz ((d + 1), 310, 174, [some (.inr (.inr 86)), some (.inl x1), some (.inl x2), some (.inl x3), none], [.inl 14, .inr (.inr 86)], (am_sh, am_mm U5)) R) ∧ (¬ (r5 = 0) → Ev kz ((d + 1), 310, 174, [some (.inr (.inr 86)), some (.inl x1), some (.inl x2), some (.inl x3), none], [.inl 13, .inr (.inr 86)], (am_sh, am_mm U5)) R)) ∧ (¬ (r4 = 0) → Ev kz ((d + 1), 310, 174, [some (.inr (.inr 86)), some (.inl x1), some (.inl x2), some (.inl x3), none], [.inl 12, .inr (.inr 86)], (am_sh, am_mm U4)) R)) ∧ (¬ (r3 = 0) → Ev kz ((d + 1), 310, 174, [some (.inr (.inr 86)), some (.inl x1), some (.inl x2), some (.inl x3), none], [.inl 11, .inr (.inr 86)], (am_sh, am_mm U3)) R)) ∧ (¬ (r2 = 0) → Ev kz ((d + 1), 310, 174, [some (.inr (.inr 86)), some (.inl x1), some (.inl x2), some (.inl x3), none], [.inl 10, .inr (.inr 86)], (am_sh, am_mm U2)) R)) : Ev kz ((d + 1), 310, 112, [some (.inr (.inr 86)), some (.inl x1), some (.inl x2), some (.inl x3), none], [.inl s1, .inr (.inr 86)], (am_sh, am_mm U)) R := by
  obtain ⟨U1, hc, ha⟩ := h
  refine ev_cal (σc := (d, 329, 0, [some (.inr (.inr 86)), some (.inl s1)], [], (am_sh, am_mm U))) (fun _ => rfl) hc ?_
  show Ev kz ((d + 1), 310, 115, [some (.inr (.inr 86)), some (.inl x1), some (.inl x2), some (.inl x3), none], [], (am_sh, am_mm U1)) R
  refine ev_seg (σ1 := ((d + 1), 310, 119, [some (.inr (.inr 86)), some (.inl x1), some (.inl x2), some (.inl x3), none], [.inl 43, .inr (.inr 86), .inr (.inr 86)], (am_sh, am_mm U1))) 3 (fun _ => rfl) ?_
  obtain ⟨r2, U2, hac, haa⟩ := ha
  refine ev_cal (σc := (d, 197, 0, [some (.inr (.inr 86)), some (.inl 43)], [], (am_sh, am_mm U1))) (fun _ => rfl) hac ?_
  show Ev kz ((d + 1), 310, 122, [some (.inr (.inr 86)), some (.inl x1), some (.inl x2), some (.inl x3), none], [.inl r2, .inr (.inr 86)], (am_sh, am_mm U2)) R
  refine ev_br (P := r2 = 0) (σ1 := ((d + 1), 310, 130, [some (.inr (.inr 86)), some (.inl x1), some (.inl x2), some (.inl x3), none], [.inr (.inr 86)], (am_sh, am_mm U2))) (σ2 := ((d + 1), 310, 125, [some (.inr (.inr 86)), some (.inl x1), some (.inl x2), some (.inl x3), none], [.inr (.inr 86)], (am_sh, am_mm U2))) 1 (fun _ => rfl) (fun hc => ?_) (fun hc => ?_)
  · have haa1 := haa.1 hc
    refine ev_seg (σ1 := ((d + 1), 310, 133, [some (.inr (.inr 86)), some (.inl x1), some (.inl x2), some (.inl x3), none], [.inl 45, .inr (.inr 86), .inr (.inr 86)], (am_sh, am_mm U2))) 2 (fun _ => rfl) ?_
    obtain ⟨r3, U3, haa1c, haa1a⟩ := haa1
    refine ev_cal (σc := (d, 197, 0, [some (.inr (.inr 86)), some (.inl 45)], [], (am_sh, am_mm U2))) (fun _ => rfl) haa1c ?_
    show Ev kz ((d + 1), 310, 136, [some (.inr (.inr 86)), some (.inl x1), some (.inl x2), some (.inl x3), none], [.inl r3, .inr (.inr 86)], (am_sh, am_mm U3)) R
    refine ev_br (P := r3 = 0) (σ1 := ((d + 1), 310, 144, [some (.inr (.inr 86)), some (.inl x1), some (.inl x2), some (.inl x3), none], [.inr (.inr 86)], (am_sh, am_mm U3))) (σ2 := ((d + 1), 310, 139, [some (.inr (.inr 86)), some (.inl x1), some (.inl x2), some (.inl x3), none], [.inr (.inr 86)], (am_sh, am_mm U3))) 1 (fun _ => rfl) (fun hc => ?_) (fun hc => ?_)
    · have haa1a1 := haa1a.1 hc
      refine ev_seg (σ1 := ((d + 1), 310, 147, [some (.inr (.inr 86)), some (.inl x1), some (.inl x2), some (.inl x3), none], [.inl 42, .inr (.inr 86), .inr (.inr 86)], (am_sh, am_mm U3))) 2 (fun _ => rfl) ?_
      obtain ⟨r4, U4, haa1a1c, haa1a1a⟩ := haa1a1
      refine ev_cal (σc := (d, 197, 0, [some (.inr (.inr 86)), some (.inl 42)], [], (am_sh, am_mm U3))) (fun _ => rfl) haa1a1c ?_
      show Ev kz ((d + 1), 310, 150, [some (.inr (.inr 86)), some (.inl x1), some (.inl x2), some (.inl x3), none], [.inl r4, .inr (.inr 86)], (am_sh, am_mm U4)) R
      refine ev_br (P := r4 = 0) (σ1 := ((d + 1), 310, 158, [some (.inr (.inr 86)), some (.inl x1), some (.inl x2), some (.inl x3), none], [.inr (.inr 86)], (am_sh, am_mm U4))) (σ2 := ((d + 1), 310, 153, [some (.inr (.inr 86)), some (.inl x1), some (.inl x2), some (.inl x3), none], [.inr (.inr 86)], (am_sh, am_mm U4))) 1 (fun _ => rfl) (fun hc => ?_) (fun hc => ?_)
      · have haa1a1a1 := haa1a1a.1 hc
        refine ev_seg (σ1 := ((d + 1), 310, 161, [some (.inr (.inr 86)), some (.inl x1), some (.inl x2), some (.inl x3), none], [.inl 47, .inr (.inr 86), .inr (.inr 86)], (am_sh, am_mm U4))) 2 (fun _ => rfl) ?_
        obtain ⟨r5, U5, haa1a1a1c, haa1a1a1a⟩ := haa1a1a1
        refine ev_cal (σc := (d, 197, 0, [some (.inr (.inr 86)), some (.inl 47)], [], (am_sh, am_mm U4))) (fun _ => rfl) haa1a1a1c ?_
        show Ev kz ((d + 1), 310, 164, [some (.inr (.inr 86)), some (.inl x1), some (.inl x2), some (.inl x3), none], [.inl r5, .inr (.inr 86)], (am_sh, am_mm U5)) R
        refine ev_br (P := r5 = 0) (σ1 := ((d + 1), 310, 172, [some (.inr (.inr 86)), some (.inl x1), some (.inl x2), some (.inl x3), none], [.inr (.inr 86)], (am_sh, am_mm U5))) (σ2 := ((d + 1), 310, 167, [some (.inr (.inr 86)), some (.inl x1), some (.inl x2), some (.inl x3), none], [.inr (.inr 86)], (am_sh, am_mm U5))) 1 (fun _ => rfl) (fun hc => ?_) (fun hc => ?_)
        · have haa1a1a1a1 := haa1a1a1a.1 hc
          refine ev_seg (σ1 := ((d + 1), 310, 174, [some (.inr (.inr 86)), some (.inl x1), some (.inl x2), some (.inl x3), none], [.inl 14, .inr (.inr 86)], (am_sh, am_mm U5))) 1 (fun _ => rfl) ?_
          exact haa1a1a1a1
        · have haa1a1a1a2 := haa1a1a1a.2 hc
          refine ev_seg (σ1 := ((d + 1), 310, 174, [some (.inr (.inr 86)), some (.inl x1), some (.inl x2), some (.inl x3), none], [.inl 13, .inr (.inr 86)], (am_sh, am_mm U5))) 2 (fun _ => rfl) ?_
          exact haa1a1a1a2
      · have haa1a1a2 := haa1a1a.2 hc
        refine ev_seg (σ1 := ((d + 1), 310, 174, [some (.inr (.inr 86)), some (.inl x1), some (.inl x2), some (.inl x3), none], [.inl 12, .inr (.inr 86)], (am_sh, am_mm U4))) 2 (fun _ => rfl) ?_
        exact haa1a1a2
    · have haa1a2 := haa1a.2 hc
      refine ev_seg (σ1 := ((d + 1), 310, 174, [some (.inr (.inr 86)), some (.inl x1), some (.inl x2), some (.inl x3), none], [.inl 11, .inr (.inr 86)], (am_sh, am_mm U3))) 2 (fun _ => rfl) ?_
      exact haa1a2
  · have haa2 := haa.2 hc
    refine ev_seg (σ1 := ((d + 1), 310, 174, [some (.inr (.inr 86)), some (.inl x1), some (.inl x2), some (.inl x3), none], [.inl 10, .inr (.inr 86)], (am_sh, am_mm U2))) 2 (fun _ => rfl) ?_
    exact haa2
set_option maxRecDepth 8000 in
theorem st310_86_400 (kz : am_Z) (d : Nat) (x1 x2 x3 : Int) (U : Nat → Nat → Int) (R : Option am_V × am_M) (h : (((x3 = 0 : Prop)) → Ev kz ((d + 1), 310, 422, [some (.inr (.inr 86)), some (.inl x1), some (.inl x2), some (.inl x3), none], [], (am_sh, am_mm U)) R) ∧ (¬ (x3 = 0) → (0 ≤ x1 ∧ x1 < 20) ∧ (((¬ (U 114 x1.toNat) = 0 : Prop)) → Ev kz ((d + 1), 310, 422, [some (.inr (.inr 86)), some (.inl x1), some (.inl x2), some (.inl x3), none], [], (am_sh, am_mm U)) R) ∧ (¬ (¬ (U 114 x1.toNat) = 0) → ∃ U1 : Nat → Nat → Int, Ev kz (d, 196, 0, [some (.inr (.inr 86)), some (.inl 1), some (.inl (U 86 4))], [], (am_sh, am_mm U)) (none, (am_sh, am_mm U1)) ∧ Ev kz ((d + 1), 310, 422, [some (.inr (.inr 86)), some (.inl x1), some (.inl x2), some (.inl x3), none], [], (am_sh, am_mm U1)) R))) : Ev kz ((d + 1), 310, 400, [some (.inr (.inr 86)), some (.inl x1), some (.inl x2), some (.inl x3), none], [], (am_sh, am_mm U)) R := by
  refine ev_br (P := x3 = 0) (σ1 := ((d + 1), 310, 422, [some (.inr (.inr 86)), some (.inl x1), some (.inl x2), some (.inl x3), none], [], (am_sh, am_mm U))) (σ2 := ((d + 1), 310, 404, [some (.inr (.inr 86)), some (.inl x1), some (.inl x2), some (.inl x3), none], [], (am_sh, am_mm U))) 2 (fun _ => rfl) (fun hc => ?_) (fun hc => ?_)
  · have h1 := h.1 hc
    exact h1
  · have h2 := h.2 hc
    refine ev_seg (σ1 := ((d + 1), 310, 409, [some (.inr (.inr 86)), some (.inl x1), some (.inl x2), some (.inl x3), none], [.inl x1, .inr (.inr 114)], (am_sh, am_mm U))) 3 (fun _ => rfl) ?_
    refine eu_iald 114 (n := 20) rfl (by decide) rfl (fun _ => rfl) h2.1 ?_
    have h2a := h2.2
    refine ev_br (P := ¬ (U 114 x1.toNat) = 0) (σ1 := ((d + 1), 310, 422, [some (.inr (.inr 86)), some (.inl x1), some (.inl x2), some (.inl x3), none], [], (am_sh, am_mm U))) (σ2 := ((d + 1), 310, 413, [some (.inr (.inr 86)), some (.inl x1), some (.inl x2), some (.inl x3), none], [], (am_sh, am_mm U))) 1 (fun _ => rfl) (fun hc => ?_) (fun hc => ?_)
    · have h2a1 := h2a.1 hc
      exact h2a1
    · have h2a2 := h2a.2 hc
      refine ev_seg (σ1 := ((d + 1), 310, 419, [some (.inr (.inr 86)), some (.inl x1), some (.inl x2), some (.inl x3), none], [.inl (U 86 4), .inl 1, .inr (.inr 86)], (am_sh, am_mm U))) 4 (fun _ => rfl) ?_
      obtain ⟨U1, h2a2c, h2a2a⟩ := h2a2
      refine ev_cal (σc := (d, 196, 0, [some (.inr (.inr 86)), some (.inl 1), some (.inl (U 86 4))], [], (am_sh, am_mm U))) (fun _ => rfl) h2a2c ?_
      show Ev kz ((d + 1), 310, 422, [some (.inr (.inr 86)), some (.inl x1), some (.inl x2), some (.inl x3), none], [], (am_sh, am_mm U1)) R
      exact h2a2a
set_option maxRecDepth 8000 in
theorem st310_86_309 (kz : am_Z) (d : Nat) (x1 x2 x3 : Int) (U : Nat → Nat → Int) (R : Option am_V × am_M) (h : (0 ≤ x1 ∧ x1 < 20) ∧ (((¬ (U 114 x1.toNat) = 0 : Prop)) → Ev kz ((d + 1), 310, 327, [some (.inr (.inr 86)), some (.inl x1), some (.inl x2), some (.inl x3), none], [], (am_sh, am_mm U)) R) ∧ (¬ (¬ (U 114 x1.toNat) = 0) → ∃ U1 : Nat → Nat → Int, Ev kz (d, 196, 0, [some (.inr (.inr 86)), some (.inl 1), some (.inl (U 86 4))], [], (am_sh, am_mm U)) (none, (am_sh, am_mm U1)) ∧ Ev kz ((d + 1), 310, 327, [some (.inr (.inr 86)), some (.inl x1), some (.inl x2), some (.inl x3), none], [], (am_sh, am_mm U1)) R)) : Ev kz ((d + 1), 310, 309, [some (.inr (.inr 86)), some (.inl x1), some (.inl x2), some (.inl x3), none], [], (am_sh, am_mm U)) R := by
  refine ev_seg (σ1 := ((d + 1), 310, 314, [some (.inr (.inr 86)), some (.inl x1), some (.inl x2), some (.inl x3), none], [.inl x1, .inr (.inr 114)], (am_sh, am_mm U))) 3 (fun _ => rfl) ?_
  refine eu_iald 114 (n := 20) rfl (by decide) rfl (fun _ => rfl) h.1 ?_
  have ha := h.2
  refine ev_br (P := ¬ (U 114 x1.toNat) = 0) (σ1 := ((d + 1), 310, 327, [some (.inr (.inr 86)), some (.inl x1), some (.inl x2), some (.inl x3), none], [], (am_sh, am_mm U))) (σ2 := ((d + 1), 310, 318, [some (.inr (.inr 86)), some (.inl x1), some (.inl x2), some (.inl x3), none], [], (am_sh, am_mm U))) 1 (fun _ => rfl) (fun hc => ?_) (fun hc => ?_)
  · have ha1 := ha.1 hc
    exact ha1
  · have ha2 := ha.2 hc
    refine ev_seg (σ1 := ((d + 1), 310, 324, [some (.inr (.inr 86)), some (.inl x1), some (.inl x2), some (.inl x3), none], [.inl (U 86 4), .inl 1, .inr (.inr 86)], (am_sh, am_mm U))) 4 (fun _ => rfl) ?_
    obtain ⟨U1, ha2c, ha2a⟩ := ha2
    refine ev_cal (σc := (d, 196, 0, [some (.inr (.inr 86)), some (.inl 1), some (.inl (U 86 4))], [], (am_sh, am_mm U))) (fun _ => rfl) ha2c ?_
    show Ev kz ((d + 1), 310, 327, [some (.inr (.inr 86)), some (.inl x1), some (.inl x2), some (.inl x3), none], [], (am_sh, am_mm U1)) R
    exact ha2a
set_option maxRecDepth 8000 in
theorem st310_86_264 (kz : am_Z) (d : Nat) (x1 x2 x3 s1 : Int) (U : Nat → Nat → Int) (R : Option am_V × am_M) (h : ∃ U1 : Nat → Nat → Int, Ev kz (d, 326, 0, [some (.inr (.inr 86)), some (.inl s1)], [], (am_sh, am_mm U)) (none, (am_sh, am_mm U1)) ∧ (0 ≤ x1 ∧ x1 < 20) ∧ ∃ U2 : Nat → Nat → Int, Ev kz (d, 93, 0, [some (.inr (.inr 86)), none, none, none, none, none], [], (am_sh, am_mm (am_upd U1 114 x1.toNat 1))) (none, (am_sh, am_mm U2)) ∧ R = (some (.inl 1), (am_sh, am_mm (am_upd U2 86 50 0)))) : Ev kz ((d + 1), 310, 264, [some (.inr (.inr 86)), some (.inl x1), some (.inl x2), some (.inl x3), none], [.inl s1, .inr (.inr 86)], (am_sh, am_mm U)) R := by
  obtain ⟨U1, hc, ha⟩ := h
  refine ev_cal (σc := (d, 326, 0, [some (.inr (.inr 86)), some (.inl s1)], [], (am_sh, am_mm U))) (fun _ => rfl) hc ?_
  show Ev kz ((d + 1), 310, 267, [some (.inr (.inr 86)), some (.inl x1), some (.inl x2), some (.inl x3), none], [], (am_sh, am_mm U1)) R
  refine ev_seg (σ1 := ((d + 1), 310, 273, [some (.inr (.inr 86)), some (.inl x1), some (.inl x2), some (.inl x3), none], [.inl 1, .inl x1, .inr (.inr 114)], (am_sh, am_mm U1))) 4 (fun _ => rfl) ?_
  refine eu_iast 114 (n := 20) rfl (by decide) rfl (fun _ => rfl) ha.1 ?_
  have haa := ha.2
  refine ev_seg (σ1 := ((d + 1), 310, 275, [some (.inr (.inr 86)), some (.inl x1), some (.inl x2), some (.inl x3), none], [.inr (.inr 86)], (am_sh, am_mm (am_upd U1 114 x1.toNat 1)))) 1 (fun _ => rfl) ?_
  obtain ⟨U2, haac, haaa⟩ := haa
  refine ev_cal (σc := (d, 93, 0, [some (.inr (.inr 86)), none, none, none, none, none], [], (am_sh, am_mm (am_upd U1 114 x1.toNat 1)))) (fun _ => rfl) haac ?_
  show Ev kz ((d + 1), 310, 278, [some (.inr (.inr 86)), some (.inl x1), some (.inl x2), some (.inl x3), none], [], (am_sh, am_mm U2)) R
  refine ev_seg (σ1 := ((d + 1), 310, 280, [some (.inr (.inr 86)), some (.inl x1), some (.inl x2), some (.inl x3), none], [.inl 0, .inr (.inr 86)], (am_sh, am_mm U2))) 2 (fun _ => rfl) ?_
  refine eu_putz 86 (n := 90) rfl (by decide) rfl rfl (by decide) ?_
  subst haaa
  exact ev_end 2 (fun _ => rfl)
set_option maxRecDepth 8000 in
theorem st310_86_174 (kz : am_Z) (d : Nat) (x1 x2 x3 s1 : Int) (U : Nat → Nat → Int) (R : Option am_V × am_M) (h : ∃ U1 : Nat → Nat → Int, Ev kz (d, 326, 0, [some (.inr (.inr 86)), some (.inl s1)], [], (am_sh, am_mm U)) (none, (am_sh, am_mm U1)) ∧ ∃ U2 : Nat → Nat → Int, Ev kz (d, 93, 0, [some (.inr (.inr 86)), none, none, none, none, none], [], (am_sh, am_mm U1)) (none, (am_sh, am_mm U2)) ∧ R = (some (.inl 1), (am_sh, am_mm (am_upd U2 86 50 0)))) : Ev kz ((d + 1), 310, 174, [some (.inr (.inr 86)), some (.inl x1), some (.inl x2), some (.inl x3), none], [.inl s1, .inr (.inr 86)], (am_sh, am_mm U)) R := by
  obtain ⟨U1, hc, ha⟩ := h
  refine ev_cal (σc := (d, 326, 0, [some (.inr (.inr 86)), some (.inl s1)], [], (am_sh, am_mm U))) (fun _ => rfl) hc ?_
  show Ev kz ((d + 1), 310, 177, [some (.inr (.inr 86)), some (.inl x1), some (.inl x2), some (.inl x3), none], [], (am_sh, am_mm U1)) R
  refine ev_seg (σ1 := ((d + 1), 310, 178, [some (.inr (.inr 86)), some (.inl x1), some (.inl x2), some (.inl x3), none], [.inr (.inr 86)], (am_sh, am_mm U1))) 1 (fun _ => rfl) ?_
  obtain ⟨U2, hac, haa⟩ := ha
  refine ev_cal (σc := (d, 93, 0, [some (.inr (.inr 86)), none, none, none, none, none], [], (am_sh, am_mm U1))) (fun _ => rfl) hac ?_
  show Ev kz ((d + 1), 310, 181, [some (.inr (.inr 86)), some (.inl x1), some (.inl x2), some (.inl x3), none], [], (am_sh, am_mm U2)) R
  refine ev_seg (σ1 := ((d + 1), 310, 183, [some (.inr (.inr 86)), some (.inl x1), some (.inl x2), some (.inl x3), none], [.inl 0, .inr (.inr 86)], (am_sh, am_mm U2))) 2 (fun _ => rfl) ?_
  refine eu_putz 86 (n := 90) rfl (by decide) rfl rfl (by decide) ?_
  subst haa
  exact ev_end 2 (fun _ => rfl)
set_option maxRecDepth 8000 in
theorem st310_86_422 (kz : am_Z) (d : Nat) (x1 x2 x3 : Int) (U : Nat → Nat → Int) (R : Option am_V × am_M) (h : (((2 ≤ x2 : Prop)) → (((¬ x2 = 3 : Prop)) → (((¬ x2 = 5 : Prop)) → ∃ (r1 : Int) (U1 : Nat → Nat → Int), Ev kz (d, 197, 0, [some (.inr (.inr 86)), some (.inl 41)], [], (am_sh, am_mm U)) (some (.inl r1), (am_sh, am_mm U1)) ∧ (((¬ r1 = 0 : Prop)) → ((((U1 86 8) ≤ 0 : Prop)) → ∃ U2 : Nat → Nat → Int, Ev kz (d, 329, 0, [some (.inr (.inr 86)), some (.inl 1)], [], (am_sh, am_mm U1)) (none, (am_sh, am_mm U2)) ∧ (((¬ x2 = 4 : Prop)) → (((¬ x2 = 5 : Prop)) → ∃ U3 : Nat → Nat → Int, Ev kz (d, 93, 0, [some (.inr (.inr 86)), none, none, none, none, none], [], (am_sh, am_mm (am_upd (am_upd U2 86 46 (w32 ((U2 86 46) - 1))) 86 47 (w32 (((am_upd U2 86 46 (w32 ((U2 86 46) - 1))) 86 47) - 1))))) (none, (am_sh, am_mm U3)) ∧ R = (some (.inl 1), (am_sh, am_mm U3))) ∧ (¬ (¬ x2 = 5) → (0 ≤ (w32 (((am_upd (am_upd U2 86 46 (w32 ((U2 86 46) - 1))) 86 47 (w32 (((am_upd U2 86 46 (w32 ((U2 86 46) - 1))) 86 47) - 1))) 86 46) - 1)) ∧ (w32 (((am_upd (am_upd U2 86 46 (w32 ((U2 86 46) - 1))) 86 47 (w32 (((am_upd U2 86 46 (w32 ((U2 86 46) - 1))) 86 47) - 1))) 86 46) - 1)) < 20) ∧ ∃ U4 : Nat → Nat → Int, Ev kz (d, 93, 0, [some (.inr (.inr 86)), none, none, none, none, none], [], (am_sh, am_mm (am_upd (am_upd (am_upd U2 86 46 (w32 ((U2 86 46) - 1))) 86 47 (w32 (((am_upd U2 86 46 (w32 ((U2 86 46) - 1))) 86 47) - 1))) 114 (w32 (((am_upd (am_upd U2 86 46 (w32 ((U2 86 46) - 1))) 86 47 (w32 (((am_upd U2 86 46 (w32 ((U2 86 46) - 1))) 86 47) - 1))) 86 46) - 1)).toNat 2))) (none, (am_sh, am_mm U4)) ∧ R = (some (.inl 1), (am_sh, am_mm U4)))) ∧ (¬ (¬ x2 = 4) → (0 ≤ x1 ∧ x1 < 20) ∧ ∃ U5 : Nat → Nat → Int, Ev kz (d, 328, 0, [some (.inr (.inr 86)), some (.inl ((am_upd (am_upd U2 86 46 (w32 ((U2 86 46) - 1))) 86 47 (w32 (((am_upd U2 86 46 (w32 ((U2 86 46) - 1))) 86 47) - 1))) 116 x1.toNat)), some (.inl 0)], [], (am_sh, am_mm (am_upd (am_upd U2 86 46 (w32 ((U2 86 46) - 1))) 86 47 (w32 (((am_upd U2 86 46 (w32 ((U2 86 46) - 1))) 86 47) - 1))))) (none, (am_sh, am_mm U5)) ∧ (((¬ x2 = 5 : Prop)) → ∃ U6 : Nat → Nat → Int, Ev kz (d, 93, 0, [some (.inr (.inr 86)), none, none, none, none, none], [], (am_sh, am_mm U5)) (none, (am_sh, am_mm U6)) ∧ R = (some (.inl 1), (am_sh, am_mm U6))) ∧ (¬ (¬ x2 = 5) → (0 ≤ (w32 ((U5 86 46) - 1)) ∧ (w32 ((U5 86 46) - 1)) < 20) ∧ ∃ U7 : Nat → Nat → Int, Ev kz (d, 93, 0, [some (.inr (.inr 86)), none, none, none, none, none], [], (am_sh, am_mm (am_upd U5 114 (w32 ((U5 86 46) - 1)).toNat 2))) (none, (am_sh, am_mm U7)) ∧ R = (some (.inl 1), (am_sh, am_mm U7))))) ∧ (¬ ((U1 86 8) ≤ 0) → R = (some (.inl 0), (am_sh, am_mm U1)))) ∧ (¬ (¬ r1 = 0) → ∃ U8 : Nat → Nat → Int, Ev kz (d, 196, 0, [some (.inr (.inr 86)), some (.inl 1), some (.inl (U1 86 4))], [], (am_sh, am_mm U1)) (none, (am_sh, am_mm U8)) ∧ ((((U8 86 8) ≤ 0 : Prop)) → ∃ U9 : Nat → Nat → Int, Ev kz (d, 329, 0, [some (.inr (.inr 86)), some (.inl 1)], [], (am_sh, am_mm U8)) (none, (am_sh, am_mm U9)) ∧ (((¬ x2 = 4 : Prop)) → (((¬ x2 = 5 : Prop)) → ∃ U10 : Nat → Nat → Int, Ev kz (d, 93, 0, [some (.inr (.inr 86)), none, none, none, none, none], [], (am_sh, am_mm (am_upd (am_upd U9 86 46 (w32 ((U9 86 46) - 1))) 86 47 (w32 (((am_upd U9 86 46 (w32 ((U9 86 46) - 1))) 86 47) - 1))))) (none, (am_sh, am_mm U10)) ∧ R = (some (.inl 1), (am_sh, am_mm U10))) ∧ (¬ (¬ x2 = 5) → (0 ≤ (w32 (((am_upd (am_upd U9 86 46 (w32 ((U9 86 46) - 1))) 86 47 (w32 (((am_upd U9 86 46 (w32 ((U9 86 46) - 1))) 86 47) - 1))) 86 46) - 1)) ∧ (w32 (((am_upd (am_upd U9 86 46 (w32 ((U9 86 46) - 1))) 86 47 (w32 (((am_upd U9 86 46 (w32 ((U9 86 46) - 1))) 86 47) - 1))) 86 46) - 1)) < 20) ∧ ∃ U11 : Nat → Nat → Int, Ev kz (d, 93, 0, [some (.inr (.inr 86)), none, none, none, none, none], [], (am_sh, am_mm (am_upd (am_upd (am_upd U9 86 46 (w32 ((U9 86 46) - 1))) 86 47 (w32 (((am_upd U9 86 46 (w32 ((U9 86 46) - 1))) 86 47) - 1))) 114 (w32 (((am_upd (am_upd U9 86 46 (w32 ((U9 86 46) - 1))) 86 47 (w32 (((am_upd U9 86 46 (w32 ((U9 86 46) - 1))) 86 47) - 1))) 86 46) - 1)).toNat 2))) (none, (am_sh, am_mm U11)) ∧ R = (some (.inl 1), (am_sh, am_mm U11)))) ∧ (¬ (¬ x2 = 4) → (0 ≤ x1 ∧ x1 < 20) ∧ ∃ U12 : Nat → Nat → Int, Ev kz (d, 328, 0, [some (.inr (.inr 86)), some (.inl ((am_upd (am_upd U9 86 46 (w32 ((U9 86 46) - 1))) 86 47 (w32 (((am_upd U9 86 46 (w32 ((U9 86 46) - 1))) 86 47) - 1))) 116 x1.toNat)), some (.inl 0)], [], (am_sh, am_mm (am_upd (am_upd U9 86 46 (w32 ((U9 86 46) - 1))) 86 47 (w32 (((am_upd U9 86 46 (w32 ((U9 86 46) - 1))) 86 47) - 1))))) (none, (am_sh, am_mm U12)) ∧ (((¬ x2 = 5 : Prop)) → ∃ U13 : Nat → Nat → Int, Ev kz (d, 93, 0, [some (.inr (.inr 86)), none, none, none, none, none], [], (am_sh, am_mm U12)) (none, (am_sh, am_mm U13)) ∧ R = (some (.inl 1), (am_sh, am_mm U13))) ∧ (¬ (¬ x2 = 5) → (0 ≤ (w32 ((U12 86 46) - 1)) ∧ (w32 ((U12 86 46) - 1)) < 20) ∧ ∃ U14 : Nat → Nat → Int, Ev kz (d, 93, 0, [some (.inr (.inr 86)), none, none, none, none, none], [], (am_sh, am_mm (am_upd U12 114 (w32 ((U12 86 46) - 1)).toNat 2))) (none, (am_sh, am_mm U14)) ∧ R = (some (.inl 1), (am_sh, am_mm U14))))) ∧ (¬ ((U8 86 8) ≤ 0) → R = (some (.inl 0), (am_sh, am_mm U8))))) ∧ (¬ (¬ x2 = 5) → ∃ (r15 : Int) (U15 : Nat → Nat → Int), Ev kz (d, 197, 0, [some (.inr (.inr 86)), some (.inl 93)], [], (am_sh, am_mm U)) (some (.inl r15), (am_sh, am_mm U15)) ∧ (((¬ r15 = 0 : Prop)) → ((((U15 86 8) ≤ 0 : Prop)) → ∃ U16 : Nat → Nat → Int, Ev kz (d, 329, 0, [some (.inr (.inr 86)), some (.inl 1)], [], (am_sh, am_mm U15)) (none, (am_sh, am_mm U16)) ∧ (((¬ x2 = 4 : Prop)) → (((¬ x2 = 5 : Prop)) → ∃ U17 : Nat → Nat → Int, Ev kz (d, 93, 0, [some (.inr (.inr 86)), none, none, none, none, none], [], (am_sh, am_mm (am_upd (am_upd U16 86 46 (w32 ((U16 86 46) - 1))) 86 47 (w32 (((am_upd U16 86 46 (w32 ((U16 86 46) - 1))) 86 47) - 1))))) (none, (am_sh, am_mm U17)) ∧ R = (some (.inl 1), (am_sh, am_mm U17))) ∧ (¬ (¬ x2 = 5) → (0 ≤ (w32 (((am_upd (am_upd U16 86 46 (w32 ((U16 86 46) - 1))) 86 47 (w32 (((am_upd U16 86 46 (w32 ((U16 86 46) - 1))) 86 47) - 1))) 86 46) - 1)) ∧ (w32 (((am_upd (am_upd U16 86 46 (w32 ((U16 86 46) - 1))) 86 47 (w32 (((am_upd U16 86 46 (w32 ((U16 86 46) - 1))) 86 47) - 1))) 86 46) - 1)) < 20) ∧ ∃ U18 : Nat → Nat → Int, Ev kz (d, 93, 0, [some (.inr (.inr 86)), none, none, none, none, none], [], (am_sh, am_mm (am_upd (am_upd (am_upd U16 86 46 (w32 ((U16 86 46) - 1))) 86 47 (w32 (((am_upd U16 86 46 (w32 ((U16 86 46) - 1))) 86 47) - 1))) 114 (w32 (((am_upd (am_upd U16 86 46 (w32 ((U16 86 46) - 1))) 86 47 (w32 (((am_upd U16 86 46 (w32 ((U16 86 46) - 1))) 86 47) - 1))) 86 46) - 1)).toNat 2))) (none, (am_sh, am_mm U18)) ∧ R = (some (.inl 1), (am_sh, am_mm U18)))) ∧ (¬ (¬ x2 = 4) → (0 ≤ x1 ∧ x1 < 20) ∧ ∃ U19 : Nat → Nat → Int, Ev kz (d, 328, 0, [some (.inr (.inr 86)), some (.inl ((am_upd (am_upd U16 86 46 (w32 ((U16 86 46) - 1))) 86 47 (w32 (((am_upd U16 86 46 (w32 ((U16 86 46) - 1))) 86 47) - 1))) 116 x1.toNat)), some (.inl 0)], [], (am_sh, am_mm (am_upd (am_upd U16 86 46 (w32 ((U16 86 46) - 1))) 86 47 (w32 (((am_upd U16 86 46 (w32 ((U16 86 46) - 1))) 86 47) - 1))))) (none, (am_sh, am_mm U19)) ∧ (((¬ x2 = 5 : Prop)) → ∃ U20 : Nat → Nat → Int, Ev kz (d, 93, 0, [some (.inr (.inr 86)), none, none, none, none, none], [], (am_sh, am_mm U19)) (none, (am_sh, am_mm U20)) ∧ R = (some (.inl 1), (am_sh, am_mm U20))) ∧ (¬ (¬ x2 = 5) → (0 ≤ (w32 ((U19 86 46) - 1)) ∧ (w32 ((U19 86 46) - 1)) < 20) ∧ ∃ U21 : Nat → Nat → Int, Ev kz (d, 93, 0, [some (.inr (.inr 86)), none, none, none, none, none], [], (am_sh, am_mm (am_upd U19 114 (w32 ((U19 86 46) - 1)).toNat 2))) (none, (am_sh, am_mm U21)) ∧ R = (some (.inl 1), (am_sh, am_mm U21))))) ∧ (¬ ((U15 86 8) ≤ 0) → R = (some (.inl 0), (am_sh, am_mm U15)))) ∧ (¬ (¬ r15 = 0) → ∃ U22 : Nat → Nat → Int, Ev kz (d, 196, 0, [some (.inr (.inr 86)), some (.inl 1), some (.inl (U15 86 4))], [], (am_sh, am_mm U15)) (none, (am_sh, am_mm U22)) ∧ ((((U22 86 8) ≤ 0 : Prop)) → ∃ U23 : Nat → Nat → Int, Ev kz (d, 329, 0, [some (.inr (.inr 86)), some (.inl 1)], [], (am_sh, am_mm U22)) (none, (am_sh, am_mm U23)) ∧ (((¬ x2 = 4 : Prop)) → (((¬ x2 = 5 : Prop)) → ∃ U24 : Nat → Nat → Int, Ev kz (d, 93, 0, [some (.inr (.inr 86)), none, none, none, none, none], [], (am_sh, am_mm (am_upd (am_upd U23 86 46 (w32 ((U23 86 46) - 1))) 86 47 (w32 (((am_upd U23 86 46 (w32 ((U23 86 46) - 1))) 86 47) - 1))))) (none, (am_sh, am_mm U24)) ∧ R = (some (.inl 1), (am_sh, am_mm U24))) ∧ (¬ (¬ x2 = 5) → (0 ≤ (w32 (((am_upd (am_upd U23 86 46 (w32 ((U23 86 46) - 1))) 86 47 (w32 (((am_upd U23 86 46 (w32 ((U23 86 46) - 1))) 86 47) - 1))) 86 46) - 1)) ∧ (w32 (((am_upd (am_upd U23 86 46 (w32 ((U23 86 46) - 1))) 86 47 (w32 (((am_upd U23 86 46 (w32 ((U23 86 46) - 1))) 86 47) - 1))) 86 46) - 1)) < 20) ∧ ∃ U25 : Nat → Nat → Int, Ev kz (d, 93, 0, [some (.inr (.inr 86)), none, none, none, none, none], [], (am_sh, am_mm (am_upd (am_upd (am_upd U23 86 46 (w32 ((U23 86 46) - 1))) 86 47 (w32 (((am_upd U23 86 46 (w32 ((U23 86 46) - 1))) 86 47) - 1))) 114 (w32 (((am_upd (am_upd U23 86 46 (w32 ((U23 86 46) - 1))) 86 47 (w32 (((am_upd U23 86 46 (w32 ((U23 86 46) - 1))) 86 47) - 1))) 86 46) - 1)).toNat 2))) (none, (am_sh, am_mm U25)) ∧ R = (some (.inl 1), (am_sh, am_mm U25)))) ∧ (¬ (¬ x2 = 4) → (0 ≤ x1 ∧ x1 < 20) ∧ ∃ U26 : Nat → Nat → Int, Ev kz (d, 328, 0, [some (.inr (.inr 86)), some (.inl ((am_upd (am_upd U23 86 46 (w32 ((U23 86 46) - 1))) 86 47 (w32 (((am_upd U23 86 46 (w32 ((U23 86 46) - 1))) 86 47) - 1))) 116 x1.toNat)), some (.inl 0)], [], (am_sh, am_mm (am_upd (am_upd U23 86 46 (w32 ((U23 86 46) - 1))) 86 47 (w32 (((am_upd U23 86 46 (w32 ((U23 86 46) - 1))) 86 47) - 1))))) (none, (am_sh, am_mm U26)) ∧ (((¬ x2 = 5 : Prop)) → ∃ U27 : Nat → Nat → Int, Ev kz (d, 93, 0, [some (.inr (.inr 86)), none, none, none, none, none], [], (am_sh, am_mm U26)) (none, (am_sh, am_mm U27)) ∧ R = (some (.inl 1), (am_sh, am_mm U27))) ∧ (¬ (¬ x2 = 5) → (0 ≤ (w32 ((U26 86 46) - 1)) ∧ (w32 ((U26 86 46) - 1)) < 20) ∧ ∃ U28 : Nat → Nat → Int, Ev kz (d, 93, 0, [some (.inr (.inr 86)), none, none, none, none, none], [], (am_sh, am_mm (am_upd U26 114 (w32 ((U26 86 46) - 1)).toNat 2))) (none, (am_sh, am_mm U28)) ∧ R = (some (.inl 1), (am_sh, am_mm U28))))) ∧ (¬ ((U22 86 8) ≤ 0) → R = (some (.inl 0), (am_sh, am_mm U22)))))) ∧ (¬ (¬ x2 = 3) → ∃ (r29 : Int) (U29 : Nat → Nat → Int), Ev kz (d, 197, 0, [some (.inr (.inr 86)), some (.inl 44)], [], (am_sh, am_mm U)) (some (.inl r29), (am_sh, am_mm U29)) ∧ (((¬ r29 = 0 : Prop)) → Ev kz ((d + 1), 310, 464, [some (.inr (.inr 86)), some (.inl x1), some (.inl x2), some (.inl x3), none], [], (am_sh, am_mm U29)) R) ∧ (¬ (¬ r29 = 0) → ∃ U30 : Nat → Nat → Int, Ev kz (d, 196, 0, [some (.inr (.inr 86)), some (.inl 1), some (.inl (U29 86 4))], [], (am_sh, am_mm U29)) (none, (am_sh, am_mm U30)) ∧ Ev kz ((d + 1), 310, 464, [some (.inr (.inr 86)), some (.inl x1), some (.inl x2), some (.inl x3), none], [], (am_sh, am_mm U30)) R))) ∧ (¬ (2 ≤ x2) → (((¬ (U 86 8) = 0 : Prop)) → Ev kz ((d + 1), 310, 439, [some (.inr (.inr 86)), some (.inl x1), some (.inl x2), some (.inl x3), none], [], (am_sh, am_mm U)) R) ∧ (¬ (¬ (U 86 8) = 0) → ∃ U31 : Nat → Nat → Int, Ev kz (d, 329, 0, [some (.inr (.inr 86)), some (.inl 1)], [], (am_sh, am_mm U)) (none, (am_sh, am_mm U31)) ∧ Ev kz ((d + 1), 310, 439, [some (.inr (.inr 86)), some (.inl x1), some (.inl x2), some (.inl x3), none], [], (am_sh, am_mm U31)) R))) : Ev kz ((d + 1), 310, 422, [some (.inr (.inr 86)), some (.inl x1), some (.inl x2), some (.inl x3), none], [], (am_sh, am_mm U)) R := by
  refine ev_br (P := 2 ≤ x2) (σ1 := ((d + 1), 310, 441, [some (.inr (.inr 86)), some (.inl x1), some (.inl x2), some (.inl x3), none], [], (am_sh, am_mm U))) (σ2 := ((d + 1), 310, 427, [some (.inr (.inr 86)), some (.inl x1), some (.inl x2), some (.inl x3), none], [], (am_sh, am_mm U))) 3 (fun _ => rfl) (fun hc => ?_) (fun hc => ?_)
  · have h1 := h.1 hc
    refine ev_br (P := ¬ x2 = 3) (σ1 := ((d + 1), 310, 496, [some (.inr (.inr 86)), some (.inl x1), some (.inl x2), some (.inl x3), none], [], (am_sh, am_mm U))) (σ2 := ((d + 1), 310, 446, [some (.inr (.inr 86)), some (.inl x1), some (.inl x2), some (.inl x3), none], [], (am_sh, am_mm U))) 3 (fun _ => rfl) (fun hc => ?_) (fun hc => ?_)
    · have h11 := h1.1 hc
      refine ev_br (P := ¬ x2 = 5) (σ1 := ((d + 1), 310, 507, [some (.inr (.inr 86)), some (.inl x1), some (.inl x2), some (.inl x3), none], [.inr (.inr 86)], (am_sh, am_mm U))) (σ2 := ((d + 1), 310, 502, [some (.inr (.inr 86)), some (.inl x1), some (.inl x2), some (.inl x3), none], [.inr (.inr 86)], (am_sh, am_mm U))) 4 (fun _ => rfl) (fun hc => ?_) (fun hc => ?_)
      · have h111 := h11.1 hc
        refine ev_seg (σ1 := ((d + 1), 310, 509, [some (.inr (.inr 86)), some (.inl x1), some (.inl x2), some (.inl x3), none], [.inl 41, .inr (.inr 86)], (am_sh, am_mm U))) 1 (fun _ => rfl) ?_
        obtain ⟨r1, U1, h111c, h111a⟩ := h111
        refine ev_cal (σc := (d, 197, 0, [some (.inr (.inr 86)), some (.inl 41)], [], (am_sh, am_mm U))) (fun _ => rfl) h111c ?_
        show Ev kz ((d + 1), 310, 512, [some (.inr (.inr 86)), some (.inl x1), some (.inl x2), some (.inl x3), none], [.inl r1], (am_sh, am_mm U1)) R
        refine ev_br (P := ¬ r1 = 0) (σ1 := ((d + 1), 310, 524, [some (.inr (.inr 86)), some (.inl x1), some (.inl x2), some (.inl x3), none], [], (am_sh, am_mm U1))) (σ2 := ((d + 1), 310, 515, [some (.inr (.inr 86)), some (.inl x1), some (.inl x2), some (.inl x3), none], [], (am_sh, am_mm U1))) 1 (fun _ => rfl) (fun hc => ?_) (fun hc => ?_)
        · have h111a1 := h111a.1 hc
          refine ev_br (P := (U1 86 8) ≤ 0) (σ1 := ((d + 1), 310, 533, [some (.inr (.inr 86)), some (.inl x1), some (.inl x2), some (.inl x3), none], [], (am_sh, am_mm U1))) (σ2 := ((d + 1), 310, 531, [some (.inr (.inr 86)), some (.inl x1), some (.inl x2), some (.inl x3), none], [], (am_sh, am_mm U1))) 3 (fun _ => rfl) (fun hc => ?_) (fun hc => ?_)
          · have h111a11 := h111a1.1 hc
            refine ev_seg (σ1 := ((d + 1), 310, 535, [some (.inr (.inr 86)), some (.inl x1), some (.inl x2), some (.inl x3), none], [.inl 1, .inr (.inr 86)], (am_sh, am_mm U1))) 2 (fun _ => rfl) ?_
            obtain ⟨U2, h111a11c, h111a11a⟩ := h111a11
            refine ev_cal (σc := (d, 329, 0, [some (.inr (.inr 86)), some (.inl 1)], [], (am_sh, am_mm U1))) (fun _ => rfl) h111a11c ?_
            show Ev kz ((d + 1), 310, 538, [some (.inr (.inr 86)), some (.inl x1), some (.inl x2), some (.inl x3), none], [], (am_sh, am_mm U2)) R
            refine ev_seg (σ1 := ((d + 1), 310, 545, [some (.inr (.inr 86)), some (.inl x1), some (.inl x2), some (.inl x3), none], [.inl (w32 ((U2 86 46) - 1)), .inr (.inr 86)], (am_sh, am_mm U2))) 5 (fun _ => rfl) ?_
            refine eu_puti 86 (n := 90) rfl (by decide) rfl rfl ?_
            refine ev_seg (σ1 := ((d + 1), 310, 555, [some (.inr (.inr 86)), some (.inl x1), some (.inl x2), some (.inl x3), none], [.inl (w32 (((am_upd U2 86 46 (w32 ((U2 86 46) - 1))) 86 47) - 1)), .inr (.inr 86)], (am_sh, am_mm (am_upd U2 86 46 (w32 ((U2 86 46) - 1)))))) 5 (fun _ => rfl) ?_
            refine eu_puti 86 (n := 90) rfl (by decide) rfl rfl ?_
            refine ev_br (P := ¬ x2 = 4) (σ1 := ((d + 1), 310, 574, [some (.inr (.inr 86)), some (.inl x1), some (.inl x2), some (.inl x3), none], [], (am_sh, am_mm (am_upd (am_upd U2 86 46 (w32 ((U2 86 46) - 1))) 86 47 (w32 (((am_upd U2 86 46 (w32 ((U2 86 46) - 1))) 86 47) - 1)))))) (σ2 := ((d + 1), 310, 563, [some (.inr (.inr 86)), some (.inl x1), some (.inl x2), some (.inl x3), none], [], (am_sh, am_mm (am_upd (am_upd U2 86 46 (w32 ((U2 86 46) - 1))) 86 47 (w32 (((am_upd U2 86 46 (w32 ((U2 86 46) - 1))) 86 47) - 1)))))) 3 (fun _ => rfl) (fun hc => ?_) (fun hc => ?_)
            · have h111a11a1 := h111a11a.1 hc
              refine ev_br (P := ¬ x2 = 5) (σ1 := ((d + 1), 310, 591, [some (.inr (.inr 86)), some (.inl x1), some (.inl x2), some (.inl x3), none], [], (am_sh, am_mm (am_upd (am_upd U2 86 46 (w32 ((U2 86 46) - 1))) 86 47 (w32 (((am_upd U2 86 46 (w32 ((U2 86 46) - 1))) 86 47) - 1)))))) (σ2 := ((d + 1), 310, 579, [some (.inr (.inr 86)), some (.inl x1), some (.inl x2), some (.inl x3), none], [], (am_sh, am_mm (am_upd (am_upd U2 86 46 (w32 ((U2 86 46) - 1))) 86 47 (w32 (((am_upd U2 86 46 (w32 ((U2 86 46) - 1))) 86 47) - 1)))))) 3 (fun _ => rfl) (fun hc => ?_) (fun hc => ?_)
              · have h111a11a11 := h111a11a1.1 hc
                refine ev_seg (σ1 := ((d + 1), 310, 592, [some (.inr (.inr 86)), some (.inl x1), some (.inl x2), some (.inl x3), none], [.inr (.inr 86)], (am_sh, am_mm (am_upd (am_upd U2 86 46 (w32 ((U2 86 46) - 1))) 86 47 (w32 (((am_upd U2 86 46 (w32 ((U2 86 46) - 1))) 86 47) - 1)))))) 1 (fun _ => rfl) ?_
                obtain ⟨U3, h111a11a11c, h111a11a11a⟩ := h111a11a11
                refine ev_cal (σc := (d, 93, 0, [some (.inr (.inr 86)), none, none, none, none, none], [], (am_sh, am_mm (am_upd (am_upd U2 86 46 (w32 ((U2 86 46) - 1))) 86 47 (w32 (((am_upd U2 86 46 (w32 ((U2 86 46) - 1))) 86 47) - 1)))))) (fun _ => rfl) h111a11a11c ?_
                show Ev kz ((d + 1), 310, 595, [some (.inr (.inr 86)), some (.inl x1), some (.inl x2), some (.inl x3), none], [], (am_sh, am_mm U3)) R
                subst h111a11a11a
                exact ev_end 2 (fun _ => rfl)
              · have h111a11a12 := h111a11a1.2 hc
                refine ev_seg (σ1 := ((d + 1), 310, 590, [some (.inr (.inr 86)), some (.inl x1), some (.inl x2), some (.inl x3), none], [.inl 2, .inl (w32 (((am_upd (am_upd U2 86 46 (w32 ((U2 86 46) - 1))) 86 47 (w32 (((am_upd U2 86 46 (w32 ((U2 86 46) - 1))) 86 47) - 1))) 86 46) - 1)), .inr (.inr 114)], (am_sh, am_mm (am_upd (am_upd U2 86 46 (w32 ((U2 86 46) - 1))) 86 47 (w32 (((am_upd U2 86 46 (w32 ((U2 86 46) - 1))) 86 47) - 1)))))) 7 (fun _ => rfl) ?_
                refine eu_iast 114 (n := 20) rfl (by decide) rfl (fun _ => rfl) h111a11a12.1 ?_
                have h111a11a12a := h111a11a12.2
                refine ev_seg (σ1 := ((d + 1), 310, 592, [some (.inr (.inr 86)), some (.inl x1), some (.inl x2), some (.inl x3), none], [.inr (.inr 86)], (am_sh, am_mm (am_upd (am_upd (am_upd U2 86 46 (w32 ((U2 86 46) - 1))) 86 47 (w32 (((am_upd U2 86 46 (w32 ((U2 86 46) - 1))) 86 47) - 1))) 114 (w32 (((am_upd (am_upd U2 86 46 (w32 ((U2 86 46) - 1))) 86 47 (w32 (((am_upd U2 86 46 (w32 ((U2 86 46) - 1))) 86 47) - 1))) 86 46) - 1)).toNat 2)))) 1 (fun _ => rfl) ?_
                obtain ⟨U4, h111a11a12ac, h111a11a12aa⟩ := h111a11a12a
                refine ev_cal (σc := (d, 93, 0, [some (.inr (.inr 86)), none, none, none, none, none], [], (am_sh, am_mm (am_upd (am_upd (am_upd U2 86 46 (w32 ((U2 86 46) - 1))) 86 47 (w32 (((am_upd U2 86 46 (w32 ((U2 86 46) - 1))) 86 47) - 1))) 114 (w32 (((am_upd (am_upd U2 86 46 (w32 ((U2 86 46) - 1))) 86 47 (w32 (((am_upd U2 86 46 (w32 ((U2 86 46) - 1))) 86 47) - 1))) 86 46) - 1)).toNat 2)))) (fun _ => rfl) h111a11a12ac ?_
                show Ev kz ((d + 1), 310, 595, [some (.inr (.inr 86)), some (.inl x1), some (.inl x2), some (.inl x3), none], [], (am_sh, am_mm U4)) R
                subst h111a11a12aa
                exact ev_end 2 (fun _ => rfl)
            · have h111a11a2 := h111a11a.2 hc
              refine ev_seg (σ1 := ((d + 1), 310, 569, [some (.inr (.inr 86)), some (.inl x1), some (.inl x2), some (.inl x3), none], [.inl x1, .inr (.inr 116), .inr (.inr 86)], (am_sh, am_mm (am_upd (am_upd U2 86 46 (w32 ((U2 86 46) - 1))) 86 47 (w32 (((am_upd U2 86 46 (w32 ((U2 86 46) - 1))) 86 47) - 1)))))) 4 (fun _ => rfl) ?_
              refine eu_iald 116 (n := 20) rfl (by decide) rfl (fun _ => rfl) h111a11a2.1 ?_
              have h111a11a2a := h111a11a2.2
              refine ev_seg (σ1 := ((d + 1), 310, 571, [some (.inr (.inr 86)), some (.inl x1), some (.inl x2), some (.inl x3), none], [.inl 0, .inl ((am_upd (am_upd U2 86 46 (w32 ((U2 86 46) - 1))) 86 47 (w32 (((am_upd U2 86 46 (w32 ((U2 86 46) - 1))) 86 47) - 1))) 116 x1.toNat), .inr (.inr 86)], (am_sh, am_mm (am_upd (am_upd U2 86 46 (w32 ((U2 86 46) - 1))) 86 47 (w32 (((am_upd U2 86 46 (w32 ((U2 86 46) - 1))) 86 47) - 1)))))) 1 (fun _ => rfl) ?_
              obtain ⟨U5, h111a11a2ac, h111a11a2aa⟩ := h111a11a2a
              refine ev_cal (σc := (d, 328, 0, [some (.inr (.inr 86)), some (.inl ((am_upd (am_upd U2 86 46 (w32 ((U2 86 46) - 1))) 86 47 (w32 (((am_upd U2 86 46 (w32 ((U2 86 46) - 1))) 86 47) - 1))) 116 x1.toNat)), some (.inl 0)], [], (am_sh, am_mm (am_upd (am_upd U2 86 46 (w32 ((U2 86 46) - 1))) 86 47 (w32 (((am_upd U2 86 46 (w32 ((U2 86 46) - 1))) 86 47) - 1)))))) (fun _ => rfl) h111a11a2ac ?_
              show Ev kz ((d + 1), 310, 574, [some (.inr (.inr 86)), some (.inl x1), some (.inl x2), some (.inl x3), none], [], (am_sh, am_mm U5)) R
              refine ev_br (P := ¬ x2 = 5) (σ1 := ((d + 1), 310, 591, [some (.inr (.inr 86)), some (.inl x1), some (.inl x2), some (.inl x3), none], [], (am_sh, am_mm U5))) (σ2 := ((d + 1), 310, 579, [some (.inr (.inr 86)), some (.inl x1), some (.inl x2), some (.inl x3), none], [], (am_sh, am_mm U5))) 3 (fun _ => rfl) (fun hc => ?_) (fun hc => ?_)
              · have h111a11a2aa1 := h111a11a2aa.1 hc
                refine ev_seg (σ1 := ((d + 1), 310, 592, [some (.inr (.inr 86)), some (.inl x1), some (.inl x2), some (.inl x3), none], [.inr (.inr 86)], (am_sh, am_mm U5))) 1 (fun _ => rfl) ?_
                obtain ⟨U6, h111a11a2aa1c, h111a11a2aa1a⟩ := h111a11a2aa1
                refine ev_cal (σc := (d, 93, 0, [some (.inr (.inr 86)), none, none, none, none, none], [], (am_sh, am_mm U5))) (fun _ => rfl) h111a11a2aa1c ?_
                show Ev kz ((d + 1), 310, 595, [some (.inr (.inr 86)), some (.inl x1), some (.inl x2), some (.inl x3), none], [], (am_sh, am_mm U6)) R
                subst h111a11a2aa1a
                exact ev_end 2 (fun _ => rfl)
              · have h111a11a2aa2 := h111a11a2aa.2 hc
                refine ev_seg (σ1 := ((d + 1), 310, 590, [some (.inr (.inr 86)), some (.inl x1), some (.inl x2), some (.inl x3), none], [.inl 2, .inl (w32 ((U5 86 46) - 1)), .inr (.inr 114)], (am_sh, am_mm U5))) 7 (fun _ => rfl) ?_
                refine eu_iast 114 (n := 20) rfl (by decide) rfl (fun _ => rfl) h111a11a2aa2.1 ?_
                have h111a11a2aa2a := h111a11a2aa2.2
                refine ev_seg (σ1 := ((d + 1), 310, 592, [some (.inr (.inr 86)), some (.inl x1), some (.inl x2), some (.inl x3), none], [.inr (.inr 86)], (am_sh, am_mm (am_upd U5 114 (w32 ((U5 86 46) - 1)).toNat 2)))) 1 (fun _ => rfl) ?_
                obtain ⟨U7, h111a11a2aa2ac, h111a11a2aa2aa⟩ := h111a11a2aa2a
                refine ev_cal (σc := (d, 93, 0, [some (.inr (.inr 86)), none, none, none, none, none], [], (am_sh, am_mm (am_upd U5 114 (w32 ((U5 86 46) - 1)).toNat 2)))) (fun _ => rfl) h111a11a2aa2ac ?_
                show Ev kz ((d + 1), 310, 595, [some (.inr (.inr 86)), some (.inl x1), some (.inl x2), some (.inl x3), none], [], (am_sh, am_mm U7)) R
                subst h111a11a2aa2aa
                exact ev_end 2 (fun _ => rfl)
          · have h111a12 := h111a1.2 hc
            subst h111a12
            exact ev_end 2 (fun _ => rfl)
        · have h111a2 := h111a.2 hc
          refine ev_seg (σ1 := ((d + 1), 310, 521, [some (.inr (.inr 86)), some (.inl x1), some (.inl x2), some (.inl x3), none], [.inl (U1 86 4), .inl 1, .inr (.inr 86)], (am_sh, am_mm U1))) 4 (fun _ => rfl) ?_
          obtain ⟨U8, h111a2c, h111a2a⟩ := h111a2
          refine ev_cal (σc := (d, 196, 0, [some (.inr (.inr 86)), some (.inl 1), some (.inl (U1 86 4))], [], (am_sh, am_mm U1))) (fun _ => rfl) h111a2c ?_
          show Ev kz ((d + 1), 310, 524, [some (.inr (.inr 86)), some (.inl x1), some (.inl x2), some (.inl x3), none], [], (am_sh, am_mm U8)) R
          refine ev_br (P := (U8 86 8) ≤ 0) (σ1 := ((d + 1), 310, 533, [some (.inr (.inr 86)), some (.inl x1), some (.inl x2), some (.inl x3), none], [], (am_sh, am_mm U8))) (σ2 := ((d + 1), 310, 531, [some (.inr (.inr 86)), some (.inl x1), some (.inl x2), some (.inl x3), none], [], (am_sh, am_mm U8))) 3 (fun _ => rfl) (fun hc => ?_) (fun hc => ?_)
          · have h111a2a1 := h111a2a.1 hc
            refine ev_seg (σ1 := ((d + 1), 310, 535, [some (.inr (.inr 86)), some (.inl x1), some (.inl x2), some (.inl x3), none], [.inl 1, .inr (.inr 86)], (am_sh, am_mm U8))) 2 (fun _ => rfl) ?_
            obtain ⟨U9, h111a2a1c, h111a2a1a⟩ := h111a2a1
            refine ev_cal (σc := (d, 329, 0, [some (.inr (.inr 86)), some (.inl 1)], [], (am_sh, am_mm U8))) (fun _ => rfl) h111a2a1c ?_
            show Ev kz ((d + 1), 310, 538, [some (.inr (.inr 86)), some (.inl x1), some (.inl x2), some (.inl x3), none], [], (am_sh, am_mm U9)) R
            refine ev_seg (σ1 := ((d + 1), 310, 545, [some (.inr (.inr 86)), some (.inl x1), some (.inl x2), some (.inl x3), none], [.inl (w32 ((U9 86 46) - 1)), .inr (.inr 86)], (am_sh, am_mm U9))) 5 (fun _ => rfl) ?_
            refine eu_puti 86 (n := 90) rfl (by decide) rfl rfl ?_
            refine ev_seg (σ1 := ((d + 1), 310, 555, [some (.inr (.inr 86)), some (.inl x1), some (.inl x2), some (.inl x3), none], [.inl (w32 (((am_upd U9 86 46 (w32 ((U9 86 46) - 1))) 86 47) - 1)), .inr (.inr 86)], (am_sh, am_mm (am_upd U9 86 46 (w32 ((U9 86 46) - 1)))))) 5 (fun _ => rfl) ?_
            refine eu_puti 86 (n := 90) rfl (by decide) rfl rfl ?_
            refine ev_br (P := ¬ x2 = 4) (σ1 := ((d + 1), 310, 574, [some (.inr (.inr 86)), some (.inl x1), some (.inl x2), some (.inl x3), none], [], (am_sh, am_mm (am_upd (am_upd U9 86 46 (w32 ((U9 86 46) - 1))) 86 47 (w32 (((am_upd U9 86 46 (w32 ((U9 86 46) - 1))) 86 47) - 1)))))) (σ2 := ((d + 1), 310, 563, [some (.inr (.inr 86)), some (.inl x1), some (.inl x2), some (.inl x3), none], [], (am_sh, am_mm (am_upd (am_upd U9 86 46 (w32 ((U9 86 46) - 1))) 86 47 (w32 (((am_upd U9 86 46 (w32 ((U9 86 46) - 1))) 86 47) - 1)))))) 3 (fun _ => rfl) (fun hc => ?_) (fun hc => ?_)
            · have h111a2a1a1 := h111a2a1a.1 hc
              refine ev_br (P := ¬ x2 = 5) (σ1 := ((d + 1), 310, 591, [some (.inr (.inr 86)), some (.inl x1), some (.inl x2), some (.inl x3), none], [], (am_sh, am_mm (am_upd (am_upd U9 86 46 (w32 ((U9 86 46) - 1))) 86 47 (w32 (((am_upd U9 86 46 (w32 ((U9 86 46) - 1))) 86 47) - 1)))))) (σ2 := ((d + 1), 310, 579, [some (.inr (.inr 86)), some (.inl x1), some (.inl x2), some (.inl x3), none], [], (am_sh, am_mm (am_upd (am_upd U9 86 46 (w32 ((U9 86 46) - 1))) 86 47 (w32 (((am_upd U9 86 46 (w32 ((U9 86 46) - 1))) 86 47) - 1)))))) 3 (fun _ => rfl) (fun hc => ?_) (fun hc => ?_)
              · have h111a2a1a11 := h111a2a1a1.1 hc
                refine ev_seg (σ1 := ((d + 1), 310, 592, [some (.inr (.inr 86)), some (.inl x1), some (.inl x2), some (.inl x3), none], [.inr (.inr 86)], (am_sh, am_mm (am_upd (am_upd U9 86 46 (w32 ((U9 86 46) - 1))) 86 47 (w32 (((am_upd U9 86 46 (w32 ((U9 86 46) - 1))) 86 47) - 1)))))) 1 (fun _ => rfl) ?_
                obtain ⟨U10, h111a2a1a11c, h111a2a1a11a⟩ := h111a2a1a11
                refine ev_cal (σc := (d, 93, 0, [some (.inr (.inr 86)), none, none, none, none, none], [], (am_sh, am_mm (am_upd (am_upd U9 86 46 (w32 ((U9 86 46) - 1))) 86 47 (w32 (((am_upd U9 86 46 (w32 ((U9 86 46) - 1))) 86 47) - 1)))))) (fun _ => rfl) h111a2a1a11c ?_
                show Ev kz ((d + 1), 310, 595, [some (.inr (.inr 86)), some (.inl x1), some (.inl x2), some (.inl x3), none], [], (am_sh, am_mm U10)) R
                subst h111a2a1a11a
                exact ev_end 2 (fun _ => rfl)
              · have h111a2a1a12 := h111a2a1a1.2 hc
                refine ev_seg (σ1 := ((d + 1), 310, 590, [some (.inr (.inr 86)), some (.inl x1), some (.inl x2), some (.inl x3), none], [.inl 2, .inl (w32 (((am_upd (am_upd U9 86 46 (w32 ((U9 86 46) - 1))) 86 47 (w32 (((am_upd U9 86 46 (w32 ((U9 86 46) - 1))) 86 47) - 1))) 86 46) - 1)), .inr (.inr 114)], (am_sh, am_mm (am_upd (am_upd U9 86 46 (w32 ((U9 86 46) - 1))) 86 47 (w32 (((am_upd U9 86 46 (w32 ((U9 86 46) - 1))) 86 47) - 1)))))) 7 (fun _ => rfl) ?_
                refine eu_iast 114 (n := 20) rfl (by decide) rfl (fun _ => rfl) h111a2a1a12.1 ?_
                have h111a2a1a12a := h111a2a1a12.2
                refine ev_seg (σ1 := ((d + 1), 310, 592, [some (.inr (.inr 86)), some (.inl x1), some (.inl x2), some (.inl x3), none], [.inr (.inr 86)], (am_sh, am_mm (am_upd (am_upd (am_upd U9 86 46 (w32 ((U9 86 46) - 1))) 86 47 (w32 (((am_upd U9 86 46 (w32 ((U9 86 46) - 1))) 86 47) - 1))) 114 (w32 (((am_upd (am_upd U9 86 46 (w32 ((U9 86 46) - 1))) 86 47 (w32 (((am_upd U9 86 46 (w32 ((U9 86 46) - 1))) 86 47) - 1))) 86 46) - 1)).toNat 2)))) 1 (fun _ => rfl) ?_
                obtain ⟨U11, h111a2a1a12ac, h111a2a1a12aa⟩ := h111a2a1a12a
                refine ev_cal (σc := (d, 93, 0, [some (.inr (.inr 86)), none, none, none, none, none], [], (am_sh, am_mm (am_upd (am_upd (am_upd U9 86 46 (w32 ((U9 86 46) - 1))) 86 47 (w32 (((am_upd U9 86 46 (w32 ((U9 86 46) - 1))) 86 47) - 1))) 114 (w32 (((am_upd (am_upd U9 86 46 (w32 ((U9 86 46) - 1))) 86 47 (w32 (((am_upd U9 86 46 (w32 ((U9 86 46) - 1))) 86 47) - 1))) 86 46) - 1)).toNat 2)))) (fun _ => rfl) h111a2a1a12ac ?_
                show Ev kz ((d + 1), 310, 595, [some (.inr (.inr 86)), some (.inl x1), some (.inl x2), some (.inl x3), none], [], (am_sh, am_mm U11)) R
                subst h111a2a1a12aa
                exact ev_end 2 (fun _ => rfl)
            · have h111a2a1a2 := h111a2a1a.2 hc
              refine ev_seg (σ1 := ((d + 1), 310, 569, [some (.inr (.inr 86)), some (.inl x1), some (.inl x2), some (.inl x3), none], [.inl x1, .inr (.inr 116), .inr (.inr 86)], (am_sh, am_mm (am_upd (am_upd U9 86 46 (w32 ((U9 86 46) - 1))) 86 47 (w32 (((am_upd U9 86 46 (w32 ((U9 86 46) - 1))) 86 47) - 1)))))) 4 (fun _ => rfl) ?_
              refine eu_iald 116 (n := 20) rfl (by decide) rfl (fun _ => rfl) h111a2a1a2.1 ?_
              have h111a2a1a2a := h111a2a1a2.2
              refine ev_seg (σ1 := ((d + 1), 310, 571, [some (.inr (.inr 86)), some (.inl x1), some (.inl x2), some (.inl x3), none], [.inl 0, .inl ((am_upd (am_upd U9 86 46 (w32 ((U9 86 46) - 1))) 86 47 (w32 (((am_upd U9 86 46 (w32 ((U9 86 46) - 1))) 86 47) - 1))) 116 x1.toNat), .inr (.inr 86)], (am_sh, am_mm (am_upd (am_upd U9 86 46 (w32 ((U9 86 46) - 1))) 86 47 (w32 (((am_upd U9 86 46 (w32 ((U9 86 46) - 1))) 86 47) - 1)))))) 1 (fun _ => rfl) ?_
              obtain ⟨U12, h111a2a1a2ac, h111a2a1a2aa⟩ := h111a2a1a2a
              refine ev_cal (σc := (d, 328, 0, [some (.inr (.inr 86)), some (.inl ((am_upd (am_upd U9 86 46 (w32 ((U9 86 46) - 1))) 86 47 (w32 (((am_upd U9 86 46 (w32 ((U9 86 46) - 1))) 86 47) - 1))) 116 x1.toNat)), some (.inl 0)], [], (am_sh, am_mm (am_upd (am_upd U9 86 46 (w32 ((U9 86 46) - 1))) 86 47 (w32 (((am_upd U9 86 46 (w32 ((U9 86 46) - 1))) 86 47) - 1)))))) (fun _ => rfl) h111a2a1a2ac ?_
              show Ev kz ((d + 1), 310, 574, [some (.inr (.inr 86)), some (.inl x1), some (.inl x2), some (.inl x3), none], [], (am_sh, am_mm U12)) R
              refine ev_br (P := ¬ x2 = 5) (σ1 := ((d + 1), 310, 591, [some (.inr (.inr 86)), some (.inl x1), some (.inl x2), some (.inl x3), none], [], (am_sh, am_mm U12))) (σ2 := ((d + 1), 310, 579, [some (.inr (.inr 86)), some (.inl x1), some (.inl x2), some (.inl x3), none], [], (am_sh, am_mm U12))) 3 (fun _ => rfl) (fun hc => ?_) (fun hc => ?_)
              · have h111a2a1a2aa1 := h111a2a1a2aa.1 hc
                refine ev_seg (σ1 := ((d + 1), 310, 592, [some (.inr (.inr 86)), some (.inl x1), some (.inl x2), some (.inl x3), none], [.inr (.inr 86)], (am_sh, am_mm U12))) 1 (fun _ => rfl) ?_
                obtain ⟨U13, h111a2a1a2aa1c, h111a2a1a2aa1a⟩ := h111a2a1a2aa1
                refine ev_cal (σc := (d, 93, 0, [some (.inr (.inr 86)), none, none, none, none, none], [], (am_sh, am_mm U12))) (fun _ => rfl) h111a2a1a2aa1c ?_
                show Ev kz ((d + 1), 310, 595, [some (.inr (.inr 86)), some (.inl x1), some (.inl x2), some (.inl x3), none], [], (am_sh, am_mm U13)) R
                subst h111a2a1a2aa1a
                exact ev_end 2 (fun _ => rfl)
              · have h111a2a1a2aa2 := h111a2a1a2aa.2 hc
                refine ev_seg (σ1 := ((d + 1), 310, 590, [some (.inr (.inr 86)), some (.inl x1), some (.inl x2), some (.inl x3), none], [.inl 2, .inl (w32 ((U12 86 46) - 1)), .inr (.inr 114)], (am_sh, am_mm U12))) 7 (fun _ => rfl) ?_
                refine eu_iast 114 (n := 20) rfl (by decide) rfl (fun _ => rfl) h111a2a1a2aa2.1 ?_
                have h111a2a1a2aa2a := h111a2a1a2aa2.2
                refine ev_seg (σ1 := ((d + 1), 310, 592, [some (.inr (.inr 86)), some (.inl x1), some (.inl x2), some (.inl x3), none], [.inr (.inr 86)], (am_sh, am_mm (am_upd U12 114 (w32 ((U12 86 46) - 1)).toNat 2)))) 1 (fun _ => rfl) ?_
                obtain ⟨U14, h111a2a1a2aa2ac, h111a2a1a2aa2aa⟩ := h111a2a1a2aa2a
                refine ev_cal (σc := (d, 93, 0, [some (.inr (.inr 86)), none, none, none, none, none], [], (am_sh, am_mm (am_upd U12 114 (w32 ((U12 86 46) - 1)).toNat 2)))) (fun _ => rfl) h111a2a1a2aa2ac ?_
                show Ev kz ((d + 1), 310, 595, [some (.inr (.inr 86)), some (.inl x1), some (.inl x2), some (.inl x3), none], [], (am_sh, am_mm U14)) R
                subst h111a2a1a2aa2aa
                exact ev_end 2 (fun _ => rfl)
          · have h111a2a2 := h111a2a.2 hc
            subst h111a2a2
            exact ev_end 2 (fun _ => rfl)
      · have h112 := h11.2 hc
        refine ev_seg (σ1 := ((d + 1), 310, 509, [some (.inr (.inr 86)), some (.inl x1), some (.inl x2), some (.inl x3), none], [.inl 93, .inr (.inr 86)], (am_sh, am_mm U))) 2 (fun _ => rfl) ?_
        obtain ⟨r15, U15, h112c, h112a⟩ := h112
        refine ev_cal (σc := (d, 197, 0, [some (.inr (.inr 86)), some (.inl 93)], [], (am_sh, am_mm U))) (fun _ => rfl) h112c ?_
        show Ev kz ((d + 1), 310, 512, [some (.inr (.inr 86)), some (.inl x1), some (.inl x2), some (.inl x3), none], [.inl r15], (am_sh, am_mm U15)) R
        refine ev_br (P := ¬ r15 = 0) (σ1 := ((d + 1), 310, 524, [some (.inr (.inr 86)), some (.inl x1), some (.inl x2), some (.inl x3), none], [], (am_sh, am_mm U15))) (σ2 := ((d + 1), 310, 515, [some (.inr (.inr 86)), some (.inl x1), some (.inl x2), some (.inl x3), none], [], (am_sh, am_mm U15))) 1 (fun _ => rfl) (fun hc => ?_) (fun hc => ?_)
        · have h112a1 := h112a.1 hc
          refine ev_br (P := (U15 86 8) ≤ 0) (σ1 := ((d + 1), 310, 533, [some (.inr (.inr 86)), some (.inl x1), some (.inl x2), some (.inl x3), none], [], (am_sh, am_mm U15))) (σ2 := ((d + 1), 310, 531, [some (.inr (.inr 86)), some (.inl x1), some (.inl x2), some (.inl x3), none], [], (am_sh, am_mm U15))) 3 (fun _ => rfl) (fun hc => ?_) (fun hc => ?_)
          · have h112a11 := h112a1.1 hc
            refine ev_seg (σ1 := ((d + 1), 310, 535, [some (.inr (.inr 86)), some (.inl x1), some (.inl x2), some (.inl x3), none], [.inl 1, .inr (.inr 86)], (am_sh, am_mm U15))) 2 (fun _ => rfl) ?_
            obtain ⟨U16, h112a11c, h112a11a⟩ := h112a11
            refine ev_cal (σc := (d, 329, 0, [some (.inr (.inr 86)), some (.inl 1)], [], (am_sh, am_mm U15))) (fun _ => rfl) h112a11c ?_
            show Ev kz ((d + 1), 310, 538, [some (.inr (.inr 86)), some (.inl x1), some (.inl x2), some (.inl x3), none], [], (am_sh, am_mm U16)) R
            refine ev_seg (σ1 := ((d + 1), 310, 545, [some (.inr (.inr 86)), some (.inl x1), some (.inl x2), some (.inl x3), none], [.inl (w32 ((U16 86 46) - 1)), .inr (.inr 86)], (am_sh, am_mm U16))) 5 (fun _ => rfl) ?_
            refine eu_puti 86 (n := 90) rfl (by decide) rfl rfl ?_
            refine ev_seg (σ1 := ((d + 1), 310, 555, [some (.inr (.inr 86)), some (.inl x1), some (.inl x2), some (.inl x3), none], [.inl (w32 (((am_upd U16 86 46 (w32 ((U16 86 46) - 1))) 86 47) - 1)), .inr (.inr 86)], (am_sh, am_mm (am_upd U16 86 46 (w32 ((U16 86 46) - 1)))))) 5 (fun _ => rfl) ?_
            refine eu_puti 86 (n := 90) rfl (by decide) rfl rfl ?_
            refine ev_br (P := ¬ x2 = 4) (σ1 := ((d + 1), 310, 574, [some (.inr (.inr 86)), some (.inl x1), some (.inl x2), some (.inl x3), none], [], (am_sh, am_mm (am_upd (am_upd U16 86 46 (w32 ((U16 86 46) - 1))) 86 47 (w32 (((am_upd U16 86 46 (w32 ((U16 86 46) - 1))) 86 47) - 1)))))) (σ2 := ((d + 1), 310, 563, [some (.inr (.inr 86)), some (.inl x1), some (.inl x2), some (.inl x3), none], [], (am_sh, am_mm (am_upd (am_upd U16 86 46 (w32 ((U16 86 46) - 1))) 86 47 (w32 (((am_upd U16 86 46 (w32 ((U16 86 46) - 1))) 86 47) - 1)))))) 3 (fun _ => rfl) (fun hc => ?_) (fun hc => ?_)
            · have h112a11a1 := h112a11a.1 hc
              refine ev_br (P := ¬ x2 = 5) (σ1 := ((d + 1), 310, 591, [some (.inr (.inr 86)), some (.inl x1), some (.inl x2), some (.inl x3), none], [], (am_sh, am_mm (am_upd (am_upd U16 86 46 (w32 ((U16 86 46) - 1))) 86 47 (w32 (((am_upd U16 86 46 (w32 ((U16 86 46) - 1))) 86 47) - 1)))))) (σ2 := ((d + 1), 310, 579, [some (.inr (.inr 86)), some (.inl x1), some (.inl x2), some (.inl x3), none], [], (am_sh, am_mm (am_upd (am_upd U16 86 46 (w32 ((U16 86 46) - 1))) 86 47 (w32 (((am_upd U16 86 46 (w32 ((U16 86 46) - 1))) 86 47) - 1)))))) 3 (fun _ => rfl) (fun hc => ?_) (fun hc => ?_)
              · have h112a11a11 := h112a11a1.1 hc
                refine ev_seg (σ1 := ((d + 1), 310, 592, [some (.inr (.inr 86)), some (.inl x1), some (.inl x2), some (.inl x3), none], [.inr (.inr 86)], (am_sh, am_mm (am_upd (am_upd U16 86 46 (w32 ((U16 86 46) - 1))) 86 47 (w32 (((am_upd U16 86 46 (w32 ((U16 86 46) - 1))) 86 47) - 1)))))) 1 (fun _ => rfl) ?_
                obtain ⟨U17, h112a11a11c, h112a11a11a⟩ := h112a11a11
                refine ev_cal (σc := (d, 93, 0, [some (.inr (.inr 86)), none, none, none, none, none], [], (am_sh, am_mm (am_upd (am_upd U16 86 46 (w32 ((U16 86 46) - 1))) 86 47 (w32 (((am_upd U16 86 46 (w32 ((U16 86 46) - 1))) 86 47) - 1)))))) (fun _ => rfl) h112a11a11c ?_
                show Ev kz ((d + 1), 310, 595, [some (.inr (.inr 86)), some (.inl x1), some (.inl x2), some (.inl x3), none], [], (am_sh, am_mm U17)) R
                subst h112a11a11a
                exact ev_end 2 (fun _ => rfl)
              · have h112a11a12 := h112a11a1.2 hc
                refine ev_seg (σ1 := ((d + 1), 310, 590, [some (.inr (.inr 86)), some (.inl x1), some (.inl x2), some (.inl x3), none], [.inl 2, .inl (w32 (((am_upd (am_upd U16 86 46 (w32 ((U16 86 46) - 1))) 86 47 (w32 (((am_upd U16 86 46 (w32 ((U16 86 46) - 1))) 86 47) - 1))) 86 46) - 1)), .inr (.inr 114)], (am_sh, am_mm (am_upd (am_upd U16 86 46 (w32 ((U16 86 46) - 1))) 86 47 (w32 (((am_upd U16 86 46 (w32 ((U16 86 46) - 1))) 86 47) - 1)))))) 7 (fun _ => rfl) ?_
                refine eu_iast 114 (n := 20) rfl (by decide) rfl (fun _ => rfl) h112a11a12.1 ?_
                have h112a11a12a := h112a11a12.2
                refine ev_seg (σ1 := ((d + 1), 310, 592, [some (.inr (.inr 86)), some (.inl x1), some (.inl x2), some (.inl x3), none], [.inr (.inr 86)], (am_sh, am_mm (am_upd (am_upd (am_upd U16 86 46 (w32 ((U16 86 46) - 1))) 86 47 (w32 (((am_upd U16 86 46 (w32 ((U16 86 46) - 1))) 86 47) - 1))) 114 (w32 (((am_upd (am_upd U16 86 46 (w32 ((U16 86 46) - 1))) 86 47 (w32 (((am_upd U16 86 46 (w32 ((U16 86 46) - 1))) 86 47) - 1))) 86 46) - 1)).toNat 2)))) 1 (fun _ => rfl) ?_
                obtain ⟨U18, h112a11a12ac, h112a11a12aa⟩ := h112a11a12a
                refine ev_cal (σc := (d, 93, 0, [some (.inr (.inr 86)), none, none, none, none, none], [], (am_sh, am_mm (am_upd (am_upd (am_upd U16 86 46 (w32 ((U16 86 46) - 1))) 86 47 (w32 (((am_upd U16 86 46 (w32 ((U16 86 46) - 1))) 86 47) - 1))) 114 (w32 (((am_upd (am_upd U16 86 46 (w32 ((U16 86 46) - 1))) 86 47 (w32 (((am_upd U16 86 46 (w32 ((U16 86 46) - 1))) 86 47) - 1))) 86 46) - 1)).toNat 2)))) (fun _ => rfl) h112a11a12ac ?_
                show Ev kz ((d + 1), 310, 595, [some (.inr (.inr 86)), some (.inl x1), some (.inl x2), some (.inl x3), none], [], (am_sh, am_mm U18)) R
                subst h112a11a12aa
                exact ev_end 2 (fun _ => rfl)
            · have h112a11a2 := h112a11a.2 hc
              refine ev_seg (σ1 := ((d + 1), 310, 569, [some (.inr (.inr 86)), some (.inl x1), some (.inl x2), some (.inl x3), none], [.inl x1, .inr (.inr 116), .inr (.inr 86)], (am_sh, am_mm (am_upd (am_upd U16 86 46 (w32 ((U16 86 46) - 1))) 86 47 (w32 (((am_upd U16 86 46 (w32 ((U16 86 46) - 1))) 86 47) - 1)))))) 4 (fun _ => rfl) ?_
              refine eu_iald 116 (n := 20) rfl (by decide) rfl (fun _ => rfl) h112a11a2.1 ?_
              have h112a11a2a := h112a11a2.2
              refine ev_seg (σ1 := ((d + 1), 310, 571, [some (.inr (.inr 86)), some (.inl x1), some (.inl x2), some (.inl x3), none], [.inl 0, .inl ((am_upd (am_upd U16 86 46 (w32 ((U16 86 46) - 1))) 86 47 (w32 (((am_upd U16 86 46 (w32 ((U16 86 46) - 1))) 86 47) - 1))) 116 x1.toNat), .inr (.inr 86)], (am_sh, am_mm (am_upd (am_upd U16 86 46 (w32 ((U16 86 46) - 1))) 86 47 (w32 (((am_upd U16 86 46 (w32 ((U16 86 46) - 1))) 86 47) - 1)))))) 1 (fun _ => rfl) ?_
              obtain ⟨U19, h112a11a2ac, h112a11a2aa⟩ := h112a11a2a
              refine ev_cal (σc := (d, 328, 0, [some (.inr (.inr 86)), some (.inl ((am_upd (am_upd U16 86 46 (w32 ((U16 86 46) - 1))) 86 47 (w32 (((am_upd U16 86 46 (w32 ((U16 86 46) - 1))) 86 47) - 1))) 116 x1.toNat)), some (.inl 0)], [], (am_sh, am_mm (am_upd (am_upd U16 86 46 (w32 ((U16 86 46) - 1))) 86 47 (w32 (((am_upd U16 86 46 (w32 ((U16 86 46) - 1))) 86 47) - 1)))))) (fun _ => rfl) h112a11a2ac ?_
              show Ev kz ((d + 1), 310, 574, [some (.inr (.inr 86)), some (.inl x1), some (.inl x2), some (.inl x3), none], [], (am_sh, am_mm U19)) R
              refine ev_br (P := ¬ x2 = 5) (σ1 := ((d + 1), 310, 591, [some (.inr (.inr 86)), some (.inl x1), some (.inl x2), some (.inl x3), none], [], (am_sh, am_mm U19))) (σ2 := ((d + 1), 310, 579, [some (.inr (.inr 86)), some (.inl x1), some (.inl x2), some (.inl x3), none], [], (am_sh, am_mm U19))) 3 (fun _ => rfl) (fun hc => ?_) (fun hc => ?_)
              · have h112a11a2aa1 := h112a11a2aa.1 hc
                refine ev_seg (σ1 := ((d + 1), 310, 592, [some (.inr (.inr 86)), some (.inl x1), some (.inl x2), some (.inl x3), none], [.inr (.inr 86)], (am_sh, am_mm U19))) 1 (fun _ => rfl) ?_
                obtain ⟨U20, h112a11a2aa1c, h112a11a2aa1a⟩ := h112a11a2aa1
                refine ev_cal (σc := (d, 93, 0, [some (.inr (.inr 86)), none, none, none, none, none], [], (am_sh, am_mm U19))) (fun _ => rfl) h112a11a2aa1c ?_
                show Ev kz ((d + 1), 310, 595, [some (.inr (.inr 86)), some (.inl x1), some (.inl x2), some (.inl x3), none], [], (am_sh, am_mm U20)) R
                subst h112a11a2aa1a
                exact ev_end 2 (fun _ => rfl)
              · have h112a11a2aa2 := h112a11a2aa.2 hc
                refine ev_seg (σ1 := ((d + 1), 310, 590, [some (.inr (.inr 86)), some (.inl x1), some (.inl x2), some (.inl x3), none], [.inl 2, .inl (w32 ((U19 86 46) - 1)), .inr (.inr 114)], (am_sh, am_mm U19))) 7 (fun _ => rfl) ?_
                refine eu_iast 114 (n := 20) rfl (by decide) rfl (fun _ => rfl) h112a11a2aa2.1 ?_
                have h112a11a2aa2a := h112a11a2aa2.2
                refine ev_seg (σ1 := ((d + 1), 310, 592, [some (.inr (.inr 86)), some (.inl x1), some (.inl x2), some (.inl x3), none], [.inr (.inr 86)], (am_sh, am_mm (am_upd U19 114 (w32 ((U19 86 46) - 1)).toNat 2)))) 1 (fun _ => rfl) ?_
                obtain ⟨U21, h112a11a2aa2ac, h112a11a2aa2aa⟩ := h112a11a2aa2a
                refine ev_cal (σc := (d, 93, 0, [some (.inr (.inr 86)), none, none, none, none, none], [], (am_sh, am_mm (am_upd U19 114 (w32 ((U19 86 46) - 1)).toNat 2)))) (fun _ => rfl) h112a11a2aa2ac ?_
                show Ev kz ((d + 1), 310, 595, [some (.inr (.inr 86)), some (.inl x1), some (.inl x2), some (.inl x3), none], [], (am_sh, am_mm U21)) R
                subst h112a11a2aa2aa
                exact ev_end 2 (fun _ => rfl)
          · have h112a12 := h112a1.2 hc
            subst h112a12
            exact ev_end 2 (fun _ => rfl)
        · have h112a2 := h112a.2 hc
          refine ev_seg (σ1 := ((d + 1), 310, 521, [some (.inr (.inr 86)), some (.inl x1), some (.inl x2), some (.inl x3), none], [.inl (U15 86 4), .inl 1, .inr (.inr 86)], (am_sh, am_mm U15))) 4 (fun _ => rfl) ?_
          obtain ⟨U22, h112a2c, h112a2a⟩ := h112a2
          refine ev_cal (σc := (d, 196, 0, [some (.inr (.inr 86)), some (.inl 1), some (.inl (U15 86 4))], [], (am_sh, am_mm U15))) (fun _ => rfl) h112a2c ?_
          show Ev kz ((d + 1), 310, 524, [some (.inr (.inr 86)), some (.inl x1), some (.inl x2), some (.inl x3), none], [], (am_sh, am_mm U22)) R
          refine ev_br (P := (U22 86 8) ≤ 0) (σ1 := ((d + 1), 310, 533, [some (.inr (.inr 86)), some (.inl x1), some (.inl x2), some (.inl x3), none], [], (am_sh, am_mm U22))) (σ2 := ((d + 1), 310, 531, [some (.inr (.inr 86)), some (.inl x1), some (.inl x2), some (.inl x3), none], [], (am_sh, am_mm U22))) 3 (fun _ => rfl) (fun hc => ?_) (fun hc => ?_)
          · have h112a2a1 := h112a2a.1 hc
            refine ev_seg (σ1 := ((d + 1), 310, 535, [some (.inr (.inr 86)), some (.inl x1), some (.inl x2), some (.inl x3), none], [.inl 1, .inr (.inr 86)], (am_sh, am_mm U22))) 2 (fun _ => rfl) ?_
            obtain ⟨U23, h112a2a1c, h112a2a1a⟩ := h112a2a1
            refine ev_cal (σc := (d, 329, 0, [some (.inr (.inr 86)), some (.inl 1)], [], (am_sh, am_mm U22))) (fun _ => rfl) h112a2a1c ?_
            show Ev kz ((d + 1), 310, 538, [some (.inr (.inr 86)), some (.inl x1), some (.inl x2), some (.inl x3), none], [], (am_sh, am_mm U23)) R
            refine ev_seg (σ1 := ((d + 1), 310, 545, [some (.inr (.inr 86)), some (.inl x1), some (.inl x2), some (.inl x3), none], [.inl (w32 ((U23 86 46) - 1)), .inr (.inr 86)], (am_sh, am_mm U23))) 5 (fun _ => rfl) ?_
            refine eu_puti 86 (n := 90) rfl (by decide) rfl rfl ?_
            refine ev_seg (σ1 := ((d + 1), 310, 555, [some (.inr (.inr 86)), some (.inl x1), some (.inl x2), some (.inl x3), none], [.inl (w32 (((am_upd U23 86 46 (w32 ((U23 86 46) - 1))) 86 47) - 1)), .inr (.inr 86)], (am_sh, am_mm (am_upd U23 86 46 (w32 ((U23 86 46) - 1)))))) 5 (fun _ => rfl) ?_
            refine eu_puti 86 (n := 90) rfl (by decide) rfl rfl ?_
            refine ev_br (P := ¬ x2 = 4) (σ1 := ((d + 1), 310, 574, [some (.inr (.inr 86)), some (.inl x1), some (.inl x2), some (.inl x3), none], [], (am_sh, am_mm (am_upd (am_upd U23 86 46 (w32 ((U23 86 46) - 1))) 86 47 (w32 (((am_upd U23 86 46 (w32 ((U23 86 46) - 1))) 86 47) - 1)))))) (σ2 := ((d + 1), 310, 563, [some (.inr (.inr 86)), some (.inl x1), some (.inl x2), some (.inl x3), none], [], (am_sh, am_mm (am_upd (am_upd U23 86 46 (w32 ((U23 86 46) - 1))) 86 47 (w32 (((am_upd U23 86 46 (w32 ((U23 86 46) - 1))) 86 47) - 1)))))) 3 (fun _ => rfl) (fun hc => ?_) (fun hc => ?_)
            · have h112a2a1a1 := h112a2a1a.1 hc
              refine ev_br (P := ¬ x2 = 5) (σ1 := ((d + 1), 310, 591, [some (.inr (.inr 86)), some (.inl x1), some (.inl x2), some (.inl x3), none], [], (am_sh, am_mm (am_upd (am_upd U23 86 46 (w32 ((U23 86 46) - 1))) 86 47 (w32 (((am_upd U23 86 46 (w32 ((U23 86 46) - 1))) 86 47) - 1)))))) (σ2 := ((d + 1), 310, 579, [some (.inr (.inr 86)), some (.inl x1), some (.inl x2), some (.inl x3), none], [], (am_sh, am_mm (am_upd (am_upd U23 86 46 (w32 ((U23 86 46) - 1))) 86 47 (w32 (((am_upd U23 86 46 (w32 ((U23 86 46) - 1))) 86 47) - 1)))))) 3 (fun _ => rfl) (fun hc => ?_) (fun hc => ?_)
              · have h112a2a1a11 := h112a2a1a1.1 hc
                refine ev_seg (σ1 := ((d + 1), 310, 592, [some (.inr (.inr 86)), some (.inl x1), some (.inl x2), some (.inl x3), none], [.inr (.inr 86)], (am_sh, am_mm (am_upd (am_upd U23 86 46 (w32 ((U23 86 46) - 1))) 86 47 (w32 (((am_upd U23 86 46 (w32 ((U23 86 46) - 1))) 86 47) - 1)))))) 1 (fun _ => rfl) ?_
                obtain ⟨U24, h112a2a1a11c, h112a2a1a11a⟩ := h112a2a1a11
                refine ev_cal (σc := (d, 93, 0, [some (.inr (.inr 86)), none, none, none, none, none], [], (am_sh, am_mm (am_upd (am_upd U23 86 46 (w32 ((U23 86 46) - 1))) 86 47 (w32 (((am_upd U23 86 46 (w32 ((U23 86 46) - 1))) 86 47) - 1)))))) (fun _ => rfl) h112a2a1a11c ?_
                show Ev kz ((d + 1), 310, 595, [some (.inr (.inr 86)), some (.inl x1), some (.inl x2), some (.inl x3), none], [], (am_sh, am_mm U24)) R
                subst h112a2a1a11a
                exact ev_end 2 (fun _ => rfl)
              · have h112a2a1a12 := h112a2a1a1.2 hc
                refine ev_seg (σ1 := ((d + 1), 310, 590, [some (.inr (.inr 86)), some (.inl x1), some (.inl x2), some (.inl x3), none], [.inl 2, .inl (w32 (((am_upd (am_upd U23 86 46 (w32 ((U23 86 46) - 1))) 86 47 (w32 (((am_upd U23 86 46 (w32 ((U23 86 46) - 1))) 86 47) - 1))) 86 46) - 1)), .inr (.inr 114)], (am_sh, am_mm (am_upd (am_upd U23 86 46 (w32 ((U23 86 46) - 1))) 86 47 (w32 (((am_upd U23 86 46 (w32 ((U23 86 46) - 1))) 86 47) - 1)))))) 7 (fun _ => rfl) ?_
                refine eu_iast 114 (n := 20) rfl (by decide) rfl (fun _ => rfl) h112a2a1a12.1 ?_
                have h112a2a1a12a := h112a2a1a12.2
                refine ev_seg (σ1 := ((d + 1), 310, 592, [some (.inr (.inr 86)), some (.inl x1), some (.inl x2), some (.inl x3), none], [.inr (.inr 86)], (am_sh, am_mm (am_upd (am_upd (am_upd U23 86 46 (w32 ((U23 86 46) - 1))) 86 47 (w32 (((am_upd U23 86 46 (w32 ((U23 86 46) - 1))) 86 47) - 1))) 114 (w32 (((am_upd (am_upd U23 86 46 (w32 ((U23 86 46) - 1))) 86 47 (w32 (((am_upd U23 86 46 (w32 ((U23 86 46) - 1))) 86 47) - 1))) 86 46) - 1)).toNat 2)))) 1 (fun _ => rfl) ?_
                obtain ⟨U25, h112a2a1a12ac, h112a2a1a12aa⟩ := h112a2a1a12a
                refine ev_cal (σc := (d, 93, 0, [some (.inr (.inr 86)), none, none, none, none, none], [], (am_sh, am_mm (am_upd (am_upd (am_upd U23 86 46 (w32 ((U23 86 46) - 1))) 86 47 (w32 (((am_upd U23 86 46 (w32 ((U23 86 46) - 1))) 86 47) - 1))) 114 (w32 (((am_upd (am_upd U23 86 46 (w32 ((U23 86 46) - 1))) 86 47 (w32 (((am_upd U23 86 46 (w32 ((U23 86 46) - 1))) 86 47) - 1))) 86 46) - 1)).toNat 2)))) (fun _ => rfl) h112a2a1a12ac ?_
                show Ev kz ((d + 1), 310, 595, [some (.inr (.inr 86)), some (.inl x1), some (.inl x2), some (.inl x3), none], [], (am_sh, am_mm U25)) R
                subst h112a2a1a12aa
                exact ev_end 2 (fun _ => rfl)
            · have h112a2a1a2 := h112a2a1a.2 hc
              refine ev_seg (σ1 := ((d + 1), 310, 569, [some (.inr (.inr 86)), some (.inl x1), some (.inl x2), some (.inl x3), none], [.inl x1, .inr (.inr 116), .inr (.inr 86)], (am_sh, am_mm (am_upd (am_upd U23 86 46 (w32 ((U23 86 46) - 1))) 86 47 (w32 (((am_upd U23 86 46 (w32 ((U23 86 46) - 1))) 86 47) - 1)))))) 4 (fun _ => rfl) ?_
              refine eu_iald 116 (n := 20) rfl (by decide) rfl (fun _ => rfl) h112a2a1a2.1 ?_
              have h112a2a1a2a := h112a2a1a2.2
              refine ev_seg (σ1 := ((d + 1), 310, 571, [some (.inr (.inr 86)), some (.inl x1), some (.inl x2), some (.inl x3), none], [.inl 0, .inl ((am_upd (am_upd U23 86 46 (w32 ((U23 86 46) - 1))) 86 47 (w32 (((am_upd U23 86 46 (w32 ((U23 86 46) - 1))) 86 47) - 1))) 116 x1.toNat), .inr (.inr 86)], (am_sh, am_mm (am_upd (am_upd U23 86 46 (w32 ((U23 86 46) - 1))) 86 47 (w32 (((am_upd U23 86 46 (w32 ((U23 86 46) - 1))) 86 47) - 1)))))) 1 (fun _ => rfl) ?_
              obtain ⟨U26, h112a2a1a2ac, h112a2a1a2aa⟩ := h112a2a1a2a
              refine ev_cal (σc := (d, 328, 0, [some (.inr (.inr 86)), some (.inl ((am_upd (am_upd U23 86 46 (w32 ((U23 86 46) - 1))) 86 47 (w32 (((am_upd U23 86 46 (w32 ((U23 86 46) - 1))) 86 47) - 1))) 116 x1.toNat)), some (.inl 0)], [], (am_sh, am_mm (am_upd (am_upd U23 86 46 (w32 ((U23 86 46) - 1))) 86 47 (w32 (((am_upd U23 86 46 (w32 ((U23 86 46) - 1))) 86 47) - 1)))))) (fun _ => rfl) h112a2a1a2ac ?_
              show Ev kz ((d + 1), 310, 574, [some (.inr (.inr 86)), some (.inl x1), some (.inl x2), some (.inl x3), none], [], (am_sh, am_mm U26)) R
              refine ev_br (P := ¬ x2 = 5) (σ1 := ((d + 1), 310, 591, [some (.inr (.inr 86)), some (.inl x1), some (.inl x2), some (.inl x3), none], [], (am_sh, am_mm U26))) (σ2 := ((d + 1), 310, 579, [some (.inr (.inr 86)), some (.inl x1), some (.inl x2), some (.inl x3), none], [], (am_sh, am_mm U26))) 3 (fun _ => rfl) (fun hc => ?_) (fun hc => ?_)
              · have h112a2a1a2aa1 := h112a2a1a2aa.1 hc
                refine ev_seg (σ1 := ((d + 1), 310, 592, [some (.inr (.inr 86)), some (.inl x1), some (.inl x2), some (.inl x3), none], [.inr (.inr 86)], (am_sh, am_mm U26))) 1 (fun _ => rfl) ?_
                obtain ⟨U27, h112a2a1a2aa1c, h112a2a1a2aa1a⟩ := h112a2a1a2aa1
                refine ev_cal (σc := (d, 93, 0, [some (.inr (.inr 86)), none, none, none, none, none], [], (am_sh, am_mm U26))) (fun _ => rfl) h112a2a1a2aa1c ?_
                show Ev kz ((d + 1), 310, 595, [some (.inr (.inr 86)), some (.inl x1), some (.inl x2), some (.inl x3), none], [], (am_sh, am_mm U27)) R
                subst h112a2a1a2aa1a
                exact ev_end 2 (fun _ => rfl)
              · have h112a2a1a2aa2 := h112a2a1a2aa.2 hc
                refine ev_seg (σ1 := ((d + 1), 310, 590, [some (.inr (.inr 86)), some (.inl x1), some (.inl x2), some (.inl x3), none], [.inl 2, .inl (w32 ((U26 86 46) - 1)), .inr (.inr 114)], (am_sh, am_mm U26))) 7 (fun _ => rfl) ?_
                refine eu_iast 114 (n := 20) rfl (by decide) rfl (fun _ => rfl) h112a2a1a2aa2.1 ?_
                have h112a2a1a2aa2a := h112a2a1a2aa2.2
                refine ev_seg (σ1 := ((d + 1), 310, 592, [some (.inr (.inr 86)), some (.inl x1), some (.inl x2), some (.inl x3), none], [.inr (.inr 86)], (am_sh, am_mm (am_upd U26 114 (w32 ((U26 86 46) - 1)).toNat 2)))) 1 (fun _ => rfl) ?_
                obtain ⟨U28, h112a2a1a2aa2ac, h112a2a1a2aa2aa⟩ := h112a2a1a2aa2a
                refine ev_cal (σc := (d, 93, 0, [some (.inr (.inr 86)), none, none, none, none, none], [], (am_sh, am_mm (am_upd U26 114 (w32 ((U26 86 46) - 1)).toNat 2)))) (fun _ => rfl) h112a2a1a2aa2ac ?_
                show Ev kz ((d + 1), 310, 595, [some (.inr (.inr 86)), some (.inl x1), some (.inl x2), some (.inl x3), none], [], (am_sh, am_mm U28)) R
                subst h112a2a1a2aa2aa
                exact ev_end 2 (fun _ => rfl)
          · have h112a2a2 := h112a2a.2 hc
            subst h112a2a2
            exact ev_end 2 (fun _ => rfl)
    · have h12 := h1.2 hc
      refine ev_seg (σ1 := ((d + 1), 310, 449, [some (.inr (.inr 86)), some (.inl x1), some (.inl x2), some (.inl x3), none], [.inl 44, .inr (.inr 86)], (am_sh, am_mm U))) 2 (fun _ => rfl) ?_
      obtain ⟨r29, U29, h12c, h12a⟩ := h12
      refine ev_cal (σc := (d, 197, 0, [some (.inr (.inr 86)), some (.inl 44)], [], (am_sh, am_mm U))) (fun _ => rfl) h12c ?_
      show Ev kz ((d + 1), 310, 452, [some (.inr (.inr 86)), some (.inl x1), some (.inl x2), some (.inl x3), none], [.inl r29], (am_sh, am_mm U29)) R
      refine ev_br (P := ¬ r29 = 0) (σ1 := ((d + 1), 310, 464, [some (.inr (.inr 86)), some (.inl x1), some (.inl x2), some (.inl x3), none], [], (am_sh, am_mm U29))) (σ2 := ((d + 1), 310, 455, [some (.inr (.inr 86)), some (.inl x1), some (.inl x2), some (.inl x3), none], [], (am_sh, am_mm U29))) 1 (fun _ => rfl) (fun hc => ?_) (fun hc => ?_)
      · have h12a1 := h12a.1 hc
        exact h12a1
      · have h12a2 := h12a.2 hc
        refine ev_seg (σ1 := ((d + 1), 310, 461, [some (.inr (.inr 86)), some (.inl x1), some (.inl x2), some (.inl x3), none], [.inl (U29 86 4), .inl 1, .inr (.inr 86)], (am_sh, am_mm U29))) 4 (fun _ => rfl) ?_
        obtain ⟨U30, h12a2c, h12a2a⟩ := h12a2
        refine ev_cal (σc := (d, 196, 0, [some (.inr (.inr 86)), some (.inl 1), some (.inl (U29 86 4))], [], (am_sh, am_mm U29))) (fun _ => rfl) h12a2c ?_
        show Ev kz ((d + 1), 310, 464, [some (.inr (.inr 86)), some (.inl x1), some (.inl x2), some (.inl x3), none], [], (am_sh, am_mm U30)) R
        exact h12a2a
  · have h2 := h.2 hc
    refine ev_br (P := ¬ (U 86 8) = 0) (σ1 := ((d + 1), 310, 439, [some (.inr (.inr 86)), some (.inl x1), some (.inl x2), some (.inl x3), none], [], (am_sh, am_mm U))) (σ2 := ((d + 1), 310, 434, [some (.inr (.inr 86)), some (.inl x1), some (.inl x2), some (.inl x3), none], [], (am_sh, am_mm U))) 3 (fun _ => rfl) (fun hc => ?_) (fun hc => ?_)
    · have h21 := h2.1 hc
      exact h21
    · have h22 := h2.2 hc
      refine ev_seg (σ1 := ((d + 1), 310, 436, [some (.inr (.inr 86)), some (.inl x1), some (.inl x2), some (.inl x3), none], [.inl 1, .inr (.inr 86)], (am_sh, am_mm U))) 2 (fun _ => rfl) ?_
      obtain ⟨U31, h22c, h22a⟩ := h22
      refine ev_cal (σc := (d, 329, 0, [some (.inr (.inr 86)), some (.inl 1)], [], (am_sh, am_mm U))) (fun _ => rfl) h22c ?_
      show Ev kz ((d + 1), 310, 439, [some (.inr (.inr 86)), some (.inl x1), some (.inl x2), some (.inl x3), none], [], (am_sh, am_mm U31)) R
      exact h22a
set_option maxRecDepth 8000 in
theorem st310_86_327 (kz : am_Z) (d : Nat) (x1 x2 x3 : Int) (U : Nat → Nat → Int) (R : Option am_V × am_M) (h : ((((U 86 8) ≤ 0 : Prop)) → ∃ (r1 : Int) (U1 : Nat → Nat → Int), Ev kz (d, 187, 0, [some (.inr (.inr 86)), some (.inr (.inl 6385252)), none], [], (am_sh, am_mm U)) (some (.inl r1), (am_sh, am_mm U1)) ∧ (((r1 = 0 : Prop)) → Ev kz ((d + 1), 310, 356, [some (.inr (.inr 86)), some (.inl x1), some (.inl x2), some (.inl x3), some (.inl r1)], [.inl 1, .inr (.inr 86)], (am_sh, am_mm U1)) R) ∧ (¬ (r1 = 0) → Ev kz ((d + 1), 310, 356, [some (.inr (.inr 86)), some (.inl x1), some (.inl x2), some (.inl x3), some (.inl r1)], [.inl 2, .inr (.inr 86)], (am_sh, am_mm U1)) R)) ∧ (¬ ((U 86 8) ≤ 0) → R = (some (.inl 0), (am_sh, am_mm U)))) : Ev kz ((d + 1), 310, 327, [some (.inr (.inr 86)), some (.inl x1), some (.inl x2), some (.inl x3), none], [], (am_sh, am_mm U)) R := by
  refine ev_br (P := (U 86 8) ≤ 0) (σ1 := ((d + 1), 310, 336, [some (.inr (.inr 86)), some (.inl x1), some (.inl x2), some (.inl x3), none], [], (am_sh, am_mm U))) (σ2 := ((d + 1), 310, 334, [some (.inr (.inr 86)), some (.inl x1), some (.inl x2), some (.inl x3), none], [], (am_sh, am_mm U))) 3 (fun _ => rfl) (fun hc => ?_) (fun hc => ?_)
  · have h1 := h.1 hc
    refine ev_seg (σ1 := ((d + 1), 310, 340, [some (.inr (.inr 86)), some (.inl x1), some (.inl x2), some (.inl x3), none], [.inr (.inl 6385252), .inr (.inr 86)], (am_sh, am_mm U))) 2 (fun _ => rfl) ?_
    obtain ⟨r1, U1, h1c, h1a⟩ := h1
    refine ev_cal (σc := (d, 187, 0, [some (.inr (.inr 86)), some (.inr (.inl 6385252)), none], [], (am_sh, am_mm U))) (fun _ => rfl) h1c ?_
    show Ev kz ((d + 1), 310, 343, [some (.inr (.inr 86)), some (.inl x1), some (.inl x2), some (.inl x3), none], [.inl r1], (am_sh, am_mm U1)) R
    refine ev_br (P := r1 = 0) (σ1 := ((d + 1), 310, 355, [some (.inr (.inr 86)), some (.inl x1), some (.inl x2), some (.inl x3), some (.inl r1)], [.inr (.inr 86)], (am_sh, am_mm U1))) (σ2 := ((d + 1), 310, 351, [some (.inr (.inr 86)), some (.inl x1), some (.inl x2), some (.inl x3), some (.inl r1)], [.inr (.inr 86)], (am_sh, am_mm U1))) 4 (fun _ => rfl) (fun hc => ?_) (fun hc => ?_)
    · have h1a1 := h1a.1 hc
      refine ev_seg (σ1 := ((d + 1), 310, 356, [some (.inr (.inr 86)), some (.inl x1), some (.inl x2), some (.inl x3), some (.inl r1)], [.inl 1, .inr (.inr 86)], (am_sh, am_mm U1))) 1 (fun _ => rfl) ?_
      exact h1a1
    · have h1a2 := h1a.2 hc
      refine ev_seg (σ1 := ((d + 1), 310, 356, [some (.inr (.inr 86)), some (.inl x1), some (.inl x2), some (.inl x3), some (.inl r1)], [.inl 2, .inr (.inr 86)], (am_sh, am_mm U1))) 2 (fun _ => rfl) ?_
      exact h1a2
  · have h2 := h.2 hc
    subst h2
    exact ev_end 2 (fun _ => rfl)
set_option maxRecDepth 8000 in
theorem st310_86_464 (kz : am_Z) (d : Nat) (x1 x2 x3 : Int) (U : Nat → Nat → Int) (R : Option am_V × am_M) (h : ((((U 86 8) ≤ 0 : Prop)) → ∃ U1 : Nat → Nat → Int, Ev kz (d, 329, 0, [some (.inr (.inr 86)), some (.inl 1)], [], (am_sh, am_mm U)) (none, (am_sh, am_mm U1)) ∧ (0 ≤ x1 ∧ x1 < 20) ∧ ∃ U2 : Nat → Nat → Int, Ev kz (d, 93, 0, [some (.inr (.inr 86)), none, none, none, none, none], [], (am_sh, am_mm (am_upd U1 113 x1.toNat 4))) (none, (am_sh, am_mm U2)) ∧ R = (some (.inl 1), (am_sh, am_mm (am_upd U2 86 50 0)))) ∧ (¬ ((U 86 8) ≤ 0) → R = (some (.inl 0), (am_sh, am_mm U)))) : Ev kz ((d + 1), 310, 464, [some (.inr (.inr 86)), some (.inl x1), some (.inl x2), some (.inl x3), none], [], (am_sh, am_mm U)) R := by
  refine ev_br (P := (U 86 8) ≤ 0) (σ1 := ((d + 1), 310, 473, [some (.inr (.inr 86)), some (.inl x1), some (.inl x2), some (.inl x3), none], [], (am_sh, am_mm U))) (σ2 := ((d + 1), 310, 471, [some (.inr (.inr 86)), some (.inl x1), some (.inl x2), some (.inl x3), none], [], (am_sh, am_mm U))) 3 (fun _ => rfl) (fun hc => ?_) (fun hc => ?_)
  · have h1 := h.1 hc
    refine ev_seg (σ1 := ((d + 1), 310, 475, [some (.inr (.inr 86)), some (.inl x1), some (.inl x2), some (.inl x3), none], [.inl 1, .inr (.inr 86)], (am_sh, am_mm U))) 2 (fun _ => rfl) ?_
    obtain ⟨U1, h1c, h1a⟩ := h1
    refine ev_cal (σc := (d, 329, 0, [some (.inr (.inr 86)), some (.inl 1)], [], (am_sh, am_mm U))) (fun _ => rfl) h1c ?_
    show Ev kz ((d + 1), 310, 478, [some (.inr (.inr 86)), some (.inl x1), some (.inl x2), some (.inl x3), none], [], (am_sh, am_mm U1)) R
    refine ev_seg (σ1 := ((d + 1), 310, 484, [some (.inr (.inr 86)), some (.inl x1), some (.inl x2), some (.inl x3), none], [.inl 4, .inl x1, .inr (.inr 113)], (am_sh, am_mm U1))) 4 (fun _ => rfl) ?_
    refine eu_iast 113 (n := 20) rfl (by decide) rfl (fun _ => rfl) h1a.1 ?_
    have h1aa := h1a.2
    refine ev_seg (σ1 := ((d + 1), 310, 486, [some (.inr (.inr 86)), some (.inl x1), some (.inl x2), some (.inl x3), none], [.inr (.inr 86)], (am_sh, am_mm (am_upd U1 113 x1.toNat 4)))) 1 (fun _ => rfl) ?_
    obtain ⟨U2, h1aac, h1aaa⟩ := h1aa
    refine ev_cal (σc := (d, 93, 0, [some (.inr (.inr 86)), none, none, none, none, none], [], (am_sh, am_mm (am_upd U1 113 x1.toNat 4)))) (fun _ => rfl) h1aac ?_
    show Ev kz ((d + 1), 310, 489, [some (.inr (.inr 86)), some (.inl x1), some (.inl x2), some (.inl x3), none], [], (am_sh, am_mm U2)) R
    refine ev_seg (σ1 := ((d + 1), 310, 491, [some (.inr (.inr 86)), some (.inl x1), some (.inl x2), some (.inl x3), none], [.inl 0, .inr (.inr 86)], (am_sh, am_mm U2))) 2 (fun _ => rfl) ?_
    refine eu_putz 86 (n := 90) rfl (by decide) rfl rfl (by decide) ?_
    subst h1aaa
    exact ev_end 2 (fun _ => rfl)
  · have h2 := h.2 hc
    subst h2
    exact ev_end 2 (fun _ => rfl)
set_option maxRecDepth 8000 in
theorem st310_86_439 (kz : am_Z) (d : Nat) (x1 x2 x3 : Int) (U : Nat → Nat → Int) (R : Option am_V × am_M) (h : R = (some (.inl 0), (am_sh, am_mm U))) : Ev kz ((d + 1), 310, 439, [some (.inr (.inr 86)), some (.inl x1), some (.inl x2), some (.inl x3), none], [], (am_sh, am_mm U)) R := by
  subst h
  exact ev_end 2 (fun _ => rfl)
set_option maxRecDepth 8000 in
theorem st310_86_356 (kz : am_Z) (d : Nat) (x1 x2 x3 x4 s1 : Int) (U : Nat → Nat → Int) (R : Option am_V × am_M) (h : ∃ U1 : Nat → Nat → Int, Ev kz (d, 329, 0, [some (.inr (.inr 86)), some (.inl s1)], [], (am_sh, am_mm U)) (none, (am_sh, am_mm U1)) ∧ (((x4 = 0 : Prop)) → Ev kz ((d + 1), 310, 372, [some (.inr (.inr 86)), some (.inl x1), some (.inl x2), some (.inl x3), some (.inl x4)], [.inl 21, .inr (.inr 86)], (am_sh, am_mm U1)) R) ∧ (¬ (x4 = 0) → Ev kz ((d + 1), 310, 372, [some (.inr (.inr 86)), some (.inl x1), some (.inl x2), some (.inl x3), some (.inl x4)], [.inl 20, .inr (.inr 86)], (am_sh, am_mm U1)) R)) : Ev kz ((d + 1), 310, 356, [some (.inr (.inr 86)), some (.inl x1), some (.inl x2), some (.inl x3), some (.inl x4)], [.inl s1, .inr (.inr 86)], (am_sh, am_mm U)) R := by
  obtain ⟨U1, hc, ha⟩ := h
  refine ev_cal (σc := (d, 329, 0, [some (.inr (.inr 86)), some (.inl s1)], [], (am_sh, am_mm U))) (fun _ => rfl) hc ?_
  show Ev kz ((d + 1), 310, 359, [some (.inr (.inr 86)), some (.inl x1), some (.inl x2), some (.inl x3), some (.inl x4)], [], (am_sh, am_mm U1)) R
  refine ev_br (P := x4 = 0) (σ1 := ((d + 1), 310, 370, [some (.inr (.inr 86)), some (.inl x1), some (.inl x2), some (.inl x3), some (.inl x4)], [.inr (.inr 86)], (am_sh, am_mm U1))) (σ2 := ((d + 1), 310, 365, [some (.inr (.inr 86)), some (.inl x1), some (.inl x2), some (.inl x3), some (.inl x4)], [.inr (.inr 86)], (am_sh, am_mm U1))) 3 (fun _ => rfl) (fun hc => ?_) (fun hc => ?_)
  · have ha1 := ha.1 hc
    refine ev_seg (σ1 := ((d + 1), 310, 372, [some (.inr (.inr 86)), some (.inl x1), some (.inl x2), some (.inl x3), some (.inl x4)], [.inl 21, .inr (.inr 86)], (am_sh, am_mm U1))) 1 (fun _ => rfl) ?_
    exact ha1
  · have ha2 := ha.2 hc
    refine ev_seg (σ1 := ((d + 1), 310, 372, [some (.inr (.inr 86)), some (.inl x1), some (.inl x2), some (.inl x3), some (.inl x4)], [.inl 20, .inr (.inr 86)], (am_sh, am_mm U1))) 2 (fun _ => rfl) ?_
    exact ha2
set_option maxRecDepth 8000 in
theorem st310_86_372 (kz : am_Z) (d : Nat) (x1 x2 x3 x4 s1 : Int) (U : Nat → Nat → Int) (R : Option am_V × am_M) (h : ∃ U1 : Nat → Nat → Int, Ev kz (d, 326, 0, [some (.inr (.inr 86)), some (.inl s1)], [], (am_sh, am_mm U)) (none, (am_sh, am_mm U1)) ∧ (0 ≤ x1 ∧ x1 < 20) ∧ (0 ≤ x1 ∧ x1 < 20) ∧ ∃ U2 : Nat → Nat → Int, Ev kz (d, 93, 0, [some (.inr (.inr 86)), none, none, none, none, none], [], (am_sh, am_mm (am_upd (am_upd U1 114 x1.toNat 0) 115 x1.toNat 1))) (none, (am_sh, am_mm U2)) ∧ R = (some (.inl 1), (am_sh, am_mm (am_upd U2 86 50 0)))) : Ev kz ((d + 1), 310, 372, [some (.inr (.inr 86)), some (.inl x1), some (.inl x2), some (.inl x3), some (.inl x4)], [.inl s1, .inr (.inr 86)], (am_sh, am_mm U)) R := by
  obtain ⟨U1, hc, ha⟩ := h
  refine ev_cal (σc := (d, 326, 0, [some (.inr (.inr 86)), some (.inl s1)], [], (am_sh, am_mm U))) (fun _ => rfl) hc ?_
  show Ev kz ((d + 1), 310, 375, [some (.inr (.inr 86)), some (.inl x1), some (.inl x2), some (.inl x3), some (.inl x4)], [], (am_sh, am_mm U1)) R
  refine ev_seg (σ1 := ((d + 1), 310, 381, [some (.inr (.inr 86)), some (.inl x1), some (.inl x2), some (.inl x3), some (.inl x4)], [.inl 0, .inl x1, .inr (.inr 114)], (am_sh, am_mm U1))) 4 (fun _ => rfl) ?_
  refine eu_iast 114 (n := 20) rfl (by decide) rfl (fun _ => rfl) ha.1 ?_
  have haa := ha.2
  refine ev_seg (σ1 := ((d + 1), 310, 388, [some (.inr (.inr 86)), some (.inl x1), some (.inl x2), some (.inl x3), some (.inl x4)], [.inl 1, .inl x1, .inr (.inr 115)], (am_sh, am_mm (am_upd U1 114 x1.toNat 0)))) 4 (fun _ => rfl) ?_
  refine eu_zast 115 (by decide) (n := 20) rfl (by decide) rfl (fun _ => rfl) haa.1 ?_
  have haaa := haa.2
  refine ev_seg (σ1 := ((d + 1), 310, 390, [some (.inr (.inr 86)), some (.inl x1), some (.inl x2), some (.inl x3), some (.inl x4)], [.inr (.inr 86)], (am_sh, am_mm (am_upd (am_upd U1 114 x1.toNat 0) 115 x1.toNat 1)))) 1 (fun _ => rfl) ?_
  obtain ⟨U2, haaac, haaaa⟩ := haaa
  refine ev_cal (σc := (d, 93, 0, [some (.inr (.inr 86)), none, none, none, none, none], [], (am_sh, am_mm (am_upd (am_upd U1 114 x1.toNat 0) 115 x1.toNat 1)))) (fun _ => rfl) haaac ?_
  show Ev kz ((d + 1), 310, 393, [some (.inr (.inr 86)), some (.inl x1), some (.inl x2), some (.inl x3), some (.inl x4)], [], (am_sh, am_mm U2)) R
  refine ev_seg (σ1 := ((d + 1), 310, 395, [some (.inr (.inr 86)), some (.inl x1), some (.inl x2), some (.inl x3), some (.inl x4)], [.inl 0, .inr (.inr 86)], (am_sh, am_mm U2))) 2 (fun _ => rfl) ?_
  refine eu_putz 86 (n := 90) rfl (by decide) rfl rfl (by decide) ?_
  subst haaaa
  exact ev_end 2 (fun _ => rfl)
set_option maxRecDepth 8000 in
theorem st309_86_0 (kz : am_Z) (d : Nat) (U : Nat → Nat → Int) (R : Option am_V × am_M) (h : ∃ U1 : Nat → Nat → Int, Ev kz (d, 186, 0, [some (.inr (.inr 86))], [], (am_sh, am_mm U)) (none, (am_sh, am_mm U1)) ∧ ((((U1 86 8) ≤ 0 : Prop)) → (0 ≤ (w32 ((U1 86 46) - 1)) ∧ (w32 ((U1 86 46) - 1)) < 20) ∧ ∃ (r2 : Int) (U2 : Nat → Nat → Int), Ev kz (d, 325, 0, [some (.inl (U1 113 (w32 ((U1 86 46) - 1)).toNat))], [], (am_sh, am_mm U1)) (some (.inl r2), (am_sh, am_mm U2)) ∧ (((r2 = 0 : Prop)) → Ev kz ((d + 1), 309, 45, [some (.inr (.inr 86)), some (.inl (w32 ((U1 86 46) - 1))), none, none], [], (am_sh, am_mm U2)) R) ∧ (¬ (r2 = 0) → (0 ≤ (w32 ((U1 86 46) - 1)) ∧ (w32 ((U1 86 46) - 1)) < 20) ∧ ((((U2 115 (w32 ((U1 86 46) - 1)).toNat) = 0 : Prop)) → Ev kz ((d + 1), 309, 45, [some (.inr (.inr 86)), some (.inl (w32 ((U1 86 46) - 1))), none, none], [], (am_sh, am_mm U2)) R) ∧ (¬ ((U2 115 (w32 ((U1 86 46) - 1)).toNat) = 0) → Ev kz ((d + 1), 309, 46, [some (.inr (.inr 86)), some (.inl (w32 ((U1 86 46) - 1))), none, none], [.inl 1], (am_sh, am_mm U2)) R))) ∧ (¬ ((U1 86 8) ≤ 0) → R = (some (.inl 1), (am_sh, am_mm U1)))) : Ev kz ((d + 1), 309, 0, [some (.inr (.inr 86)), none, none, none], [], (am_sh, am_mm U)) R := by
  refine ev_seg (σ1 := ((d + 1), 309, 1, [some (.inr (.inr 86)), none, none, none], [.inr (.inr 86)], (am_sh, am_mm U))) 1 (fun _ => rfl) ?_
  obtain ⟨U1, hc, ha⟩ := h
  refine ev_cal (σc := (d, 186, 0, [some (.inr (.inr 86))], [], (am_sh, am_mm U))) (fun _ => rfl) hc ?_
  show Ev kz ((d + 1), 309, 4, [some (.inr (.inr 86)), none, none, none], [], (am_sh, am_mm U1)) R
  refine ev_br (P := (U1 86 8) ≤ 0) (σ1 := ((d + 1), 309, 13, [some (.inr (.inr 86)), none, none, none], [], (am_sh, am_mm U1))) (σ2 := ((d + 1), 309, 11, [some (.inr (.inr 86)), none, none, none], [], (am_sh, am_mm U1))) 3 (fun _ => rfl) (fun hc => ?_) (fun hc => ?_)
  · have ha1 := ha.1 hc
    refine ev_seg (σ1 := ((d + 1), 309, 25, [some (.inr (.inr 86)), some (.inl (w32 ((U1 86 46) - 1))), none, none], [.inl (w32 ((U1 86 46) - 1)), .inr (.inr 113)], (am_sh, am_mm U1))) 8 (fun _ => rfl) ?_
    refine eu_iald 113 (n := 20) rfl (by decide) rfl (fun _ => rfl) ha1.1 ?_
    have ha1a := ha1.2
    obtain ⟨r2, U2, ha1ac, ha1aa⟩ := ha1a
    refine ev_cal (σc := (d, 325, 0, [some (.inl (U1 113 (w32 ((U1 86 46) - 1)).toNat))], [], (am_sh, am_mm U1))) (fun _ => rfl) ha1ac ?_
    show Ev kz ((d + 1), 309, 29, [some (.inr (.inr 86)), some (.inl (w32 ((U1 86 46) - 1))), none, none], [.inl r2], (am_sh, am_mm U2)) R
    refine ev_br (P := r2 = 0) (σ1 := ((d + 1), 309, 45, [some (.inr (.inr 86)), some (.inl (w32 ((U1 86 46) - 1))), none, none], [], (am_sh, am_mm U2))) (σ2 := ((d + 1), 309, 32, [some (.inr (.inr 86)), some (.inl (w32 ((U1 86 46) - 1))), none, none], [], (am_sh, am_mm U2))) 1 (fun _ => rfl) (fun hc => ?_) (fun hc => ?_)
    · have ha1aa1 := ha1aa.1 hc
      exact ha1aa1
    · have ha1aa2 := ha1aa.2 hc
      refine ev_seg (σ1 := ((d + 1), 309, 37, [some (.inr (.inr 86)), some (.inl (w32 ((U1 86 46) - 1))), none, none], [.inl (w32 ((U1 86 46) - 1)), .inr (.inr 115)], (am_sh, am_mm U2))) 3 (fun _ => rfl) ?_
      refine eu_zald 115 (n := 20) rfl (by decide) rfl (fun _ => rfl) ha1aa2.1 ?_
      have ha1aa2a := ha1aa2.2
      refine ev_br (P := (U2 115 (w32 ((U1 86 46) - 1)).toNat) = 0) (σ1 := ((d + 1), 309, 45, [some (.inr (.inr 86)), some (.inl (w32 ((U1 86 46) - 1))), none, none], [], (am_sh, am_mm U2))) (σ2 := ((d + 1), 309, 41, [some (.inr (.inr 86)), some (.inl (w32 ((U1 86 46) - 1))), none, none], [], (am_sh, am_mm U2))) 1 (fun _ => rfl) (fun hc => ?_) (fun hc => ?_)
      · have ha1aa2a1 := ha1aa2a.1 hc
        exact ha1aa2a1
      · have ha1aa2a2 := ha1aa2a.2 hc
        refine ev_seg (σ1 := ((d + 1), 309, 46, [some (.inr (.inr 86)), some (.inl (w32 ((U1 86 46) - 1))), none, none], [.inl 1], (am_sh, am_mm U2))) 2 (fun _ => rfl) ?_
        exact ha1aa2a2
  · have ha2 := ha.2 hc
    subst ha2
    exact ev_end 2 (fun _ => rfl)
set_option maxRecDepth 8000 in
theorem st309_86_45 (kz : am_Z) (d : Nat) (x1 : Int) (U : Nat → Nat → Int) (R : Option am_V × am_M) (h : Ev kz ((d + 1), 309, 46, [some (.inr (.inr 86)), some (.inl x1), none, none], [.inl 0], (am_sh, am_mm U)) R) : Ev kz ((d + 1), 309, 45, [some (.inr (.inr 86)), some (.inl x1), none, none], [], (am_sh, am_mm U)) R := by
  refine ev_seg (σ1 := ((d + 1), 309, 46, [some (.inr (.inr 86)), some (.inl x1), none, none], [.inl 0], (am_sh, am_mm U))) 1 (fun _ => rfl) ?_
  exact h
set_option maxRecDepth 8000 in
theorem st309_86_46 (kz : am_Z) (d : Nat) (x1 s0 : Int) (U : Nat → Nat → Int) (R : Option am_V × am_M) (h : (((s0 = 0 : Prop)) → Ev kz ((d + 1), 309, 110, [some (.inr (.inr 86)), some (.inl x1), some (.inl s0), none], [], (am_sh, am_mm U)) R) ∧ (¬ (s0 = 0) → ∃ (r1 : Int) (U1 : Nat → Nat → Int), Ev kz (d, 187, 0, [some (.inr (.inr 86)), some (.inr (.inl 7237492)), none], [], (am_sh, am_mm U)) (some (.inl r1), (am_sh, am_mm U1)) ∧ (((r1 = 0 : Prop)) → Ev kz ((d + 1), 309, 110, [some (.inr (.inr 86)), some (.inl x1), some (.inl s0), none], [], (am_sh, am_mm U1)) R) ∧ (¬ (r1 = 0) → (((¬ (U1 86 47) = 7 : Prop)) → Ev kz ((d + 1), 309, 79, [some (.inr (.inr 86)), some (.inl x1), some (.inl s0), none], [], (am_sh, am_mm U1)) R) ∧ (¬ (¬ (U1 86 47) = 7) → ∃ U2 : Nat → Nat → Int, Ev kz (d, 196, 0, [some (.inr (.inr 86)), some (.inl 5), some (.inl (U1 86 4))], [], (am_sh, am_mm U1)) (none, (am_sh, am_mm U2)) ∧ Ev kz ((d + 1), 309, 79, [some (.inr (.inr 86)), some (.inl x1), some (.inl s0), none], [], (am_sh, am_mm U2)) R)))) : Ev kz ((d + 1), 309, 46, [some (.inr (.inr 86)), some (.inl x1), none, none], [.inl s0], (am_sh, am_mm U)) R := by
  refine ev_br (P := s0 = 0) (σ1 := ((d + 1), 309, 110, [some (.inr (.inr 86)), some (.inl x1), some (.inl s0), none], [], (am_sh, am_mm U))) (σ2 := ((d + 1), 309, 51, [some (.inr (.inr 86)), some (.inl x1), some (.inl s0), none], [], (am_sh, am_mm U))) 3 (fun _ => rfl) (fun hc => ?_) (fun hc => ?_)
  · have h1 := h.1 hc
    exact h1
  · have h2 := h.2 hc
    refine ev_seg (σ1 := ((d + 1), 309, 55, [some (.inr (.inr 86)), some (.inl x1), some (.inl s0), none], [.inr (.inl 7237492), .inr (.inr 86)], (am_sh, am_mm U))) 2 (fun _ => rfl) ?_
    obtain ⟨r1, U1, h2c, h2a⟩ := h2
    refine ev_cal (σc := (d, 187, 0, [some (.inr (.inr 86)), some (.inr (.inl 7237492)), none], [], (am_sh, am_mm U))) (fun _ => rfl) h2c ?_
    show Ev kz ((d + 1), 309, 58, [some (.inr (.inr 86)), some (.inl x1), some (.inl s0), none], [.inl r1], (am_sh, am_mm U1)) R
    refine ev_br (P := r1 = 0) (σ1 := ((d + 1), 309, 110, [some (.inr (.inr 86)), some (.inl x1), some (.inl s0), none], [], (am_sh, am_mm U1))) (σ2 := ((d + 1), 309, 61, [some (.inr (.inr 86)), some (.inl x1), some (.inl s0), none], [], (am_sh, am_mm U1))) 1 (fun _ => rfl) (fun hc => ?_) (fun hc => ?_)
    · have h2a1 := h2a.1 hc
      exact h2a1
    · have h2a2 := h2a.2 hc
      refine ev_br (P := ¬ (U1 86 47) = 7) (σ1 := ((d + 1), 309, 79, [some (.inr (.inr 86)), some (.inl x1), some (.inl s0), none], [], (am_sh, am_mm U1))) (σ2 := ((d + 1), 309, 70, [some (.inr (.inr 86)), some (.inl x1), some (.inl s0), none], [], (am_sh, am_mm U1))) 4 (fun _ => rfl) (fun hc => ?_) (fun hc => ?_)
      · have h2a21 := h2a2.1 hc
        exact h2a21
      · have h2a22 := h2a2.2 hc
        refine ev_seg (σ1 := ((d + 1), 309, 76, [some (.inr (.inr 86)), some (.inl x1), some (.inl s0), none], [.inl (U1 86 4), .inl 5, .inr (.inr 86)], (am_sh, am_mm U1))) 4 (fun _ => rfl) ?_
        obtain ⟨U2, h2a22c, h2a22a⟩ := h2a22
        refine ev_cal (σc := (d, 196, 0, [some (.inr (.inr 86)), some (.inl 5), some (.inl (U1 86 4))], [], (am_sh, am_mm U1))) (fun _ => rfl) h2a22c ?_
        show Ev kz ((d + 1), 309, 79, [some (.inr (.inr 86)), some (.inl x1), some (.inl s0), none], [], (am_sh, am_mm U2)) R
        exact h2a22a
set_option maxRecDepth 8000 in
theorem st309_86_110 (kz : am_Z) (d : Nat) (x1 x2 : Int) (U : Nat → Nat → Int) (R : Option am_V × am_M) (h : (0 ≤ x1 ∧ x1 < 20) ∧ (((x2 = 0 : Prop)) → Ev kz ((d + 1), 309, 137, [some (.inr (.inr 86)), some (.inl x1), some (.inl x2), none], [], (am_sh, am_mm (am_upd U 115 x1.toNat 0))) R) ∧ (¬ (x2 = 0) → ∃ (r1 : Int) (U1 : Nat → Nat → Int), Ev kz (d, 197, 0, [some (.inr (.inr 86)), some (.inl 91)], [], (am_sh, am_mm (am_upd U 115 x1.toNat 0))) (some (.inl r1), (am_sh, am_mm U1)) ∧ (((r1 = 0 : Prop)) → Ev kz ((d + 1), 309, 137, [some (.inr (.inr 86)), some (.inl x1), some (.inl x2), none], [], (am_sh, am_mm U1)) R) ∧ (¬ (r1 = 0) → ∃ U2 : Nat → Nat → Int, Ev kz (d, 327, 0, [some (.inr (.inr 86)), some (.inl 5)], [], (am_sh, am_mm U1)) (none, (am_sh, am_mm U2)) ∧ R = (some (.inl 0), (am_sh, am_mm U2))))) : Ev kz ((d + 1), 309, 110, [some (.inr (.inr 86)), some (.inl x1), some (.inl x2), none], [], (am_sh, am_mm U)) R := by
  refine ev_seg (σ1 := ((d + 1), 309, 116, [some (.inr (.inr 86)), some (.inl x1), some (.inl x2), none], [.inl 0, .inl x1, .inr (.inr 115)], (am_sh, am_mm U))) 4 (fun _ => rfl) ?_
  refine eu_zast 115 (by decide) (n := 20) rfl (by decide) rfl (fun _ => rfl) h.1 ?_
  have ha := h.2
  refine ev_br (P := x2 = 0) (σ1 := ((d + 1), 309, 137, [some (.inr (.inr 86)), some (.inl x1), some (.inl x2), none], [], (am_sh, am_mm (am_upd U 115 x1.toNat 0)))) (σ2 := ((d + 1), 309, 121, [some (.inr (.inr 86)), some (.inl x1), some (.inl x2), none], [], (am_sh, am_mm (am_upd U 115 x1.toNat 0)))) 2 (fun _ => rfl) (fun hc => ?_) (fun hc => ?_)
  · have ha1 := ha.1 hc
    exact ha1
  · have ha2 := ha.2 hc
    refine ev_seg (σ1 := ((d + 1), 309, 124, [some (.inr (.inr 86)), some (.inl x1), some (.inl x2), none], [.inl 91, .inr (.inr 86)], (am_sh, am_mm (am_upd U 115 x1.toNat 0)))) 2 (fun _ => rfl) ?_
    obtain ⟨r1, U1, ha2c, ha2a⟩ := ha2
    refine ev_cal (σc := (d, 197, 0, [some (.inr (.inr 86)), some (.inl 91)], [], (am_sh, am_mm (am_upd U 115 x1.toNat 0)))) (fun _ => rfl) ha2c ?_
    show Ev kz ((d + 1), 309, 127, [some (.inr (.inr 86)), some (.inl x1), some (.inl x2), none], [.inl r1], (am_sh, am_mm U1)) R
    refine ev_br (P := r1 = 0) (σ1 := ((d + 1), 309, 137, [some (.inr (.inr 86)), some (.inl x1), some (.inl x2), none], [], (am_sh, am_mm U1))) (σ2 := ((d + 1), 309, 130, [some (.inr (.inr 86)), some (.inl x1), some (.inl x2), none], [], (am_sh, am_mm U1))) 1 (fun _ => rfl) (fun hc => ?_) (fun hc => ?_)
    · have ha2a1 := ha2a.1 hc
      exact ha2a1
    · have ha2a2 := ha2a.2 hc
      refine ev_seg (σ1 := ((d + 1), 309, 132, [some (.inr (.inr 86)), some (.inl x1), some (.inl x2), none], [.inl 5, .inr (.inr 86)], (am_sh, am_mm U1))) 2 (fun _ => rfl) ?_
      obtain ⟨U2, ha2a2c, ha2a2a⟩ := ha2a2
      refine ev_cal (σc := (d, 327, 0, [some (.inr (.inr 86)), some (.inl 5)], [], (am_sh, am_mm U1))) (fun _ => rfl) ha2a2c ?_
      show Ev kz ((d + 1), 309, 135, [some (.inr (.inr 86)), some (.inl x1), some (.inl x2), none], [], (am_sh, am_mm U2)) R
      subst ha2a2a
      exact ev_end 2 (fun _ => rfl)
set_option maxRecDepth 8000 in
theorem st309_86_79 (kz : am_Z) (d : Nat) (x1 x2 : Int) (U : Nat → Nat → Int) (R : Option am_V × am_M) (h : ((((U 86 8) ≤ 0 : Prop)) → ∃ U1 : Nat → Nat → Int, Ev kz (d, 326, 0, [some (.inr (.inr 86)), some (.inl 22)], [], (am_sh, am_mm (am_upd U 86 47 (w32 ((U 86 47) + 1))))) (none, (am_sh, am_mm U1)) ∧ ∃ U2 : Nat → Nat → Int, Ev kz (d, 93, 0, [some (.inr (.inr 86)), none, none, none, none, none], [], (am_sh, am_mm U1)) (none, (am_sh, am_mm U2)) ∧ R = (some (.inl 0), (am_sh, am_mm U2))) ∧ (¬ ((U 86 8) ≤ 0) → R = (some (.inl 1), (am_sh, am_mm U)))) : Ev kz ((d + 1), 309, 79, [some (.inr (.inr 86)), some (.inl x1), some (.inl x2), none], [], (am_sh, am_mm U)) R := by
  refine ev_br (P := (U 86 8) ≤ 0) (σ1 := ((d + 1), 309, 88, [some (.inr (.inr 86)), some (.inl x1), some (.inl x2), none], [], (am_sh, am_mm U))) (σ2 := ((d + 1), 309, 86, [some (.inr (.inr 86)), some (.inl x1), some (.inl x2), none], [], (am_sh, am_mm U))) 3 (fun _ => rfl) (fun hc => ?_) (fun hc => ?_)
  · have h1 := h.1 hc
    refine ev_seg (σ1 := ((d + 1), 309, 95, [some (.inr (.inr 86)), some (.inl x1), some (.inl x2), none], [.inl (w32 ((U 86 47) + 1)), .inr (.inr 86)], (am_sh, am_mm U))) 5 (fun _ => rfl) ?_
    refine eu_puti 86 (n := 90) rfl (by decide) rfl rfl ?_
    refine ev_seg (σ1 := ((d + 1), 309, 101, [some (.inr (.inr 86)), some (.inl x1), some (.inl x2), none], [.inl 22, .inr (.inr 86)], (am_sh, am_mm (am_upd U 86 47 (w32 ((U 86 47) + 1)))))) 2 (fun _ => rfl) ?_
    obtain ⟨U1, h1c, h1a⟩ := h1
    refine ev_cal (σc := (d, 326, 0, [some (.inr (.inr 86)), some (.inl 22)], [], (am_sh, am_mm (am_upd U 86 47 (w32 ((U 86 47) + 1)))))) (fun _ => rfl) h1c ?_
    show Ev kz ((d + 1), 309, 104, [some (.inr (.inr 86)), some (.inl x1), some (.inl x2), none], [], (am_sh, am_mm U1)) R
    refine ev_seg (σ1 := ((d + 1), 309, 105, [some (.inr (.inr 86)), some (.inl x1), some (.inl x2), none], [.inr (.inr 86)], (am_sh, am_mm U1))) 1 (fun _ => rfl) ?_
    obtain ⟨U2, h1ac, h1aa⟩ := h1a
    refine ev_cal (σc := (d, 93, 0, [some (.inr (.inr 86)), none, none, none, none, none], [], (am_sh, am_mm U1))) (fun _ => rfl) h1ac ?_
    show Ev kz ((d + 1), 309, 108, [some (.inr (.inr 86)), some (.inl x1), some (.inl x2), none], [], (am_sh, am_mm U2)) R
    subst h1aa
    exact ev_end 2 (fun _ => rfl)
  · have h2 := h.2 hc
    subst h2
    exact ev_end 2 (fun _ => rfl)
set_option maxRecDepth 8000 in
theorem st309_86_137 (kz : am_Z) (d : Nat) (x1 x2 : Int) (U : Nat → Nat → Int) (R : Option am_V × am_M) (h : (((x2 = 0 : Prop)) → Ev kz ((d + 1), 309, 171, [some (.inr (.inr 86)), some (.inl x1), some (.inl x2), none], [], (am_sh, am_mm U)) R) ∧ (¬ (x2 = 0) → ∃ (r1 : Int) (U1 : Nat → Nat → Int), Ev kz (d, 187, 0, [some (.inr (.inr 86)), some (.inr (.inl 6384748)), none], [], (am_sh, am_mm U)) (some (.inl r1), (am_sh, am_mm U1)) ∧ (((r1 = 0 : Prop)) → Ev kz ((d + 1), 309, 171, [some (.inr (.inr 86)), some (.inl x1), some (.inl x2), none], [], (am_sh, am_mm U1)) R) ∧ (¬ (r1 = 0) → ∃ U2 : Nat → Nat → Int, Ev kz (d, 328, 0, [some (.inr (.inr 86)), some (.inl 9), some (.inl 0)], [], (am_sh, am_mm U1)) (none, (am_sh, am_mm U2)) ∧ (0 ≤ x1 ∧ x1 < 20) ∧ ∃ U3 : Nat → Nat → Int, Ev kz (d, 93, 0, [some (.inr (.inr 86)), none, none, none, none, none], [], (am_sh, am_mm (am_upd U2 114 x1.toNat 2))) (none, (am_sh, am_mm U3)) ∧ R = (some (.inl 1), (am_sh, am_mm U3))))) : Ev kz ((d + 1), 309, 137, [some (.inr (.inr 86)), some (.inl x1), some (.inl x2), none], [], (am_sh, am_mm U)) R := by
  refine ev_br (P := x2 = 0) (σ1 := ((d + 1), 309, 171, [some (.inr (.inr 86)), some (.inl x1), some (.inl x2), none], [], (am_sh, am_mm U))) (σ2 := ((d + 1), 309, 141, [some (.inr (.inr 86)), some (.inl x1), some (.inl x2), none], [], (am_sh, am_mm U))) 2 (fun _ => rfl) (fun hc => ?_) (fun hc => ?_)
  · have h1 := h.1 hc
    exact h1
  · have h2 := h.2 hc
    refine ev_seg (σ1 := ((d + 1), 309, 145, [some (.inr (.inr 86)), some (.inl x1), some (.inl x2), none], [.inr (.inl 6384748), .inr (.inr 86)], (am_sh, am_mm U))) 2 (fun _ => rfl) ?_
    obtain ⟨r1, U1, h2c, h2a⟩ := h2
    refine ev_cal (σc := (d, 187, 0, [some (.inr (.inr 86)), some (.inr (.inl 6384748)), none], [], (am_sh, am_mm U))) (fun _ => rfl) h2c ?_
    show Ev kz ((d + 1), 309, 148, [some (.inr (.inr 86)), some (.inl x1), some (.inl x2), none], [.inl r1], (am_sh, am_mm U1)) R
    refine ev_br (P := r1 = 0) (σ1 := ((d + 1), 309, 171, [some (.inr (.inr 86)), some (.inl x1), some (.inl x2), none], [], (am_sh, am_mm U1))) (σ2 := ((d + 1), 309, 151, [some (.inr (.inr 86)), some (.inl x1), some (.inl x2), none], [], (am_sh, am_mm U1))) 1 (fun _ => rfl) (fun hc => ?_) (fun hc => ?_)
    · have h2a1 := h2a.1 hc
      exact h2a1
    · have h2a2 := h2a.2 hc
      refine ev_seg (σ1 := ((d + 1), 309, 155, [some (.inr (.inr 86)), some (.inl x1), some (.inl x2), none], [.inl 0, .inl 9, .inr (.inr 86)], (am_sh, am_mm U1))) 3 (fun _ => rfl) ?_
      obtain ⟨U2, h2a2c, h2a2a⟩ := h2a2
      refine ev_cal (σc := (d, 328, 0, [some (.inr (.inr 86)), some (.inl 9), some (.inl 0)], [], (am_sh, am_mm U1))) (fun _ => rfl) h2a2c ?_
      show Ev kz ((d + 1), 309, 158, [some (.inr (.inr 86)), some (.inl x1), some (.inl x2), none], [], (am_sh, am_mm U2)) R
      refine ev_seg (σ1 := ((d + 1), 309, 164, [some (.inr (.inr 86)), some (.inl x1), some (.inl x2), none], [.inl 2, .inl x1, .inr (.inr 114)], (am_sh, am_mm U2))) 4 (fun _ => rfl) ?_
      refine eu_iast 114 (n := 20) rfl (by decide) rfl (fun _ => rfl) h2a2a.1 ?_
      have h2a2aa := h2a2a.2
      refine ev_seg (σ1 := ((d + 1), 309, 166, [some (.inr (.inr 86)), some (.inl x1), some (.inl x2), none], [.inr (.inr 86)], (am_sh, am_mm (am_upd U2 114 x1.toNat 2)))) 1 (fun _ => rfl) ?_
      obtain ⟨U3, h2a2aac, h2a2aaa⟩ := h2a2aa
      refine ev_cal (σc := (d, 93, 0, [some (.inr (.inr 86)), none, none, none, none, none], [], (am_sh, am_mm (am_upd U2 114 x1.toNat 2)))) (fun _ => rfl) h2a2aac ?_
      show Ev kz ((d + 1), 309, 169, [some (.inr (.inr 86)), some (.inl x1), some (.inl x2), none], [], (am_sh, am_mm U3)) R
      subst h2a2aaa
      exact ev_end 2 (fun _ => rfl)
set_option maxRecDepth 8000 in
theorem st309_86_171 (kz : am_Z) (d : Nat) (x1 x2 : Int) (U : Nat → Nat → Int) (R : Option am_V × am_M) (h : (((x2 = 0 : Prop)) → Ev kz ((d + 1), 309, 229, [some (.inr (.inr 86)), some (.inl x1), some (.inl x2), none], [], (am_sh, am_mm U)) R) ∧ (¬ (x2 = 0) → ∃ (r1 : Int) (U1 : Nat → Nat → Int), Ev kz (d, 187, 0, [some (.inr (.inr 86)), some (.inr (.inl 126931137819237)), none], [], (am_sh, am_mm U)) (some (.inl r1), (am_sh, am_mm U1)) ∧ (((¬ r1 = 0 : Prop)) → Ev kz ((d + 1), 309, 195, [some (.inr (.inr 86)), some (.inl x1), some (.inl x2), none], [], (am_sh, am_mm U1)) R) ∧ (¬ (¬ r1 = 0) → ∃ (r2 : Int) (U2 : Nat → Nat → Int), Ev kz (d, 187, 0, [some (.inr (.inr 86)), some (.inr (.inl 482955849061)), none], [], (am_sh, am_mm U1)) (some (.inl r2), (am_sh, am_mm U2)) ∧ (((r2 = 0 : Prop)) → Ev kz ((d + 1), 309, 229, [some (.inr (.inr 86)), some (.inl x1), some (.inl x2), none], [], (am_sh, am_mm U2)) R) ∧ (¬ (r2 = 0) → Ev kz ((d + 1), 309, 195, [some (.inr (.inr 86)), some (.inl x1), some (.inl x2), none], [], (am_sh, am_mm U2)) R)))) : Ev kz ((d + 1), 309, 171, [some (.inr (.inr 86)), some (.inl x1), some (.inl x2), none], [], (am_sh, am_mm U)) R := by
  refine ev_br (P := x2 = 0) (σ1 := ((d + 1), 309, 229, [some (.inr (.inr 86)), some (.inl x1), some (.inl x2), none], [], (am_sh, am_mm U))) (σ2 := ((d + 1), 309, 175, [some (.inr (.inr 86)), some (.inl x1), some (.inl x2), none], [], (am_sh, am_mm U))) 2 (fun _ => rfl) (fun hc => ?_) (fun hc => ?_)
  · have h1 := h.1 hc
    exact h1
  · have h2 := h.2 hc
    refine ev_seg (σ1 := ((d + 1), 309, 179, [some (.inr (.inr 86)), some (.inl x1), some (.inl x2), none], [.inr (.inl 126931137819237), .inr (.inr 86)], (am_sh, am_mm U))) 2 (fun _ => rfl) ?_
    obtain ⟨r1, U1, h2c, h2a⟩ := h2
    refine ev_cal (σc := (d, 187, 0, [some (.inr (.inr 86)), some (.inr (.inl 126931137819237)), none], [], (am_sh, am_mm U))) (fun _ => rfl) h2c ?_
    show Ev kz ((d + 1), 309, 182, [some (.inr (.inr 86)), some (.inl x1), some (.inl x2), none], [.inl r1], (am_sh, am_mm U1)) R
    refine ev_br (P := ¬ r1 = 0) (σ1 := ((d + 1), 309, 195, [some (.inr (.inr 86)), some (.inl x1), some (.inl x2), none], [], (am_sh, am_mm U1))) (σ2 := ((d + 1), 309, 185, [some (.inr (.inr 86)), some (.inl x1), some (.inl x2), none], [], (am_sh, am_mm U1))) 1 (fun _ => rfl) (fun hc => ?_) (fun hc => ?_)
    · have h2a1 := h2a.1 hc
      exact h2a1
    · have h2a2 := h2a.2 hc
      refine ev_seg (σ1 := ((d + 1), 309, 189, [some (.inr (.inr 86)), some (.inl x1), some (.inl x2), none], [.inr (.inl 482955849061), .inr (.inr 86)], (am_sh, am_mm U1))) 2 (fun _ => rfl) ?_
      obtain ⟨r2, U2, h2a2c, h2a2a⟩ := h2a2
      refine ev_cal (σc := (d, 187, 0, [some (.inr (.inr 86)), some (.inr (.inl 482955849061)), none], [], (am_sh, am_mm U1))) (fun _ => rfl) h2a2c ?_
      show Ev kz ((d + 1), 309, 192, [some (.inr (.inr 86)), some (.inl x1), some (.inl x2), none], [.inl r2], (am_sh, am_mm U2)) R
      refine ev_br (P := r2 = 0) (σ1 := ((d + 1), 309, 229, [some (.inr (.inr 86)), some (.inl x1), some (.inl x2), none], [], (am_sh, am_mm U2))) (σ2 := ((d + 1), 309, 195, [some (.inr (.inr 86)), some (.inl x1), some (.inl x2), none], [], (am_sh, am_mm U2))) 1 (fun _ => rfl) (fun hc => ?_) (fun hc => ?_)
      · have h2a2a1 := h2a2a.1 hc
        exact h2a2a1
      · have h2a2a2 := h2a2a.2 hc
        exact h2a2a2
set_option maxRecDepth 8000 in
theorem st309_86_229 (kz : am_Z) (d : Nat) (x1 x2 : Int) (U : Nat → Nat → Int) (R : Option am_V × am_M) (h : ∃ (r1 : Int) (U1 : Nat → Nat → Int), Ev kz (d, 197, 0, [some (.inr (.inr 86)), some (.inl 40)], [], (am_sh, am_mm U)) (some (.inl r1), (am_sh, am_mm U1)) ∧ (((r1 = 0 : Prop)) → ∃ (r2 : Int) (U2 : Nat → Nat → Int), Ev kz (d, 187, 0, [some (.inr (.inr 86)), some (.inr (.inl 7170414)), none], [], (am_sh, am_mm U1)) (some (.inl r2), (am_sh, am_mm U2)) ∧ (((¬ r2 = 0 : Prop)) → Ev kz ((d + 1), 309, 275, [some (.inr (.inr 86)), some (.inl x1), some (.inl x2), none], [], (am_sh, am_mm U2)) R) ∧ (¬ (¬ r2 = 0) → ∃ (r3 : Int) (U3 : Nat → Nat → Int), Ev kz (d, 187, 0, [some (.inr (.inr 86)), some (.inr (.inl 7168376)), none], [], (am_sh, am_mm U2)) (some (.inl r3), (am_sh, am_mm U3)) ∧ (((¬ r3 = 0 : Prop)) → Ev kz ((d + 1), 309, 275, [some (.inr (.inr 86)), some (.inl x1), some (.inl x2), none], [], (am_sh, am_mm U3)) R) ∧ (¬ (¬ r3 = 0) → ∃ (r4 : Int) (U4 : Nat → Nat → Int), Ev kz (d, 187, 0, [some (.inr (.inr 86)), some (.inr (.inl 6775652)), none], [], (am_sh, am_mm U3)) (some (.inl r4), (am_sh, am_mm U4)) ∧ (((r4 = 0 : Prop)) → (((¬ (U4 86 3) = 2 : Prop)) → ∃ (r5 : Int) (U5 : Nat → Nat → Int), Ev kz (d, 187, 0, [some (.inr (.inr 86)), some (.inr (.inl 28005)), none], [], (am_sh, am_mm U4)) (some (.inl r5), (am_sh, am_mm U5)) ∧ (((r5 = 0 : Prop)) → ∃ (r6 : Int) (U6 : Nat → Nat → Int), Ev kz (d, 187, 0, [some (.inr (.inr 86)), some (.inr (.inl 478694368626)), none], [], (am_sh, am_mm U5)) (some (.inl r6), (am_sh, am_mm U6)) ∧ (((r6 = 0 : Prop)) → ∃ (r7 : Int) (U7 : Nat → Nat → Int), Ev kz (d, 187, 0, [some (.inr (.inr 86)), some (.inr (.inl 491495845235)), none], [], (am_sh, am_mm U6)) (some (.inl r7), (am_sh, am_mm U7)) ∧ (((r7 = 0 : Prop)) → ∃ (r8 : Int) (U8 : Nat → Nat → Int), Ev kz (d, 187, 0, [some (.inr (.inr 86)), some (.inr (.inl 1835101817)), none], [], (am_sh, am_mm U7)) (some (.inl r8), (am_sh, am_mm U8)) ∧ (((r8 = 0 : Prop)) → ∃ (r9 : Int) (U9 : Nat → Nat → Int), Ev kz (d, 187, 0, [some (.inr (.inr 86)), some (.inr (.inl 448546567013)), none], [], (am_sh, am_mm U8)) (some (.inl r9), (am_sh, am_mm U9)) ∧ (((r9 = 0 : Prop)) → ∃ (r10 : Int) (U10 : Nat → Nat → Int), Ev kz (d, 187, 0, [some (.inr (.inr 86)), some (.inr (.inl 126943972648308)), none], [], (am_sh, am_mm U9)) (some (.inl r10), (am_sh, am_mm U10)) ∧ (((r10 = 0 : Prop)) → Ev kz ((d + 1), 309, 458, [some (.inr (.inr 86)), some (.inl x1), some (.inl x2), none], [.inl (-1)], (am_sh, am_mm U10)) R) ∧ (¬ (r10 = 0) → Ev kz ((d + 1), 309, 458, [some (.inr (.inr 86)), some (.inl x1), some (.inl x2), none], [.inl 6], (am_sh, am_mm U10)) R)) ∧ (¬ (r9 = 0) → Ev kz ((d + 1), 309, 458, [some (.inr (.inr 86)), some (.inl x1), some (.inl x2), none], [.inl 5], (am_sh, am_mm U9)) R)) ∧ (¬ (r8 = 0) → Ev kz ((d + 1), 309, 458, [some (.inr (.inr 86)), some (.inl x1), some (.inl x2), none], [.inl 4], (am_sh, am_mm U8)) R)) ∧ (¬ (r7 = 0) → Ev kz ((d + 1), 309, 458, [some (.inr (.inr 86)), some (.inl x1), some (.inl x2), none], [.inl 3], (am_sh, am_mm U7)) R)) ∧ (¬ (r6 = 0) → Ev kz ((d + 1), 309, 458, [some (.inr (.inr 86)), some (.inl x1), some (.inl x2), none], [.inl 2], (am_sh, am_mm U6)) R)) ∧ (¬ (r5 = 0) → Ev kz ((d + 1), 309, 458, [some (.inr (.inr 86)), some (.inl x1), some (.inl x2), none], [.inl 1], (am_sh, am_mm U5)) R)) ∧ (¬ (¬ (U4 86 3) = 2) → Ev kz ((d + 1), 309, 458, [some (.inr (.inr 86)), some (.inl x1), some (.inl x2), none], [.inl 0], (am_sh, am_mm U4)) R)) ∧ (¬ (r4 = 0) → Ev kz ((d + 1), 309, 275, [some (.inr (.inr 86)), some (.inl x1), some (.inl x2), none], [], (am_sh, am_mm U4)) R)))) ∧ (¬ (r1 = 0) → ∃ U11 : Nat → Nat → Int, Ev kz (d, 327, 0, [some (.inr (.inr 86)), some (.inl 2)], [], (am_sh, am_mm U1)) (none, (am_sh, am_mm U11)) ∧ R = (some (.inl 0), (am_sh, am_mm U11)))) : Ev kz ((d + 1), 309, 229, [some (.inr (.inr 86)), some (.inl x1), some (.inl x2), none], [], (am_sh, am_mm U)) R := by
  refine ev_seg (σ1 := ((d + 1), 309, 232, [some (.inr (.inr 86)), some (.inl x1), some (.inl x2), none], [.inl 40, .inr (.inr 86)], (am_sh, am_mm U))) 2 (fun _ => rfl) ?_
  obtain ⟨r1, U1, hc, ha⟩ := h
  refine ev_cal (σc := (d, 197, 0, [some (.inr (.inr 86)), some (.inl 40)], [], (am_sh, am_mm U))) (fun _ => rfl) hc ?_
  show Ev kz ((d + 1), 309, 235, [some (.inr (.inr 86)), some (.inl x1), some (.inl x2), none], [.inl r1], (am_sh, am_mm U1)) R
  refine ev_br (P := r1 = 0) (σ1 := ((d + 1), 309, 245, [some (.inr (.inr 86)), some (.inl x1), some (.inl x2), none], [], (am_sh, am_mm U1))) (σ2 := ((d + 1), 309, 238, [some (.inr (.inr 86)), some (.inl x1), some (.inl x2), none], [], (am_sh, am_mm U1))) 1 (fun _ => rfl) (fun hc => ?_) (fun hc => ?_)
  · have ha1 := ha.1 hc
    refine ev_seg (σ1 := ((d + 1), 309, 249, [some (.inr (.inr 86)), some (.inl x1), some (.inl x2), none], [.inr (.inl 7170414), .inr (.inr 86)], (am_sh, am_mm U1))) 2 (fun _ => rfl) ?_
    obtain ⟨r2, U2, ha1c, ha1a⟩ := ha1
    refine ev_cal (σc := (d, 187, 0, [some (.inr (.inr 86)), some (.inr (.inl 7170414)), none], [], (am_sh, am_mm U1))) (fun _ => rfl) ha1c ?_
    show Ev kz ((d + 1), 309, 252, [some (.inr (.inr 86)), some (.inl x1), some (.inl x2), none], [.inl r2], (am_sh, am_mm U2)) R
    refine ev_br (P := ¬ r2 = 0) (σ1 := ((d + 1), 309, 275, [some (.inr (.inr 86)), some (.inl x1), some (.inl x2), none], [], (am_sh, am_mm U2))) (σ2 := ((d + 1), 309, 255, [some (.inr (.inr 86)), some (.inl x1), some (.inl x2), none], [], (am_sh, am_mm U2))) 1 (fun _ => rfl) (fun hc => ?_) (fun hc => ?_)
    · have ha1a1 := ha1a.1 hc
      exact ha1a1
    · have ha1a2 := ha1a.2 hc
      refine ev_seg (σ1 := ((d + 1), 309, 259, [some (.inr (.inr 86)), some (.inl x1), some (.inl x2), none], [.inr (.inl 7168376), .inr (.inr 86)], (am_sh, am_mm U2))) 2 (fun _ => rfl) ?_
      obtain ⟨r3, U3, ha1a2c, ha1a2a⟩ := ha1a2
      refine ev_cal (σc := (d, 187, 0, [some (.inr (.inr 86)), some (.inr (.inl 7168376)), none], [], (am_sh, am_mm U2))) (fun _ => rfl) ha1a2c ?_
      show Ev kz ((d + 1), 309, 262, [some (.inr (.inr 86)), some (.inl x1), some (.inl x2), none], [.inl r3], (am_sh, am_mm U3)) R
      refine ev_br (P := ¬ r3 = 0) (σ1 := ((d + 1), 309, 275, [some (.inr (.inr 86)), some (.inl x1), some (.inl x2), none], [], (am_sh, am_mm U3))) (σ2 := ((d + 1), 309, 265, [some (.inr (.inr 86)), some (.inl x1), some (.inl x2), none], [], (am_sh, am_mm U3))) 1 (fun _ => rfl) (fun hc => ?_) (fun hc => ?_)
      · have ha1a2a1 := ha1a2a.1 hc
        exact ha1a2a1
      · have ha1a2a2 := ha1a2a.2 hc
        refine ev_seg (σ1 := ((d + 1), 309, 269, [some (.inr (.inr 86)), some (.inl x1), some (.inl x2), none], [.inr (.inl 6775652), .inr (.inr 86)], (am_sh, am_mm U3))) 2 (fun _ => rfl) ?_
        obtain ⟨r4, U4, ha1a2a2c, ha1a2a2a⟩ := ha1a2a2
        refine ev_cal (σc := (d, 187, 0, [some (.inr (.inr 86)), some (.inr (.inl 6775652)), none], [], (am_sh, am_mm U3))) (fun _ => rfl) ha1a2a2c ?_
        show Ev kz ((d + 1), 309, 272, [some (.inr (.inr 86)), some (.inl x1), some (.inl x2), none], [.inl r4], (am_sh, am_mm U4)) R
        refine ev_br (P := r4 = 0) (σ1 := ((d + 1), 309, 360, [some (.inr (.inr 86)), some (.inl x1), some (.inl x2), none], [], (am_sh, am_mm U4))) (σ2 := ((d + 1), 309, 275, [some (.inr (.inr 86)), some (.inl x1), some (.inl x2), none], [], (am_sh, am_mm U4))) 1 (fun _ => rfl) (fun hc => ?_) (fun hc => ?_)
        · have ha1a2a2a1 := ha1a2a2a.1 hc
          refine ev_br (P := ¬ (U4 86 3) = 2) (σ1 := ((d + 1), 309, 372, [some (.inr (.inr 86)), some (.inl x1), some (.inl x2), none], [], (am_sh, am_mm U4))) (σ2 := ((d + 1), 309, 368, [some (.inr (.inr 86)), some (.inl x1), some (.inl x2), none], [], (am_sh, am_mm U4))) 4 (fun _ => rfl) (fun hc => ?_) (fun hc => ?_)
          · have ha1a2a2a11 := ha1a2a2a1.1 hc
            refine ev_seg (σ1 := ((d + 1), 309, 376, [some (.inr (.inr 86)), some (.inl x1), some (.inl x2), none], [.inr (.inl 28005), .inr (.inr 86)], (am_sh, am_mm U4))) 2 (fun _ => rfl) ?_
            obtain ⟨r5, U5, ha1a2a2a11c, ha1a2a2a11a⟩ := ha1a2a2a11
            refine ev_cal (σc := (d, 187, 0, [some (.inr (.inr 86)), some (.inr (.inl 28005)), none], [], (am_sh, am_mm U4))) (fun _ => rfl) ha1a2a2a11c ?_
            show Ev kz ((d + 1), 309, 379, [some (.inr (.inr 86)), some (.inl x1), some (.inl x2), none], [.inl r5], (am_sh, am_mm U5)) R
            refine ev_br (P := r5 = 0) (σ1 := ((d + 1), 309, 386, [some (.inr (.inr 86)), some (.inl x1), some (.inl x2), none], [], (am_sh, am_mm U5))) (σ2 := ((d + 1), 309, 382, [some (.inr (.inr 86)), some (.inl x1), some (.inl x2), none], [], (am_sh, am_mm U5))) 1 (fun _ => rfl) (fun hc => ?_) (fun hc => ?_)
            · have ha1a2a2a11a1 := ha1a2a2a11a.1 hc
              refine ev_seg (σ1 := ((d + 1), 309, 390, [some (.inr (.inr 86)), some (.inl x1), some (.inl x2), none], [.inr (.inl 478694368626), .inr (.inr 86)], (am_sh, am_mm U5))) 2 (fun _ => rfl) ?_
              obtain ⟨r6, U6, ha1a2a2a11a1c, ha1a2a2a11a1a⟩ := ha1a2a2a11a1
              refine ev_cal (σc := (d, 187, 0, [some (.inr (.inr 86)), some (.inr (.inl 478694368626)), none], [], (am_sh, am_mm U5))) (fun _ => rfl) ha1a2a2a11a1c ?_
              show Ev kz ((d + 1), 309, 393, [some (.inr (.inr 86)), some (.inl x1), some (.inl x2), none], [.inl r6], (am_sh, am_mm U6)) R
              refine ev_br (P := r6 = 0) (σ1 := ((d + 1), 309, 400, [some (.inr (.inr 86)), some (.inl x1), some (.inl x2), none], [], (am_sh, am_mm U6))) (σ2 := ((d + 1), 309, 396, [some (.inr (.inr 86)), some (.inl x1), some (.inl x2), none], [], (am_sh, am_mm U6))) 1 (fun _ => rfl) (fun hc => ?_) (fun hc => ?_)
              · have ha1a2a2a11a1a1 := ha1a2a2a11a1a.1 hc
                refine ev_seg (σ1 := ((d + 1), 309, 404, [some (.inr (.inr 86)), some (.inl x1), some (.inl x2), none], [.inr (.inl 491495845235), .inr (.inr 86)], (am_sh, am_mm U6))) 2 (fun _ => rfl) ?_
                obtain ⟨r7, U7, ha1a2a2a11a1a1c, ha1a2a2a11a1a1a⟩ := ha1a2a2a11a1a1
                refine ev_cal (σc := (d, 187, 0, [some (.inr (.inr 86)), some (.inr (.inl 491495845235)), none], [], (am_sh, am_mm U6))) (fun _ => rfl) ha1a2a2a11a1a1c ?_
                show Ev kz ((d + 1), 309, 407, [some (.inr (.inr 86)), some (.inl x1), some (.inl x2), none], [.inl r7], (am_sh, am_mm U7)) R
                refine ev_br (P := r7 = 0) (σ1 := ((d + 1), 309, 414, [some (.inr (.inr 86)), some (.inl x1), some (.inl x2), none], [], (am_sh, am_mm U7))) (σ2 := ((d + 1), 309, 410, [some (.inr (.inr 86)), some (.inl x1), some (.inl x2), none], [], (am_sh, am_mm U7))) 1 (fun _ => rfl) (fun hc => ?_) (fun hc => ?_)
                · have ha1a2a2a11a1a1a1 := ha1a2a2a11a1a1a.1 hc
                  refine ev_seg (σ1 := ((d + 1), 309, 418, [some (.inr (.inr 86)), some (.inl x1), some (.inl x2), none], [.inr (.inl 1835101817), .inr (.inr 86)], (am_sh, am_mm U7))) 2 (fun _ => rfl) ?_
                  obtain ⟨r8, U8, ha1a2a2a11a1a1a1c, ha1a2a2a11a1a1a1a⟩ := ha1a2a2a11a1a1a1
                  refine ev_cal (σc := (d, 187, 0, [some (.inr (.inr 86)), some (.inr (.inl 1835101817)), none], [], (am_sh, am_mm U7))) (fun _ => rfl) ha1a2a2a11a1a1a1c ?_
                  show Ev kz ((d + 1), 309, 421, [some (.inr (.inr 86)), some (.inl x1), some (.inl x2), none], [.inl r8], (am_sh, am_mm U8)) R
                  refine ev_br (P := r8 = 0) (σ1 := ((d + 1), 309, 428, [some (.inr (.inr 86)), some (.inl x1), some (.inl x2), none], [], (am_sh, am_mm U8))) (σ2 := ((d + 1), 309, 424, [some (.inr (.inr 86)), some (.inl x1), some (.inl x2), none], [], (am_sh, am_mm U8))) 1 (fun _ => rfl) (fun hc => ?_) (fun hc => ?_)
                  · have ha1a2a2a11a1a1a1a1 := ha1a2a2a11a1a1a1a.1 hc
                    refine ev_seg (σ1 := ((d + 1), 309, 432, [some (.inr (.inr 86)), some (.inl x1), some (.inl x2), none], [.inr (.inl 448546567013), .inr (.inr 86)], (am_sh, am_mm U8))) 2 (fun _ => rfl) ?_
                    obtain ⟨r9, U9, ha1a2a2a11a1a1a1a1c, ha1a2a2a11a1a1a1a1a⟩ := ha1a2a2a11a1a1a1a1
                    refine ev_cal (σc := (d, 187, 0, [some (.inr (.inr 86)), some (.inr (.inl 448546567013)), none], [], (am_sh, am_mm U8))) (fun _ => rfl) ha1a2a2a11a1a1a1a1c ?_
                    show Ev kz ((d + 1), 309, 435, [some (.inr (.inr 86)), some (.inl x1), some (.inl x2), none], [.inl r9], (am_sh, am_mm U9)) R
                    refine ev_br (P := r9 = 0) (σ1 := ((d + 1), 309, 442, [some (.inr (.inr 86)), some (.inl x1), some (.inl x2), none], [], (am_sh, am_mm U9))) (σ2 := ((d + 1), 309, 438, [some (.inr (.inr 86)), some (.inl x1), some (.inl x2), none], [], (am_sh, am_mm U9))) 1 (fun _ => rfl) (fun hc => ?_) (fun hc => ?_)
                    · have ha1a2a2a11a1a1a1a1a1 := ha1a2a2a11a1a1a1a1a.1 hc
                      refine ev_seg (σ1 := ((d + 1), 309, 446, [some (.inr (.inr 86)), some (.inl x1), some (.inl x2), none], [.inr (.inl 126943972648308), .inr (.inr 86)], (am_sh, am_mm U9))) 2 (fun _ => rfl) ?_
                      obtain ⟨r10, U10, ha1a2a2a11a1a1a1a1a1c, ha1a2a2a11a1a1a1a1a1a⟩ := ha1a2a2a11a1a1a1a1a1
                      refine ev_cal (σc := (d, 187, 0, [some (.inr (.inr 86)), some (.inr (.inl 126943972648308)), none], [], (am_sh, am_mm U9))) (fun _ => rfl) ha1a2a2a11a1a1a1a1a1c ?_
                      show Ev kz ((d + 1), 309, 449, [some (.inr (.inr 86)), some (.inl x1), some (.inl x2), none], [.inl r10], (am_sh, am_mm U10)) R
                      refine ev_br (P := r10 = 0) (σ1 := ((d + 1), 309, 457, [some (.inr (.inr 86)), some (.inl x1), some (.inl x2), none], [], (am_sh, am_mm U10))) (σ2 := ((d + 1), 309, 452, [some (.inr (.inr 86)), some (.inl x1), some (.inl x2), none], [], (am_sh, am_mm U10))) 1 (fun _ => rfl) (fun hc => ?_) (fun hc => ?_)
                      · have ha1a2a2a11a1a1a1a1a1a1 := ha1a2a2a11a1a1a1a1a1a.1 hc
                        refine ev_seg (σ1 := ((d + 1), 309, 458, [some (.inr (.inr 86)), some (.inl x1), some (.inl x2), none], [.inl (-1)], (am_sh, am_mm U10))) 1 (fun _ => rfl) ?_
                        exact ha1a2a2a11a1a1a1a1a1a1
                      · have ha1a2a2a11a1a1a1a1a1a2 := ha1a2a2a11a1a1a1a1a1a.2 hc
                        refine ev_seg (σ1 := ((d + 1), 309, 458, [some (.inr (.inr 86)), some (.inl x1), some (.inl x2), none], [.inl 6], (am_sh, am_mm U10))) 2 (fun _ => rfl) ?_
                        exact ha1a2a2a11a1a1a1a1a1a2
                    · have ha1a2a2a11a1a1a1a1a2 := ha1a2a2a11a1a1a1a1a.2 hc
                      refine ev_seg (σ1 := ((d + 1), 309, 458, [some (.inr (.inr 86)), some (.inl x1), some (.inl x2), none], [.inl 5], (am_sh, am_mm U9))) 2 (fun _ => rfl) ?_
                      exact ha1a2a2a11a1a1a1a1a2
                  · have ha1a2a2a11a1a1a1a2 := ha1a2a2a11a1a1a1a.2 hc
                    refine ev_seg (σ1 := ((d + 1), 309, 458, [some (.inr (.inr 86)), some (.inl x1), some (.inl x2), none], [.inl 4], (am_sh, am_mm U8))) 2 (fun _ => rfl) ?_
                    exact ha1a2a2a11a1a1a1a2
                · have ha1a2a2a11a1a1a2 := ha1a2a2a11a1a1a.2 hc
                  refine ev_seg (σ1 := ((d + 1), 309, 458, [some (.inr (.inr 86)), some (.inl x1), some (.inl x2), none], [.inl 3], (am_sh, am_mm U7))) 2 (fun _ => rfl) ?_
                  exact ha1a2a2a11a1a1a2
              · have ha1a2a2a11a1a2 := ha1a2a2a11a1a.2 hc
                refine ev_seg (σ1 := ((d + 1), 309, 458, [some (.inr (.inr 86)), some (.inl x1), some (.inl x2), none], [.inl 2], (am_sh, am_mm U6))) 2 (fun _ => rfl) ?_
                exact ha1a2a2a11a1a2
            · have ha1a2a2a11a2 := ha1a2a2a11a.2 hc
              refine ev_seg (σ1 := ((d + 1), 309, 458, [some (.inr (.inr 86)), some (.inl x1), some (.inl x2), none], [.inl 1], (am_sh, am_mm U5))) 2 (fun _ => rfl) ?_
              exact ha1a2a2a11a2
          · have ha1a2a2a12 := ha1a2a2a1.2 hc
            refine ev_seg (σ1 := ((d + 1), 309, 458, [some (.inr (.inr 86)), some (.inl x1), some (.inl x2), none], [.inl 0], (am_sh, am_mm U4))) 2 (fun _ => rfl) ?_
            exact ha1a2a2a12
        · have ha1a2a2a2 := ha1a2a2a.2 hc
          exact ha1a2a2a2
  · have ha2 := ha.2 hc
    refine ev_seg (σ1 := ((d + 1), 309, 240, [some (.inr (.inr 86)), some (.inl x1), some (.inl x2), none], [.inl 2, .inr (.inr 86)], (am_sh, am_mm U1))) 2 (fun _ => rfl) ?_
    obtain ⟨U11, ha2c, ha2a⟩ := ha2
    refine ev_cal (σc := (d, 327, 0, [some (.inr (.inr 86)), some (.inl 2)], [], (am_sh, am_mm U1))) (fun _ => rfl) ha2c ?_
    show Ev kz ((d + 1), 309, 243, [some (.inr (.inr 86)), some (.inl x1), some (.inl x2), none], [], (am_sh, am_mm U11)) R
    subst ha2a
    exact ev_end 2 (fun _ => rfl)
set_option maxRecDepth 8000 in
theorem st309_86_195 (kz : am_Z) (d : Nat) (x1 x2 : Int) (U : Nat → Nat → Int) (R : Option am_V × am_M) (h : ∃ (r1 : Int) (U1 : Nat → Nat → Int), Ev kz (d, 187, 0, [some (.inr (.inr 86)), some (.inr (.inl 126931137819237)), none], [], (am_sh, am_mm U)) (some (.inl r1), (am_sh, am_mm U1)) ∧ (((r1 = 0 : Prop)) → Ev kz ((d + 1), 309, 213, [some (.inr (.inr 86)), some (.inl x1), some (.inl x2), none], [.inl 25, .inr (.inr 86)], (am_sh, am_mm U1)) R) ∧ (¬ (r1 = 0) → Ev kz ((d + 1), 309, 213, [some (.inr (.inr 86)), some (.inl x1), some (.inl x2), none], [.inl 24, .inr (.inr 86)], (am_sh, am_mm U1)) R)) : Ev kz ((d + 1), 309, 195, [some (.inr (.inr 86)), some (.inl x1), some (.inl x2), none], [], (am_sh, am_mm U)) R := by
  refine ev_seg (σ1 := ((d + 1), 309, 200, [some (.inr (.inr 86)), some (.inl x1), some (.inl x2), none], [.inr (.inl 126931137819237), .inr (.inr 86), .inr (.inr 86)], (am_sh, am_mm U))) 3 (fun _ => rfl) ?_
  obtain ⟨r1, U1, hc, ha⟩ := h
  refine ev_cal (σc := (d, 187, 0, [some (.inr (.inr 86)), some (.inr (.inl 126931137819237)), none], [], (am_sh, am_mm U))) (fun _ => rfl) hc ?_
  show Ev kz ((d + 1), 309, 203, [some (.inr (.inr 86)), some (.inl x1), some (.inl x2), none], [.inl r1, .inr (.inr 86)], (am_sh, am_mm U1)) R
  refine ev_br (P := r1 = 0) (σ1 := ((d + 1), 309, 211, [some (.inr (.inr 86)), some (.inl x1), some (.inl x2), none], [.inr (.inr 86)], (am_sh, am_mm U1))) (σ2 := ((d + 1), 309, 206, [some (.inr (.inr 86)), some (.inl x1), some (.inl x2), none], [.inr (.inr 86)], (am_sh, am_mm U1))) 1 (fun _ => rfl) (fun hc => ?_) (fun hc => ?_)
  · have ha1 := ha.1 hc
    refine ev_seg (σ1 := ((d + 1), 309, 213, [some (.inr (.inr 86)), some (.inl x1), some (.inl x2), none], [.inl 25, .inr (.inr 86)], (am_sh, am_mm U1))) 1 (fun _ => rfl) ?_
    exact ha1
  · have ha2 := ha.2 hc
    refine ev_seg (σ1 := ((d + 1), 309, 213, [some (.inr (.inr 86)), some (.inl x1), some (.inl x2), none], [.inl 24, .inr (.inr 86)], (am_sh, am_mm U1))) 2 (fun _ => rfl) ?_
    exact ha2
set_option maxRecDepth 8000 in
theorem st309_86_275 (kz : am_Z) (d : Nat) (x1 x2 : Int) (U : Nat → Nat → Int) (R : Option am_V × am_M) (h : ∃ (r1 : Int) (U1 : Nat → Nat → Int), Ev kz (d, 187, 0, [some (.inr (.inr 86)), some (.inr (.inl 7170414)), none], [], (am_sh, am_mm U)) (some (.inl r1), (am_sh, am_mm U1)) ∧ (((r1 = 0 : Prop)) → ∃ (r2 : Int) (U2 : Nat → Nat → Int), Ev kz (d, 187, 0, [some (.inr (.inr 86)), some (.inr (.inl 7168376)), none], [], (am_sh, am_mm U1)) (some (.inl r2), (am_sh, am_mm U2)) ∧ (((r2 = 0 : Prop)) → Ev kz ((d + 1), 309, 307, [some (.inr (.inr 86)), some (.inl x1), some (.inl x2), none], [.inl 23], (am_sh, am_mm U2)) R) ∧ (¬ (r2 = 0) → Ev kz ((d + 1), 309, 307, [some (.inr (.inr 86)), some (.inl x1), some (.inl x2), none], [.inl 16], (am_sh, am_mm U2)) R)) ∧ (¬ (r1 = 0) → Ev kz ((d + 1), 309, 307, [some (.inr (.inr 86)), some (.inl x1), some (.inl x2), none], [.inl 15], (am_sh, am_mm U1)) R)) : Ev kz ((d + 1), 309, 275, [some (.inr (.inr 86)), some (.inl x1), some (.inl x2), none], [], (am_sh, am_mm U)) R := by
  refine ev_seg (σ1 := ((d + 1), 309, 279, [some (.inr (.inr 86)), some (.inl x1), some (.inl x2), none], [.inr (.inl 7170414), .inr (.inr 86)], (am_sh, am_mm U))) 2 (fun _ => rfl) ?_
  obtain ⟨r1, U1, hc, ha⟩ := h
  refine ev_cal (σc := (d, 187, 0, [some (.inr (.inr 86)), some (.inr (.inl 7170414)), none], [], (am_sh, am_mm U))) (fun _ => rfl) hc ?_
  show Ev kz ((d + 1), 309, 282, [some (.inr (.inr 86)), some (.inl x1), some (.inl x2), none], [.inl r1], (am_sh, am_mm U1)) R
  refine ev_br (P := r1 = 0) (σ1 := ((d + 1), 309, 290, [some (.inr (.inr 86)), some (.inl x1), some (.inl x2), none], [], (am_sh, am_mm U1))) (σ2 := ((d + 1), 309, 285, [some (.inr (.inr 86)), some (.inl x1), some (.inl x2), none], [], (am_sh, am_mm U1))) 1 (fun _ => rfl) (fun hc => ?_) (fun hc => ?_)
  · have ha1 := ha.1 hc
    refine ev_seg (σ1 := ((d + 1), 309, 294, [some (.inr (.inr 86)), some (.inl x1), some (.inl x2), none], [.inr (.inl 7168376), .inr (.inr 86)], (am_sh, am_mm U1))) 2 (fun _ => rfl) ?_
    obtain ⟨r2, U2, ha1c, ha1a⟩ := ha1
    refine ev_cal (σc := (d, 187, 0, [some (.inr (.inr 86)), some (.inr (.inl 7168376)), none], [], (am_sh, am_mm U1))) (fun _ => rfl) ha1c ?_
    show Ev kz ((d + 1), 309, 297, [some (.inr (.inr 86)), some (.inl x1), some (.inl x2), none], [.inl r2], (am_sh, am_mm U2)) R
    refine ev_br (P := r2 = 0) (σ1 := ((d + 1), 309, 305, [some (.inr (.inr 86)), some (.inl x1), some (.inl x2), none], [], (am_sh, am_mm U2))) (σ2 := ((d + 1), 309, 300, [some (.inr (.inr 86)), some (.inl x1), some (.inl x2), none], [], (am_sh, am_mm U2))) 1 (fun _ => rfl) (fun hc => ?_) (fun hc => ?_)
    · have ha1a1 := ha1a.1 hc
      refine ev_seg (σ1 := ((d + 1), 309, 307, [some (.inr (.inr 86)), some (.inl x1), some (.inl x2), none], [.inl 23], (am_sh, am_mm U2))) 1 (fun _ => rfl) ?_
      exact ha1a1
    · have ha1a2 := ha1a.2 hc
      refine ev_seg (σ1 := ((d + 1), 309, 307, [some (.inr (.inr 86)), some (.inl x1), some (.inl x2), none], [.inl 16], (am_sh, am_mm U2))) 2 (fun _ => rfl) ?_
      exact ha1a2
  · have ha2 := ha.2 hc
    refine ev_seg (σ1 := ((d + 1), 309, 307, [some (.inr (.inr 86)), some (.inl x1), some (.inl x2), none], [.inl 15], (am_sh, am_mm U1))) 2 (fun _ => rfl) ?_
    exact ha2
set_option maxRecDepth 8000 in
theorem st309_86_458 (kz : am_Z) (d : Nat) (x1 x2 s0 : Int) (U : Nat → Nat → Int) (R : Option am_V × am_M) (h : (((¬ s0 = (-1) : Prop)) → ((((U 86 8) ≤ 0 : Prop)) → ∃ U1 : Nat → Nat → Int, Ev kz (d, 328, 0, [some (.inr (.inr 86)), some (.inl s0), some (.inl (U 86 6))], [], (am_sh, am_mm U)) (none, (am_sh, am_mm U1)) ∧ ∃ U2 : Nat → Nat → Int, Ev kz (d, 93, 0, [some (.inr (.inr 86)), none, none, none, none, none], [], (am_sh, am_mm U1)) (none, (am_sh, am_mm U2)) ∧ R = (some (.inl 1), (am_sh, am_mm U2))) ∧ (¬ ((U 86 8) ≤ 0) → R = (some (.inl 1), (am_sh, am_mm U)))) ∧ (¬ (¬ s0 = (-1)) → ∃ U3 : Nat → Nat → Int, Ev kz (d, 196, 0, [some (.inr (.inr 86)), some (.inl 1), some (.inl (U 86 4))], [], (am_sh, am_mm U)) (none, (am_sh, am_mm U3)) ∧ ((((U3 86 8) ≤ 0 : Prop)) → ∃ U4 : Nat → Nat → Int, Ev kz (d, 328, 0, [some (.inr (.inr 86)), some (.inl s0), some (.inl (U3 86 6))], [], (am_sh, am_mm U3)) (none, (am_sh, am_mm U4)) ∧ ∃ U5 : Nat → Nat → Int, Ev kz (d, 93, 0, [some (.inr (.inr 86)), none, none, none, none, none], [], (am_sh, am_mm U4)) (none, (am_sh, am_mm U5)) ∧ R = (some (.inl 1), (am_sh, am_mm U5))) ∧ (¬ ((U3 86 8) ≤ 0) → R = (some (.inl 1), (am_sh, am_mm U3))))) : Ev kz ((d + 1), 309, 458, [some (.inr (.inr 86)), some (.inl x1), some (.inl x2), none], [.inl s0], (am_sh, am_mm U)) R := by
  refine ev_br (P := ¬ s0 = (-1)) (σ1 := ((d + 1), 309, 473, [some (.inr (.inr 86)), some (.inl x1), some (.inl x2), some (.inl s0)], [], (am_sh, am_mm U))) (σ2 := ((d + 1), 309, 464, [some (.inr (.inr 86)), some (.inl x1), some (.inl x2), some (.inl s0)], [], (am_sh, am_mm U))) 4 (fun _ => rfl) (fun hc => ?_) (fun hc => ?_)
  · have h1 := h.1 hc
    refine ev_br (P := (U 86 8) ≤ 0) (σ1 := ((d + 1), 309, 482, [some (.inr (.inr 86)), some (.inl x1), some (.inl x2), some (.inl s0)], [], (am_sh, am_mm U))) (σ2 := ((d + 1), 309, 480, [some (.inr (.inr 86)), some (.inl x1), some (.inl x2), some (.inl s0)], [], (am_sh, am_mm U))) 3 (fun _ => rfl) (fun hc => ?_) (fun hc => ?_)
    · have h11 := h1.1 hc
      refine ev_seg (σ1 := ((d + 1), 309, 488, [some (.inr (.inr 86)), some (.inl x1), some (.inl x2), some (.inl s0)], [.inl (U 86 6), .inl s0, .inr (.inr 86)], (am_sh, am_mm U))) 4 (fun _ => rfl) ?_
      obtain ⟨U1, h11c, h11a⟩ := h11
      refine ev_cal (σc := (d, 328, 0, [some (.inr (.inr 86)), some (.inl s0), some (.inl (U 86 6))], [], (am_sh, am_mm U))) (fun _ => rfl) h11c ?_
      show Ev kz ((d + 1), 309, 491, [some (.inr (.inr 86)), some (.inl x1), some (.inl x2), some (.inl s0)], [], (am_sh, am_mm U1)) R
      refine ev_seg (σ1 := ((d + 1), 309, 492, [some (.inr (.inr 86)), some (.inl x1), some (.inl x2), some (.inl s0)], [.inr (.inr 86)], (am_sh, am_mm U1))) 1 (fun _ => rfl) ?_
      obtain ⟨U2, h11ac, h11aa⟩ := h11a
      refine ev_cal (σc := (d, 93, 0, [some (.inr (.inr 86)), none, none, none, none, none], [], (am_sh, am_mm U1))) (fun _ => rfl) h11ac ?_
      show Ev kz ((d + 1), 309, 495, [some (.inr (.inr 86)), some (.inl x1), some (.inl x2), some (.inl s0)], [], (am_sh, am_mm U2)) R
      subst h11aa
      exact ev_end 2 (fun _ => rfl)
    · have h12 := h1.2 hc
      subst h12
      exact ev_end 2 (fun _ => rfl)
  · have h2 := h.2 hc
    refine ev_seg (σ1 := ((d + 1), 309, 470, [some (.inr (.inr 86)), some (.inl x1), some (.inl x2), some (.inl s0)], [.inl (U 86 4), .inl 1, .inr (.inr 86)], (am_sh, am_mm U))) 4 (fun _ => rfl) ?_
    obtain ⟨U3, h2c, h2a⟩ := h2
    refine ev_cal (σc := (d, 196, 0, [some (.inr (.inr 86)), some (.inl 1), some (.inl (U 86 4))], [], (am_sh, am_mm U))) (fun _ => rfl) h2c ?_
    show Ev kz ((d + 1), 309, 473, [some (.inr (.inr 86)), some (.inl x1), some (.inl x2), some (.inl s0)], [], (am_sh, am_mm U3)) R
    refine ev_br (P := (U3 86 8) ≤ 0) (σ1 := ((d + 1), 309, 482, [some (.inr (.inr 86)), some (.inl x1), some (.inl x2), some (.inl s0)], [], (am_sh, am_mm U3))) (σ2 := ((d + 1), 309, 480, [some (.inr (.inr 86)), some (.inl x1), some (.inl x2), some (.inl s0)], [], (am_sh, am_mm U3))) 3 (fun _ => rfl) (fun hc => ?_) (fun hc => ?_)
    · have h2a1 := h2a.1 hc
      refine ev_seg (σ1 := ((d + 1), 309, 488, [some (.inr (.inr 86)), some (.inl x1), some (.inl x2), some (.inl s0)], [.inl (U3 86 6), .inl s0, .inr (.inr 86)], (am_sh, am_mm U3))) 4 (fun _ => rfl) ?_
      obtain ⟨U4, h2a1c, h2a1a⟩ := h2a1
      refine ev_cal (σc := (d, 328, 0, [some (.inr (.inr 86)), some (.inl s0), some (.inl (U3 86 6))], [], (am_sh, am_mm U3))) (fun _ => rfl) h2a1c ?_
      show Ev kz ((d + 1), 309, 491, [some (.inr (.inr 86)), some (.inl x1), some (.inl x2), some (.inl s0)], [], (am_sh, am_mm U4)) R
      refine ev_seg (σ1 := ((d + 1), 309, 492, [some (.inr (.inr 86)), some (.inl x1), some (.inl x2), some (.inl s0)], [.inr (.inr 86)], (am_sh, am_mm U4))) 1 (fun _ => rfl) ?_
      obtain ⟨U5, h2a1ac, h2a1aa⟩ := h2a1a
      refine ev_cal (σc := (d, 93, 0, [some (.inr (.inr 86)), none, none, none, none, none], [], (am_sh, am_mm U4))) (fun _ => rfl) h2a1ac ?_
      show Ev kz ((d + 1), 309, 495, [some (.inr (.inr 86)), some (.inl x1), some (.inl x2), some (.inl s0)], [], (am_sh, am_mm U5)) R
      subst h2a1aa
      exact ev_end 2 (fun _ => rfl)
    · have h2a2 := h2a.2 hc
      subst h2a2
      exact ev_end 2 (fun _ => rfl)
set_option maxRecDepth 8000 in
theorem st309_86_213 (kz : am_Z) (d : Nat) (x1 x2 s1 : Int) (U : Nat → Nat → Int) (R : Option am_V × am_M) (h : ∃ U1 : Nat → Nat → Int, Ev kz (d, 326, 0, [some (.inr (.inr 86)), some (.inl s1)], [], (am_sh, am_mm U)) (none, (am_sh, am_mm U1)) ∧ (0 ≤ x1 ∧ x1 < 20) ∧ ∃ U2 : Nat → Nat → Int, Ev kz (d, 93, 0, [some (.inr (.inr 86)), none, none, none, none, none], [], (am_sh, am_mm (am_upd U1 114 x1.toNat 1))) (none, (am_sh, am_mm U2)) ∧ R = (some (.inl 0), (am_sh, am_mm U2))) : Ev kz ((d + 1), 309, 213, [some (.inr (.inr 86)), some (.inl x1), some (.inl x2), none], [.inl s1, .inr (.inr 86)], (am_sh, am_mm U)) R := by
  obtain ⟨U1, hc, ha⟩ := h
  refine ev_cal (σc := (d, 326, 0, [some (.inr (.inr 86)), some (.inl s1)], [], (am_sh, am_mm U))) (fun _ => rfl) hc ?_
  show Ev kz ((d + 1), 309, 216, [some (.inr (.inr 86)), some (.inl x1), some (.inl x2), none], [], (am_sh, am_mm U1)) R
  refine ev_seg (σ1 := ((d + 1), 309, 222, [some (.inr (.inr 86)), some (.inl x1), some (.inl x2), none], [.inl 1, .inl x1, .inr (.inr 114)], (am_sh, am_mm U1))) 4 (fun _ => rfl) ?_
  refine eu_iast 114 (n := 20) rfl (by decide) rfl (fun _ => rfl) ha.1 ?_
  have haa := ha.2
  refine ev_seg (σ1 := ((d + 1), 309, 224, [some (.inr (.inr 86)), some (.inl x1), some (.inl x2), none], [.inr (.inr 86)], (am_sh, am_mm (am_upd U1 114 x1.toNat 1)))) 1 (fun _ => rfl) ?_
  obtain ⟨U2, haac, haaa⟩ := haa
  refine ev_cal (σc := (d, 93, 0, [some (.inr (.inr 86)), none, none, none, none, none], [], (am_sh, am_mm (am_upd U1 114 x1.toNat 1)))) (fun _ => rfl) haac ?_
  show Ev kz ((d + 1), 309, 227, [some (.inr (.inr 86)), some (.inl x1), some (.inl x2), none], [], (am_sh, am_mm U2)) R
  subst haaa
  exact ev_end 2 (fun _ => rfl)
set_option maxRecDepth 8000 in
theorem st309_86_307 (kz : am_Z) (d : Nat) (x1 x2 s0 : Int) (U : Nat → Nat → Int) (R : Option am_V × am_M) (h : ∃ U1 : Nat → Nat → Int, Ev kz (d, 93, 0, [some (.inr (.inr 86)), none, none, none, none, none], [], (am_sh, am_mm U)) (none, (am_sh, am_mm U1)) ∧ ∃ U2 : Nat → Nat → Int, Ev kz (d, 186, 0, [some (.inr (.inr 86))], [], (am_sh, am_mm U1)) (none, (am_sh, am_mm U2)) ∧ ∃ (r3 : Int) (U3 : Nat → Nat → Int), Ev kz (d, 197, 0, [some (.inr (.inr 86)), some (.inl 40)], [], (am_sh, am_mm U2)) (some (.inl r3), (am_sh, am_mm U3)) ∧ (((¬ r3 = 0 : Prop)) → ∃ U4 : Nat → Nat → Int, Ev kz (d, 327, 0, [some (.inr (.inr 86)), some (.inl 3)], [], (am_sh, am_mm U3)) (none, (am_sh, am_mm U4)) ∧ (((¬ (U4 86 8) = 0 : Prop)) → R = (some (.inl 0), (am_sh, am_mm U4))) ∧ (¬ (¬ (U4 86 8) = 0) → (0 ≤ (w32 ((U4 86 46) - 1)) ∧ (w32 ((U4 86 46) - 1)) < 20) ∧ R = (some (.inl 0), (am_sh, am_mm (am_upd U4 116 (w32 ((U4 86 46) - 1)).toNat s0))))) ∧ (¬ (¬ r3 = 0) → ∃ U5 : Nat → Nat → Int, Ev kz (d, 196, 0, [some (.inr (.inr 86)), some (.inl 1), some (.inl (U3 86 4))], [], (am_sh, am_mm U3)) (none, (am_sh, am_mm U5)) ∧ ∃ U6 : Nat → Nat → Int, Ev kz (d, 327, 0, [some (.inr (.inr 86)), some (.inl 3)], [], (am_sh, am_mm U5)) (none, (am_sh, am_mm U6)) ∧ (((¬ (U6 86 8) = 0 : Prop)) → R = (some (.inl 0), (am_sh, am_mm U6))) ∧ (¬ (¬ (U6 86 8) = 0) → (0 ≤ (w32 ((U6 86 46) - 1)) ∧ (w32 ((U6 86 46) - 1)) < 20) ∧ R = (some (.inl 0), (am_sh, am_mm (am_upd U6 116 (w32 ((U6 86 46) - 1)).toNat s0)))))) : Ev kz ((d + 1), 309, 307, [some (.inr (.inr 86)), some (.inl x1), some (.inl x2), none], [.inl s0], (am_sh, am_mm U)) R := by
  refine ev_seg (σ1 := ((d + 1), 309, 309, [some (.inr (.inr 86)), some (.inl x1), some (.inl x2), some (.inl s0)], [.inr (.inr 86)], (am_sh, am_mm U))) 2 (fun _ => rfl) ?_
  obtain ⟨U1, hc, ha⟩ := h
  refine ev_cal (σc := (d, 93, 0, [some (.inr (.inr 86)), none, none, none, none, none], [], (am_sh, am_mm U))) (fun _ => rfl) hc ?_
  show Ev kz ((d + 1), 309, 312, [some (.inr (.inr 86)), some (.inl x1), some (.inl x2), some (.inl s0)], [], (am_sh, am_mm U1)) R
  refine ev_seg (σ1 := ((d + 1), 309, 313, [some (.inr (.inr 86)), some (.inl x1), some (.inl x2), some (.inl s0)], [.inr (.inr 86)], (am_sh, am_mm U1))) 1 (fun _ => rfl) ?_
  obtain ⟨U2, hac, haa⟩ := ha
  refine ev_cal (σc := (d, 186, 0, [some (.inr (.inr 86))], [], (am_sh, am_mm U1))) (fun _ => rfl) hac ?_
  show Ev kz ((d + 1), 309, 316, [some (.inr (.inr 86)), some (.inl x1), some (.inl x2), some (.inl s0)], [], (am_sh, am_mm U2)) R
  refine ev_seg (σ1 := ((d + 1), 309, 319, [some (.inr (.inr 86)), some (.inl x1), some (.inl x2), some (.inl s0)], [.inl 40, .inr (.inr 86)], (am_sh, am_mm U2))) 2 (fun _ => rfl) ?_
  obtain ⟨r3, U3, haac, haaa⟩ := haa
  refine ev_cal (σc := (d, 197, 0, [some (.inr (.inr 86)), some (.inl 40)], [], (am_sh, am_mm U2))) (fun _ => rfl) haac ?_
  show Ev kz ((d + 1), 309, 322, [some (.inr (.inr 86)), some (.inl x1), some (.inl x2), some (.inl s0)], [.inl r3], (am_sh, am_mm U3)) R
  refine ev_br (P := ¬ r3 = 0) (σ1 := ((d + 1), 309, 334, [some (.inr (.inr 86)), some (.inl x1), some (.inl x2), some (.inl s0)], [], (am_sh, am_mm U3))) (σ2 := ((d + 1), 309, 325, [some (.inr (.inr 86)), some (.inl x1), some (.inl x2), some (.inl s0)], [], (am_sh, am_mm U3))) 1 (fun _ => rfl) (fun hc => ?_) (fun hc => ?_)
  · have haaa1 := haaa.1 hc
    refine ev_seg (σ1 := ((d + 1), 309, 336, [some (.inr (.inr 86)), some (.inl x1), some (.inl x2), some (.inl s0)], [.inl 3, .inr (.inr 86)], (am_sh, am_mm U3))) 2 (fun _ => rfl) ?_
    obtain ⟨U4, haaa1c, haaa1a⟩ := haaa1
    refine ev_cal (σc := (d, 327, 0, [some (.inr (.inr 86)), some (.inl 3)], [], (am_sh, am_mm U3))) (fun _ => rfl) haaa1c ?_
    show Ev kz ((d + 1), 309, 339, [some (.inr (.inr 86)), some (.inl x1), some (.inl x2), some (.inl s0)], [], (am_sh, am_mm U4)) R
    refine ev_br (P := ¬ (U4 86 8) = 0) (σ1 := ((d + 1), 309, 358, [some (.inr (.inr 86)), some (.inl x1), some (.inl x2), some (.inl s0)], [], (am_sh, am_mm U4))) (σ2 := ((d + 1), 309, 346, [some (.inr (.inr 86)), some (.inl x1), some (.inl x2), some (.inl s0)], [], (am_sh, am_mm U4))) 3 (fun _ => rfl) (fun hc => ?_) (fun hc => ?_)
    · have haaa1a1 := haaa1a.1 hc
      subst haaa1a1
      exact ev_end 2 (fun _ => rfl)
    · have haaa1a2 := haaa1a.2 hc
      refine ev_seg (σ1 := ((d + 1), 309, 357, [some (.inr (.inr 86)), some (.inl x1), some (.inl x2), some (.inl s0)], [.inl s0, .inl (w32 ((U4 86 46) - 1)), .inr (.inr 116)], (am_sh, am_mm U4))) 7 (fun _ => rfl) ?_
      refine eu_iast 116 (n := 20) rfl (by decide) rfl (fun _ => rfl) haaa1a2.1 ?_
      have haaa1a2a := haaa1a2.2
      subst haaa1a2a
      exact ev_end 2 (fun _ => rfl)
  · have haaa2 := haaa.2 hc
    refine ev_seg (σ1 := ((d + 1), 309, 331, [some (.inr (.inr 86)), some (.inl x1), some (.inl x2), some (.inl s0)], [.inl (U3 86 4), .inl 1, .inr (.inr 86)], (am_sh, am_mm U3))) 4 (fun _ => rfl) ?_
    obtain ⟨U5, haaa2c, haaa2a⟩ := haaa2
    refine ev_cal (σc := (d, 196, 0, [some (.inr (.inr 86)), some (.inl 1), some (.inl (U3 86 4))], [], (am_sh, am_mm U3))) (fun _ => rfl) haaa2c ?_
    show Ev kz ((d + 1), 309, 334, [some (.inr (.inr 86)), some (.inl x1), some (.inl x2), some (.inl s0)], [], (am_sh, am_mm U5)) R
    refine ev_seg (σ1 := ((d + 1), 309, 336, [some (.inr (.inr 86)), some (.inl x1), some (.inl x2), some (.inl s0)], [.inl 3, .inr (.inr 86)], (am_sh, am_mm U5))) 2 (fun _ => rfl) ?_
    obtain ⟨U6, haaa2ac, haaa2aa⟩ := haaa2a
    refine ev_cal (σc := (d, 327, 0, [some (.inr (.inr 86)), some (.inl 3)], [], (am_sh, am_mm U5))) (fun _ => rfl) haaa2ac ?_
    show Ev kz ((d + 1), 309, 339, [some (.inr (.inr 86)), some (.inl x1), some (.inl x2), some (.inl s0)], [], (am_sh, am_mm U6)) R
    refine ev_br (P := ¬ (U6 86 8) = 0) (σ1 := ((d + 1), 309, 358, [some (.inr (.inr 86)), some (.inl x1), some (.inl x2), some (.inl s0)], [], (am_sh, am_mm U6))) (σ2 := ((d + 1), 309, 346, [some (.inr (.inr 86)), some (.inl x1), some (.inl x2), some (.inl s0)], [], (am_sh, am_mm U6))) 3 (fun _ => rfl) (fun hc => ?_) (fun hc => ?_)
    · have haaa2aa1 := haaa2aa.1 hc
      subst haaa2aa1
      exact ev_end 2 (fun _ => rfl)
    · have haaa2aa2 := haaa2aa.2 hc
      refine ev_seg (σ1 := ((d + 1), 309, 357, [some (.inr (.inr 86)), some (.inl x1), some (.inl x2), some (.inl s0)], [.inl s0, .inl (w32 ((U6 86 46) - 1)), .inr (.inr 116)], (am_sh, am_mm U6))) 7 (fun _ => rfl) ?_
      refine eu_iast 116 (n := 20) rfl (by decide) rfl (fun _ => rfl) haaa2aa2.1 ?_
      have haaa2aa2a := haaa2aa2.2
      subst haaa2aa2a
      exact ev_end 2 (fun _ => rfl)
set_option maxRecDepth 8000 in
theorem st112_86_0 (kz : am_Z) (d : Nat) (x1 x2 : Int) (U : Nat → Nat → Int) (R : Option am_V × am_M) (h : Ev kz (d, 112, 5, [some (.inr (.inr 86)), some (.inl x1), some (.inl x2), some (.inl 0), some (.inl 0)], [], (am_sh, am_mm U)) R) : Ev kz (d, 112, 0, [some (.inr (.inr 86)), some (.inl x1), some (.inl x2), none, none], [], (am_sh, am_mm U)) R := by
  refine ev_seg (σ1 := (d, 112, 5, [some (.inr (.inr 86)), some (.inl x1), some (.inl x2), some (.inl 0), some (.inl 0)], [], (am_sh, am_mm U))) 4 (fun _ => rfl) ?_
  exact h
set_option maxRecDepth 8000 in
theorem st112_86_5 (kz : am_Z) (d : Nat) (x1 x2 x3 x4 : Int) (U : Nat → Nat → Int) (R : Option am_V × am_M) (h : (((x2 ≤ x4 : Prop)) → R = (some (.inl x3), (am_sh, am_mm U))) ∧ (¬ (x2 ≤ x4) → (0 ≤ (w32 ((w32 (12 * x1)) + x4)) ∧ (w32 ((w32 (12 * x1)) + x4)) < 24) ∧ (0 ≤ (w32 ((w32 (12 * x1)) + x2)) ∧ (w32 ((w32 (12 * x1)) + x2)) < 24) ∧ (((¬ (U 92 (w32 ((w32 (12 * x1)) + x4)).toNat) = (U 92 (w32 ((w32 (12 * x1)) + x2)).toNat) : Prop)) → Ev kz (d, 112, 5, [some (.inr (.inr 86)), some (.inl x1), some (.inl x2), some (.inl (w32 (x3 + 0))), some (.inl (w32 (x4 + 1)))], [], (am_sh, am_mm U)) R) ∧ (¬ (¬ (U 92 (w32 ((w32 (12 * x1)) + x4)).toNat) = (U 92 (w32 ((w32 (12 * x1)) + x2)).toNat)) → Ev kz (d, 112, 5, [some (.inr (.inr 86)), some (.inl x1), some (.inl x2), some (.inl (w32 (x3 + 1))), some (.inl (w32 (x4 + 1)))], [], (am_sh, am_mm U)) R))) : Ev kz (d, 112, 5, [some (.inr (.inr 86)), some (.inl x1), some (.inl x2), some (.inl x3), some (.inl x4)], [], (am_sh, am_mm U)) R := by
  refine ev_br (P := x2 ≤ x4) (σ1 := (d, 112, 51, [some (.inr (.inr 86)), some (.inl x1), some (.inl x2), some (.inl x3), some (.inl x4)], [], (am_sh, am_mm U))) (σ2 := (d, 112, 11, [some (.inr (.inr 86)), some (.inl x1), some (.inl x2), some (.inl x3), some (.inl x4)], [], (am_sh, am_mm U))) 3 (fun _ => rfl) (fun hc => ?_) (fun hc => ?_)
  · have h1 := h.1 hc
    subst h1
    exact ev_end 2 (fun _ => rfl)
  · have h2 := h.2 hc
    refine ev_seg (σ1 := (d, 112, 23, [some (.inr (.inr 86)), some (.inl x1), some (.inl x2), some (.inl x3), some (.inl x4)], [.inl (w32 ((w32 (12 * x1)) + x4)), .inr (.inr 92), .inl x3], (am_sh, am_mm U))) 8 (fun _ => rfl) ?_
    refine eu_iald 92 (n := 24) rfl (by decide) rfl (fun _ => rfl) h2.1 ?_
    have h2a := h2.2
    refine ev_seg (σ1 := (d, 112, 34, [some (.inr (.inr 86)), some (.inl x1), some (.inl x2), some (.inl x3), some (.inl x4)], [.inl (w32 ((w32 (12 * x1)) + x2)), .inr (.inr 92), .inl (U 92 (w32 ((w32 (12 * x1)) + x4)).toNat), .inl x3], (am_sh, am_mm U))) 7 (fun _ => rfl) ?_
    refine eu_iald 92 (n := 24) rfl (by decide) rfl (fun _ => rfl) h2a.1 ?_
    have h2aa := h2a.2
    refine ev_br (P := ¬ (U 92 (w32 ((w32 (12 * x1)) + x4)).toNat) = (U 92 (w32 ((w32 (12 * x1)) + x2)).toNat)) (σ1 := (d, 112, 42, [some (.inr (.inr 86)), some (.inl x1), some (.inl x2), some (.inl x3), some (.inl x4)], [.inl x3], (am_sh, am_mm U))) (σ2 := (d, 112, 38, [some (.inr (.inr 86)), some (.inl x1), some (.inl x2), some (.inl x3), some (.inl x4)], [.inl x3], (am_sh, am_mm U))) 1 (fun _ => rfl) (fun hc => ?_) (fun hc => ?_)
    · have h2aa1 := h2aa.1 hc
      refine ev_seg (σ1 := (d, 112, 5, [some (.inr (.inr 86)), some (.inl x1), some (.inl x2), some (.inl (w32 (x3 + 0))), some (.inl (w32 (x4 + 1)))], [], (am_sh, am_mm U))) 5 (fun _ => rfl) ?_
      exact h2aa1
    · have h2aa2 := h2aa.2 hc
      refine ev_seg (σ1 := (d, 112, 5, [some (.inr (.inr 86)), some (.inl x1), some (.inl x2), some (.inl (w32 (x3 + 1))), some (.inl (w32 (x4 + 1)))], [], (am_sh, am_mm U))) 6 (fun _ => rfl) ?_
      exact h2aa2
set_option maxRecDepth 8000 in
theorem st311_86_0 (kz : am_Z) (d : Nat) (x1 x2 x3 : Int) (U : Nat → Nat → Int) (R : Option am_V × am_M) (h : ∃ (r1 : Int) (U1 : Nat → Nat → Int), Ev kz (d, 200, 0, [some (.inr (.inr 86)), some (.inl 1), some (.inl x2)], [], (am_sh, am_mm U)) (some (.inl r1), (am_sh, am_mm U1)) ∧ ∃ (r2 : Int) (U2 : Nat → Nat → Int), Ev kz (d, 111, 0, [some (.inr (.inr 86)), some (.inl 1), some (.inl r1), none, none], [], (am_sh, am_mm U1)) (some (.inl r2), (am_sh, am_mm U2)) ∧ (0 ≤ (w32 ((w32 ((w32 ((w32 ((w32 ((w32 ((w32 ((w32 ((w32 (16 * x1)) + x2)) * 17)) + x3)) + 1)) * 12)) + r1)) * 7)) + r2)) ∧ (w32 ((w32 ((w32 ((w32 ((w32 ((w32 ((w32 ((w32 ((w32 (16 * x1)) + x2)) * 17)) + x3)) + 1)) * 12)) + r1)) * 7)) + r2)) < 182784) ∧ (((¬ (U2 128 (w32 ((w32 ((w32 ((w32 ((w32 ((w32 ((w32 ((w32 ((w32 (16 * x1)) + x2)) * 17)) + x3)) + 1)) * 12)) + r1)) * 7)) + r2)).toNat) = 0 : Prop)) → (0 ≤ (w32 ((w32 ((w32 ((w32 ((w32 ((w32 ((w32 ((w32 ((w32 (16 * x1)) + x2)) * 17)) + x3)) + 1)) * 12)) + r1)) * 7)) + r2)) ∧ (w32 ((w32 ((w32 ((w32 ((w32 ((w32 ((w32 ((w32 ((w32 (16 * x1)) + x2)) * 17)) + x3)) + 1)) * 12)) + r1)) * 7)) + r2)) < 182784) ∧ (((¬ (U2 128 (w32 ((w32 ((w32 ((w32 ((w32 ((w32 ((w32 ((w32 ((w32 (16 * x1)) + x2)) * 17)) + x3)) + 1)) * 12)) + r1)) * 7)) + r2)).toNat) = 2 : Prop)) → R = (some (.inl 0), (am_sh, am_mm U2))) ∧ (¬ (¬ (U2 128 (w32 ((w32 ((w32 ((w32 ((w32 ((w32 ((w32 ((w32 ((w32 (16 * x1)) + x2)) * 17)) + x3)) + 1)) * 12)) + r1)) * 7)) + r2)).toNat) = 2) → R = (some (.inl 1), (am_sh, am_mm U2)))) ∧ (¬ (¬ (U2 128 (w32 ((w32 ((w32 ((w32 ((w32 ((w32 ((w32 ((w32 ((w32 (16 * x1)) + x2)) * 17)) + x3)) + 1)) * 12)) + r1)) * 7)) + r2)).toNat) = 0) → (((¬ x3 = (-1) : Prop)) → ∃ (r3 : Int) (U3 : Nat → Nat → Int), Ev kz (d, 203, 0, [some (.inr (.inr 86)), some (.inl 1), some (.inl x3)], [], (am_sh, am_mm U2)) (some (.inl r3), (am_sh, am_mm U3)) ∧ ∃ (r4 : Int) (U4 : Nat → Nat → Int), Ev kz (d, 136, 0, [some (.inr (.inr 86)), some (.inl 1), some (.inl x1), some (.inl x2), some (.inr (.inl r3)), none], [], (am_sh, am_mm U3)) (some (.inl r4), (am_sh, am_mm U4)) ∧ (((r4 = 0 : Prop)) → (-128 ≤ ((Int32.ofInt 1).toInt8.toInt32.toInt) ∧ ((Int32.ofInt 1).toInt8.toInt32.toInt) < 128) ∧ (0 ≤ (w32 ((w32 ((w32 ((w32 ((w32 ((w32 ((w32 ((w32 ((w32 (16 * x1)) + x2)) * 17)) + x3)) + 1)) * 12)) + r1)) * 7)) + r2)) ∧ (w32 ((w32 ((w32 ((w32 ((w32 ((w32 ((w32 ((w32 ((w32 (16 * x1)) + x2)) * 17)) + x3)) + 1)) * 12)) + r1)) * 7)) + r2)) < 182784) ∧ (0 ≤ (w32 ((w32 ((w32 ((w32 ((w32 ((w32 ((w32 ((w32 ((w32 (16 * x1)) + x2)) * 17)) + x3)) + 1)) * 12)) + r1)) * 7)) + r2)) ∧ (w32 ((w32 ((w32 ((w32 ((w32 ((w32 ((w32 ((w32 ((w32 (16 * x1)) + x2)) * 17)) + x3)) + 1)) * 12)) + r1)) * 7)) + r2)) < 182784) ∧ (((¬ ((am_upd U4 128 (w32 ((w32 ((w32 ((w32 ((w32 ((w32 ((w32 ((w32 ((w32 (16 * x1)) + x2)) * 17)) + x3)) + 1)) * 12)) + r1)) * 7)) + r2)).toNat ((Int32.ofInt 1).toInt8.toInt32.toInt)) 128 (w32 ((w32 ((w32 ((w32 ((w32 ((w32 ((w32 ((w32 ((w32 (16 * x1)) + x2)) * 17)) + x3)) + 1)) * 12)) + r1)) * 7)) + r2)).toNat) = 2 : Prop)) → R = (some (.inl 0), (am_sh, am_mm (am_upd U4 128 (w32 ((w32 ((w32 ((w32 ((w32 ((w32 ((w32 ((w32 ((w32 (16 * x1)) + x2)) * 17)) + x3)) + 1)) * 12)) + r1)) * 7)) + r2)).toNat ((Int32.ofInt 1).toInt8.toInt32.toInt))))) ∧ (¬ (¬ ((am_upd U4 128 (w32 ((w32 ((w32 ((w32 ((w32 ((w32 ((w32 ((w32 ((w32 (16 * x1)) + x2)) * 17)) + x3)) + 1)) * 12)) + r1)) * 7)) + r2)).toNat ((Int32.ofInt 1).toInt8.toInt32.toInt)) 128 (w32 ((w32 ((w32 ((w32 ((w32 ((w32 ((w32 ((w32 ((w32 (16 * x1)) + x2)) * 17)) + x3)) + 1)) * 12)) + r1)) * 7)) + r2)).toNat) = 2) → R = (some (.inl 1), (am_sh, am_mm (am_upd U4 128 (w32 ((w32 ((w32 ((w32 ((w32 ((w32 ((w32 ((w32 ((w32 (16 * x1)) + x2)) * 17)) + x3)) + 1)) * 12)) + r1)) * 7)) + r2)).toNat ((Int32.ofInt 1).toInt8.toInt32.toInt)))))) ∧ (¬ (r4 = 0) → (-128 ≤ ((Int32.ofInt 2).toInt8.toInt32.toInt) ∧ ((Int32.ofInt 2).toInt8.toInt32.toInt) < 128) ∧ (0 ≤ (w32 ((w32 ((w32 ((w32 ((w32 ((w32 ((w32 ((w32 ((w32 (16 * x1)) + x2)) * 17)) + x3)) + 1)) * 12)) + r1)) * 7)) + r2)) ∧ (w32 ((w32 ((w32 ((w32 ((w32 ((w32 ((w32 ((w32 ((w32 (16 * x1)) + x2)) * 17)) + x3)) + 1)) * 12)) + r1)) * 7)) + r2)) < 182784) ∧ (0 ≤ (w32 ((w32 ((w32 ((w32 ((w32 ((w32 ((w32 ((w32 ((w32 (16 * x1)) + x2)) * 17)) + x3)) + 1)) * 12)) + r1)) * 7)) + r2)) ∧ (w32 ((w32 ((w32 ((w32 ((w32 ((w32 ((w32 ((w32 ((w32 (16 * x1)) + x2)) * 17)) + x3)) + 1)) * 12)) + r1)) * 7)) + r2)) < 182784) ∧ (((¬ ((am_upd U4 128 (w32 ((w32 ((w32 ((w32 ((w32 ((w32 ((w32 ((w32 ((w32 (16 * x1)) + x2)) * 17)) + x3)) + 1)) * 12)) + r1)) * 7)) + r2)).toNat ((Int32.ofInt 2).toInt8.toInt32.toInt)) 128 (w32 ((w32 ((w32 ((w32 ((w32 ((w32 ((w32 ((w32 ((w32 (16 * x1)) + x2)) * 17)) + x3)) + 1)) * 12)) + r1)) * 7)) + r2)).toNat) = 2 : Prop)) → R = (some (.inl 0), (am_sh, am_mm (am_upd U4 128 (w32 ((w32 ((w32 ((w32 ((w32 ((w32 ((w32 ((w32 ((w32 (16 * x1)) + x2)) * 17)) + x3)) + 1)) * 12)) + r1)) * 7)) + r2)).toNat ((Int32.ofInt 2).toInt8.toInt32.toInt))))) ∧ (¬ (¬ ((am_upd U4 128 (w32 ((w32 ((w32 ((w32 ((w32 ((w32 ((w32 ((w32 ((w32 (16 * x1)) + x2)) * 17)) + x3)) + 1)) * 12)) + r1)) * 7)) + r2)).toNat ((Int32.ofInt 2).toInt8.toInt32.toInt)) 128 (w32 ((w32 ((w32 ((w32 ((w32 ((w32 ((w32 ((w32 ((w32 (16 * x1)) + x2)) * 17)) + x3)) + 1)) * 12)) + r1)) * 7)) + r2)).toNat) = 2) → R = (some (.inl 1), (am_sh, am_mm (am_upd U4 128 (w32 ((w32 ((w32 ((w32 ((w32 ((w32 ((w32 ((w32 ((w32 (16 * x1)) + x2)) * 17)) + x3)) + 1)) * 12)) + r1)) * 7)) + r2)).toNat ((Int32.ofInt 2).toInt8.toInt32.toInt))))))) ∧ (¬ (¬ x3 = (-1)) → ∃ (r5 : Int) (U5 : Nat → Nat → Int), Ev kz (d, 136, 0, [some (.inr (.inr 86)), some (.inl 1), some (.inl x1), some (.inl x2), some (.inr (.inl 0)), none], [], (am_sh, am_mm U2)) (some (.inl r5), (am_sh, am_mm U5)) ∧ (((r5 = 0 : Prop)) → (-128 ≤ ((Int32.ofInt 1).toInt8.toInt32.toInt) ∧ ((Int32.ofInt 1).toInt8.toInt32.toInt) < 128) ∧ (0 ≤ (w32 ((w32 ((w32 ((w32 ((w32 ((w32 ((w32 ((w32 ((w32 (16 * x1)) + x2)) * 17)) + x3)) + 1)) * 12)) + r1)) * 7)) + r2)) ∧ (w32 ((w32 ((w32 ((w32 ((w32 ((w32 ((w32 ((w32 ((w32 (16 * x1)) + x2)) * 17)) + x3)) + 1)) * 12)) + r1)) * 7)) + r2)) < 182784) ∧ (0 ≤ (w32 ((w32 ((w32 ((w32 ((w32 ((w32 ((w32 ((w32 ((w32 (16 * x1)) + x2)) * 17)) + x3)) + 1)) * 12)) + r1)) * 7)) + r2)) ∧ (w32 ((w32 ((w32 ((w32 ((w32 ((w32 ((w32 ((w32 ((w32 (16 * x1)) + x2)) * 17)) + x3)) + 1)) * 12)) + r1)) * 7)) + r2)) < 182784) ∧ (((¬ ((am_upd U5 128 (w32 ((w32 ((w32 ((w32 ((w32 ((w32 ((w32 ((w32 ((w32 (16 * x1)) + x2)) * 17)) + x3)) + 1)) * 12)) + r1)) * 7)) + r2)).toNat ((Int32.ofInt 1).toInt8.toInt32.toInt)) 128 (w32 ((w32 ((w32 ((w32 ((w32 ((w32 ((w32 ((w32 ((w32 (16 * x1)) + x2)) * 17)) + x3)) + 1)) * 12)) + r1)) * 7)) + r2)).toNat) = 2 : Prop)) → R = (some (.inl 0), (am_sh, am_mm (am_upd U5 128 (w32 ((w32 ((w32 ((w32 ((w32 ((w32 ((w32 ((w32 ((w32 (16 * x1)) + x2)) * 17)) + x3)) + 1)) * 12)) + r1)) * 7)) + r2)).toNat ((Int32.ofInt 1).toInt8.toInt32.toInt))))) ∧ (¬ (¬ ((am_upd U5 128 (w32 ((w32 ((w32 ((w32 ((w32 ((w32 ((w32 ((w32 ((w32 (16 * x1)) + x2)) * 17)) + x3)) + 1)) * 12)) + r1)) * 7)) + r2)).toNat ((Int32.ofInt 1).toInt8.toInt32.toInt)) 128 (w32 ((w32 ((w32 ((w32 ((w32 ((w32 ((w32 ((w32 ((w32 (16 * x1)) + x2)) * 17)) + x3)) + 1)) * 12)) + r1)) * 7)) + r2)).toNat) = 2) → R = (some (.inl 1), (am_sh, am_mm (am_upd U5 128 (w32 ((w32 ((w32 ((w32 ((w32 ((w32 ((w32 ((w32 ((w32 (16 * x1)) + x2)) * 17)) + x3)) + 1)) * 12)) + r1)) * 7)) + r2)).toNat ((Int32.ofInt 1).toInt8.toInt32.toInt)))))) ∧ (¬ (r5 = 0) → (-128 ≤ ((Int32.ofInt 2).toInt8.toInt32.toInt) ∧ ((Int32.ofInt 2).toInt8.toInt32.toInt) < 128) ∧ (0 ≤ (w32 ((w32 ((w32 ((w32 ((w32 ((w32 ((w32 ((w32 ((w32 (16 * x1)) + x2)) * 17)) + x3)) + 1)) * 12)) + r1)) * 7)) + r2)) ∧ (w32 ((w32 ((w32 ((w32 ((w32 ((w32 ((w32 ((w32 ((w32 (16 * x1)) + x2)) * 17)) + x3)) + 1)) * 12)) + r1)) * 7)) + r2)) < 182784) ∧ (0 ≤ (w32 ((w32 ((w32 ((w32 ((w32 ((w32 ((w32 ((w32 ((w32 (16 * x1)) + x2)) * 17)) + x3)) + 1)) * 12)) + r1)) * 7)) + r2)) ∧ (w32 ((w32 ((w32 ((w32 ((w32 ((w32 ((w32 ((w32 ((w32 (16 * x1)) + x2)) * 17)) + x3)) + 1)) * 12)) + r1)) * 7)) + r2)) < 182784) ∧ (((¬ ((am_upd U5 128 (w32 ((w32 ((w32 ((w32 ((w32 ((w32 ((w32 ((w32 ((w32 (16 * x1)) + x2)) * 17)) + x3)) + 1)) * 12)) + r1)) * 7)) + r2)).toNat ((Int32.ofInt 2).toInt8.toInt32.toInt)) 128 (w32 ((w32 ((w32 ((w32 ((w32 ((w32 ((w32 ((w32 ((w32 (16 * x1)) + x2)) * 17)) + x3)) + 1)) * 12)) + r1)) * 7)) + r2)).toNat) = 2 : Prop)) → R = (some (.inl 0), (am_sh, am_mm (am_upd U5 128 (w32 ((w32 ((w32 ((w32 ((w32 ((w32 ((w32 ((w32 ((w32 (16 * x1)) + x2)) * 17)) + x3)) + 1)) * 12)) + r1)) * 7)) + r2)).toNat ((Int32.ofInt 2).toInt8.toInt32.toInt))))) ∧ (¬ (¬ ((am_upd U5 128 (w32 ((w32 ((w32 ((w32 ((w32 ((w32 ((w32 ((w32 ((w32 (16 * x1)) + x2)) * 17)) + x3)) + 1)) * 12)) + r1)) * 7)) + r2)).toNat ((Int32.ofInt 2).toInt8.toInt32.toInt)) 128 (w32 ((w32 ((w32 ((w32 ((w32 ((w32 ((w32 ((w32 ((w32 (16 * x1)) + x2)) * 17)) + x3)) + 1)) * 12)) + r1)) * 7)) + r2)).toNat) = 2) → R = (some (.inl 1), (am_sh, am_mm (am_upd U5 128 (w32 ((w32 ((w32 ((w32 ((w32 ((w32 ((w32 ((w32 ((w32 (16 * x1)) + x2)) * 17)) + x3)) + 1)) * 12)) + r1)) * 7)) + r2)).toNat ((Int32.ofInt 2).toInt8.toInt32.toInt))))))))) : Ev kz ((d + 1), 311, 0, [some (.inr (.inr 86)), some (.inl x1), some (.inl x2), some (.inl x3), none, none], [], (am_sh, am_mm U)) R := by
  refine ev_seg (σ1 := ((d + 1), 311, 3, [some (.inr (.inr 86)), some (.inl x1), some (.inl x2), some (.inl x3), none, none], [.inl x2, .inl 1, .inr (.inr 86)], (am_sh, am_mm U))) 3 (fun _ => rfl) ?_
  obtain ⟨r1, U1, hc, ha⟩ := h
  refine ev_cal (σc := (d, 200, 0, [some (.inr (.inr 86)), some (.inl 1), some (.inl x2)], [], (am_sh, am_mm U))) (fun _ => rfl) hc ?_
  show Ev kz ((d + 1), 311, 6, [some (.inr (.inr 86)), some (.inl x1), some (.inl x2), some (.inl x3), none, none], [.inl r1], (am_sh, am_mm U1)) R
  refine ev_seg (σ1 := ((d + 1), 311, 34, [some (.inr (.inr 86)), some (.inl x1), some (.inl x2), some (.inl x3), some (.inl r1), none], [.inl r1, .inl 1, .inr (.inr 86), .inl (w32 ((w32 ((w32 ((w32 ((w32 ((w32 ((w32 ((w32 (16 * x1)) + x2)) * 17)) + x3)) + 1)) * 12)) + r1)) * 7))], (am_sh, am_mm U1))) 21 (fun _ => rfl) ?_
  obtain ⟨r2, U2, hac, haa⟩ := ha
  refine ev_cal (σc := (d, 111, 0, [some (.inr (.inr 86)), some (.inl 1), some (.inl r1), none, none], [], (am_sh, am_mm U1))) (fun _ => rfl) hac ?_
  show Ev kz ((d + 1), 311, 37, [some (.inr (.inr 86)), some (.inl x1), some (.inl x2), some (.inl x3), some (.inl r1), none], [.inl r2, .inl (w32 ((w32 ((w32 ((w32 ((w32 ((w32 ((w32 ((w32 (16 * x1)) + x2)) * 17)) + x3)) + 1)) * 12)) + r1)) * 7))], (am_sh, am_mm U2)) R
  refine ev_seg (σ1 := ((d + 1), 311, 46, [some (.inr (.inr 86)), some (.inl x1), some (.inl x2), some (.inl x3), some (.inl r1), some (.inl (w32 ((w32 ((w32 ((w32 ((w32 ((w32 ((w32 ((w32 ((w32 (16 * x1)) + x2)) * 17)) + x3)) + 1)) * 12)) + r1)) * 7)) + r2)))], [.inl (w32 ((w32 ((w32 ((w32 ((w32 ((w32 ((w32 ((w32 ((w32 (16 * x1)) + x2)) * 17)) + x3)) + 1)) * 12)) + r1)) * 7)) + r2)), .inr (.inr 128)], (am_sh, am_mm U2))) 5 (fun _ => rfl) ?_
  refine eu_bald 128 (n := 182784) rfl (by decide) rfl (fun _ => rfl) haa.1 ?_
  have haaa := haa.2
  refine ev_br (P := ¬ (U2 128 (w32 ((w32 ((w32 ((w32 ((w32 ((w32 ((w32 ((w32 ((w32 (16 * x1)) + x2)) * 17)) + x3)) + 1)) * 12)) + r1)) * 7)) + r2)).toNat) = 0) (σ1 := ((d + 1), 311, 89, [some (.inr (.inr 86)), some (.inl x1), some (.inl x2), some (.inl x3), some (.inl r1), some (.inl (w32 ((w32 ((w32 ((w32 ((w32 ((w32 ((w32 ((w32 ((w32 (16 * x1)) + x2)) * 17)) + x3)) + 1)) * 12)) + r1)) * 7)) + r2)))], [], (am_sh, am_mm U2))) (σ2 := ((d + 1), 311, 50, [some (.inr (.inr 86)), some (.inl x1), some (.inl x2), some (.inl x3), some (.inl r1), some (.inl (w32 ((w32 ((w32 ((w32 ((w32 ((w32 ((w32 ((w32 ((w32 (16 * x1)) + x2)) * 17)) + x3)) + 1)) * 12)) + r1)) * 7)) + r2)))], [], (am_sh, am_mm U2))) 1 (fun _ => rfl) (fun hc => ?_) (fun hc => ?_)
  · have haaa1 := haaa.1 hc
    refine ev_seg (σ1 := ((d + 1), 311, 95, [some (.inr (.inr 86)), some (.inl x1), some (.inl x2), some (.inl x3), some (.inl r1), some (.inl (w32 ((w32 ((w32 ((w32 ((w32 ((w32 ((w32 ((w32 ((w32 (16 * x1)) + x2)) * 17)) + x3)) + 1)) * 12)) + r1)) * 7)) + r2)))], [.inl (w32 ((w32 ((w32 ((w32 ((w32 ((w32 ((w32 ((w32 ((w32 (16 * x1)) + x2)) * 17)) + x3)) + 1)) * 12)) + r1)) * 7)) + r2)), .inr (.inr 128)], (am_sh, am_mm U2))) 3 (fun _ => rfl) ?_
    refine eu_bald 128 (n := 182784) rfl (by decide) rfl (fun _ => rfl) haaa1.1 ?_
    have haaa1a := haaa1.2
    refine ev_br (P := ¬ (U2 128 (w32 ((w32 ((w32 ((w32 ((w32 ((w32 ((w32 ((w32 ((w32 (16 * x1)) + x2)) * 17)) + x3)) + 1)) * 12)) + r1)) * 7)) + r2)).toNat) = 2) (σ1 := ((d + 1), 311, 104, [some (.inr (.inr 86)), some (.inl x1), some (.inl x2), some (.inl x3), some (.inl r1), some (.inl (w32 ((w32 ((w32 ((w32 ((w32 ((w32 ((w32 ((w32 ((w32 (16 * x1)) + x2)) * 17)) + x3)) + 1)) * 12)) + r1)) * 7)) + r2)))], [], (am_sh, am_mm U2))) (σ2 := ((d + 1), 311, 100, [some (.inr (.inr 86)), some (.inl x1), some (.inl x2), some (.inl x3), some (.inl r1), some (.inl (w32 ((w32 ((w32 ((w32 ((w32 ((w32 ((w32 ((w32 ((w32 (16 * x1)) + x2)) * 17)) + x3)) + 1)) * 12)) + r1)) * 7)) + r2)))], [], (am_sh, am_mm U2))) 2 (fun _ => rfl) (fun hc => ?_) (fun hc => ?_)
    · have haaa1a1 := haaa1a.1 hc
      subst haaa1a1
      exact ev_end 2 (fun _ => rfl)
    · have haaa1a2 := haaa1a.2 hc
      subst haaa1a2
      exact ev_end 3 (fun _ => rfl)
  · have haaa2 := haaa.2 hc
    refine ev_br (P := ¬ x3 = (-1)) (σ1 := ((d + 1), 311, 69, [some (.inr (.inr 86)), some (.inl x1), some (.inl x2), some (.inl x3), some (.inl r1), some (.inl (w32 ((w32 ((w32 ((w32 ((w32 ((w32 ((w32 ((w32 ((w32 (16 * x1)) + x2)) * 17)) + x3)) + 1)) * 12)) + r1)) * 7)) + r2)))], [.inl x2, .inl x1, .inl 1, .inr (.inr 86), .inl (w32 ((w32 ((w32 ((w32 ((w32 ((w32 ((w32 ((w32 ((w32 (16 * x1)) + x2)) * 17)) + x3)) + 1)) * 12)) + r1)) * 7)) + r2)), .inr (.inr 128)], (am_sh, am_mm U2))) (σ2 := ((d + 1), 311, 65, [some (.inr (.inr 86)), some (.inl x1), some (.inl x2), some (.inl x3), some (.inl r1), some (.inl (w32 ((w32 ((w32 ((w32 ((w32 ((w32 ((w32 ((w32 ((w32 (16 * x1)) + x2)) * 17)) + x3)) + 1)) * 12)) + r1)) * 7)) + r2)))], [.inl x2, .inl x1, .inl 1, .inr (.inr 86), .inl (w32 ((w32 ((w32 ((w32 ((w32 ((w32 ((w32 ((w32 ((w32 (16 * x1)) + x2)) * 17)) + x3)) + 1)) * 12)) + r1)) * 7)) + r2)), .inr (.inr 128)], (am_sh, am_mm U2))) 10 (fun _ => rfl) (fun hc => ?_) (fun hc => ?_)
    · have haaa21 := haaa2.1 hc
      refine ev_seg (σ1 := ((d + 1), 311, 72, [some (.inr (.inr 86)), some (.inl x1), some (.inl x2), some (.inl x3), some (.inl r1), some (.inl (w32 ((w32 ((w32 ((w32 ((w32 ((w32 ((w32 ((w32 ((w32 (16 * x1)) + x2)) * 17)) + x3)) + 1)) * 12)) + r1)) * 7)) + r2)))], [.inl x3, .inl 1, .inr (.inr 86), .inl x2, .inl x1, .inl 1, .inr (.inr 86), .inl (w32 ((w32 ((w32 ((w32 ((w32 ((w32 ((w32 ((w32 ((w32 (16 * x1)) + x2)) * 17)) + x3)) + 1)) * 12)) + r1)) * 7)) + r2)), .inr (.inr 128)], (am_sh, am_mm U2))) 3 (fun _ => rfl) ?_
      obtain ⟨r3, U3, haaa21c, haaa21a⟩ := haaa21
      refine ev_cal (σc := (d, 203, 0, [some (.inr (.inr 86)), some (.inl 1), some (.inl x3)], [], (am_sh, am_mm U2))) (fun _ => rfl) haaa21c ?_
      show Ev kz ((d + 1), 311, 75, [some (.inr (.inr 86)), some (.inl x1), some (.inl x2), some (.inl x3), some (.inl r1), some (.inl (w32 ((w32 ((w32 ((w32 ((w32 ((w32 ((w32 ((w32 ((w32 (16 * x1)) + x2)) * 17)) + x3)) + 1)) * 12)) + r1)) * 7)) + r2)))], [.inl r3, .inl x2, .inl x1, .inl 1, .inr (.inr 86), .inl (w32 ((w32 ((w32 ((w32 ((w32 ((w32 ((w32 ((w32 ((w32 (16 * x1)) + x2)) * 17)) + x3)) + 1)) * 12)) + r1)) * 7)) + r2)), .inr (.inr 128)], (am_sh, am_mm U3)) R
      refine ev_seg (σ1 := ((d + 1), 311, 76, [some (.inr (.inr 86)), some (.inl x1), some (.inl x2), some (.inl x3), some (.inl r1), some (.inl (w32 ((w32 ((w32 ((w32 ((w32 ((w32 ((w32 ((w32 ((w32 (16 * x1)) + x2)) * 17)) + x3)) + 1)) * 12)) + r1)) * 7)) + r2)))], [.inr (.inl r3), .inl x2, .inl x1, .inl 1, .inr (.inr 86), .inl (w32 ((w32 ((w32 ((w32 ((w32 ((w32 ((w32 ((w32 ((w32 (16 * x1)) + x2)) * 17)) + x3)) + 1)) * 12)) + r1)) * 7)) + r2)), .inr (.inr 128)], (am_sh, am_mm U3))) 1 (fun _ => rfl) ?_
      obtain ⟨r4, U4, haaa21ac, haaa21aa⟩ := haaa21a
      refine ev_cal (σc := (d, 136, 0, [some (.inr (.inr 86)), some (.inl 1), some (.inl x1), some (.inl x2), some (.inr (.inl r3)), none], [], (am_sh, am_mm U3))) (fun _ => rfl) haaa21ac ?_
      show Ev kz ((d + 1), 311, 79, [some (.inr (.inr 86)), some (.inl x1), some (.inl x2), some (.inl x3), some (.inl r1), some (.inl (w32 ((w32 ((w32 ((w32 ((w32 ((w32 ((w32 ((w32 ((w32 (16 * x1)) + x2)) * 17)) + x3)) + 1)) * 12)) + r1)) * 7)) + r2)))], [.inl r4, .inl (w32 ((w32 ((w32 ((w32 ((w32 ((w32 ((w32 ((w32 ((w32 (16 * x1)) + x2)) * 17)) + x3)) + 1)) * 12)) + r1)) * 7)) + r2)), .inr (.inr 128)], (am_sh, am_mm U4)) R
      refine ev_br (P := r4 = 0) (σ1 := ((d + 1), 311, 86, [some (.inr (.inr 86)), some (.inl x1), some (.inl x2), some (.inl x3), some (.inl r1), some (.inl (w32 ((w32 ((w32 ((w32 ((w32 ((w32 ((w32 ((w32 ((w32 (16 * x1)) + x2)) * 17)) + x3)) + 1)) * 12)) + r1)) * 7)) + r2)))], [.inl (w32 ((w32 ((w32 ((w32 ((w32 ((w32 ((w32 ((w32 ((w32 (16 * x1)) + x2)) * 17)) + x3)) + 1)) * 12)) + r1)) * 7)) + r2)), .inr (.inr 128)], (am_sh, am_mm U4))) (σ2 := ((d + 1), 311, 82, [some (.inr (.inr 86)), some (.inl x1), some (.inl x2), some (.inl x3), some (.inl r1), some (.inl (w32 ((w32 ((w32 ((w32 ((w32 ((w32 ((w32 ((w32 ((w32 (16 * x1)) + x2)) * 17)) + x3)) + 1)) * 12)) + r1)) * 7)) + r2)))], [.inl (w32 ((w32 ((w32 ((w32 ((w32 ((w32 ((w32 ((w32 ((w32 (16 * x1)) + x2)) * 17)) + x3)) + 1)) * 12)) + r1)) * 7)) + r2)), .inr (.inr 128)], (am_sh, am_mm U4))) 1 (fun _ => rfl) (fun hc => ?_) (fun hc => ?_)
      · have haaa21aa1 := haaa21aa.1 hc
        refine ev_seg (σ1 := ((d + 1), 311, 88, [some (.inr (.inr 86)), some (.inl x1), some (.inl x2), some (.inl x3), some (.inl r1), some (.inl (w32 ((w32 ((w32 ((w32 ((w32 ((w32 ((w32 ((w32 ((w32 (16 * x1)) + x2)) * 17)) + x3)) + 1)) * 12)) + r1)) * 7)) + r2)))], [.inl ((Int32.ofInt 1).toInt8.toInt32.toInt), .inl (w32 ((w32 ((w32 ((w32 ((w32 ((w32 ((w32 ((w32 ((w32 (16 * x1)) + x2)) * 17)) + x3)) + 1)) * 12)) + r1)) * 7)) + r2)), .inr (.inr 128)], (am_sh, am_mm U4))) 2 (fun _ => rfl) ?_
        refine eu_bast 128 haaa21aa1.1 (n := 182784) rfl (by decide) rfl (fun _ => rfl) haaa21aa1.2.1 ?_
        have haaa21aa1a := haaa21aa1.2.2
        refine ev_seg (σ1 := ((d + 1), 311, 95, [some (.inr (.inr 86)), some (.inl x1), some (.inl x2), some (.inl x3), some (.inl r1), some (.inl (w32 ((w32 ((w32 ((w32 ((w32 ((w32 ((w32 ((w32 ((w32 (16 * x1)) + x2)) * 17)) + x3)) + 1)) * 12)) + r1)) * 7)) + r2)))], [.inl (w32 ((w32 ((w32 ((w32 ((w32 ((w32 ((w32 ((w32 ((w32 (16 * x1)) + x2)) * 17)) + x3)) + 1)) * 12)) + r1)) * 7)) + r2)), .inr (.inr 128)], (am_sh, am_mm (am_upd U4 128 (w32 ((w32 ((w32 ((w32 ((w32 ((w32 ((w32 ((w32 ((w32 (16 * x1)) + x2)) * 17)) + x3)) + 1)) * 12)) + r1)) * 7)) + r2)).toNat ((Int32.ofInt 1).toInt8.toInt32.toInt))))) 3 (fun _ => rfl) ?_
        refine eu_bald 128 (n := 182784) rfl (by decide) rfl (fun _ => rfl) haaa21aa1a.1 ?_
        have haaa21aa1aa := haaa21aa1a.2
        refine ev_br (P := ¬ ((am_upd U4 128 (w32 ((w32 ((w32 ((w32 ((w32 ((w32 ((w32 ((w32 ((w32 (16 * x1)) + x2)) * 17)) + x3)) + 1)) * 12)) + r1)) * 7)) + r2)).toNat ((Int32.ofInt 1).toInt8.toInt32.toInt)) 128 (w32 ((w32 ((w32 ((w32 ((w32 ((w32 ((w32 ((w32 ((w32 (16 * x1)) + x2)) * 17)) + x3)) + 1)) * 12)) + r1)) * 7)) + r2)).toNat) = 2) (σ1 := ((d + 1), 311, 104, [some (.inr (.inr 86)), some (.inl x1), some (.inl x2), some (.inl x3), some (.inl r1), some (.inl (w32 ((w32 ((w32 ((w32 ((w32 ((w32 ((w32 ((w32 ((w32 (16 * x1)) + x2)) * 17)) + x3)) + 1)) * 12)) + r1)) * 7)) + r2)))], [], (am_sh, am_mm (am_upd U4 128 (w32 ((w32 ((w32 ((w32 ((w32 ((w32 ((w32 ((w32 ((w32 (16 * x1)) + x2)) * 17)) + x3)) + 1)) * 12)) + r1)) * 7)) + r2)).toNat ((Int32.ofInt 1).toInt8.toInt32.toInt))))) (σ2 := ((d + 1), 311, 100, [some (.inr (.inr 86)), some (.inl x1), some (.inl x2), some (.inl x3), some (.inl r1), some (.inl (w32 ((w32 ((w32 ((w32 ((w32 ((w32 ((w32 ((w32 ((w32 (16 * x1)) + x2)) * 17)) + x3)) + 1)) * 12)) + r1)) * 7)) + r2)))], [], (am_sh, am_mm (am_upd U4 128 (w32 ((w32 ((w32 ((w32 ((w32 ((w32 ((w32 ((w32 ((w32 (16 * x1)) + x2)) * 17)) + x3)) + 1)) * 12)) + r1)) * 7)) + r2)).toNat ((Int32.ofInt 1).toInt8.toInt32.toInt))))) 2 (fun _ => rfl) (fun hc => ?_) (fun hc => ?_)
        · have haaa21aa1aa1 := haaa21aa1aa.1 hc
          subst haaa21aa1aa1
          exact ev_end 2 (fun _ => rfl)
        · have haaa21aa1aa2 := haaa21aa1aa.2 hc
          subst haaa21aa1aa2
          exact ev_end 3 (fun _ => rfl)
      · have haaa21aa2 := haaa21aa.2 hc
        refine ev_seg (σ1 := ((d + 1), 311, 88, [some (.inr (.inr 86)), some (.inl x1), some (.inl x2), some (.inl x3), some (.inl r1), some (.inl (w32 ((w32 ((w32 ((w32 ((w32 ((w32 ((w32 ((w32 ((w32 (16 * x1)) + x2)) * 17)) + x3)) + 1)) * 12)) + r1)) * 7)) + r2)))], [.inl ((Int32.ofInt 2).toInt8.toInt32.toInt), .inl (w32 ((w32 ((w32 ((w32 ((w32 ((w32 ((w32 ((w32 ((w32 (16 * x1)) + x2)) * 17)) + x3)) + 1)) * 12)) + r1)) * 7)) + r2)), .inr (.inr 128)], (am_sh, am_mm U4))) 3 (fun _ => rfl) ?_
        refine eu_bast 128 haaa21aa2.1 (n := 182784) rfl (by decide) rfl (fun _ => rfl) haaa21aa2.2.1 ?_
        have haaa21aa2a := haaa21aa2.2.2
        refine ev_seg (σ1 := ((d + 1), 311, 95, [some (.inr (.inr 86)), some (.inl x1), some (.inl x2), some (.inl x3), some (.inl r1), some (.inl (w32 ((w32 ((w32 ((w32 ((w32 ((w32 ((w32 ((w32 ((w32 (16 * x1)) + x2)) * 17)) + x3)) + 1)) * 12)) + r1)) * 7)) + r2)))], [.inl (w32 ((w32 ((w32 ((w32 ((w32 ((w32 ((w32 ((w32 ((w32 (16 * x1)) + x2)) * 17)) + x3)) + 1)) * 12)) + r1)) * 7)) + r2)), .inr (.inr 128)], (am_sh, am_mm (am_upd U4 128 (w32 ((w32 ((w32 ((w32 ((w32 ((w32 ((w32 ((w32 ((w32 (16 * x1)) + x2)) * 17)) + x3)) + 1)) * 12)) + r1)) * 7)) + r2)).toNat ((Int32.ofInt 2).toInt8.toInt32.toInt))))) 3 (fun _ => rfl) ?_
        refine eu_bald 128 (n := 182784) rfl (by decide) rfl (fun _ => rfl) haaa21aa2a.1 ?_
        have haaa21aa2aa := haaa21aa2a.2
        refine ev_br (P := ¬ ((am_upd U4 128 (w32 ((w32 ((w32 ((w32 ((w32 ((w32 ((w32 ((w32 ((w32 (16 * x1)) + x2)) * 17)) + x3)) + 1)) * 12)) + r1)) * 7)) + r2)).toNat ((Int32.ofInt 2).toInt8.toInt32.toInt)) 128 (w32 ((w32 ((w32 ((w32 ((w32 ((w32 ((w32 ((w32 ((w32 (16 * x1)) + x2)) * 17)) + x3)) + 1)) * 12)) + r1)) * 7)) + r2)).toNat) = 2) (σ1 := ((d + 1), 311, 104, [some (.inr (.inr 86)), some (.inl x1), some (.inl x2), some (.inl x3), some (.inl r1), some (.inl (w32 ((w32 ((w32 ((w32 ((w32 ((w32 ((w32 ((w32 ((w32 (16 * x1)) + x2)) * 17)) + x3)) + 1)) * 12)) + r1)) * 7)) + r2)))], [], (am_sh, am_mm (am_upd U4 128 (w32 ((w32 ((w32 ((w32 ((w32 ((w32 ((w32 ((w32 ((w32 (16 * x1)) + x2)) * 17)) + x3)) + 1)) * 12)) + r1)) * 7)) + r2)).toNat ((Int32.ofInt 2).toInt8.toInt32.toInt))))) (σ2 := ((d + 1), 311, 100, [some (.inr (.inr 86)), some (.inl x1), some (.inl x2), some (.inl x3), some (.inl r1), some (.inl (w32 ((w32 ((w32 ((w32 ((w32 ((w32 ((w32 ((w32 ((w32 (16 * x1)) + x2)) * 17)) + x3)) + 1)) * 12)) + r1)) * 7)) + r2)))], [], (am_sh, am_mm (am_upd U4 128 (w32 ((w32 ((w32 ((w32 ((w32 ((w32 ((w32 ((w32 ((w32 (16 * x1)) + x2)) * 17)) + x3)) + 1)) * 12)) + r1)) * 7)) + r2)).toNat ((Int32.ofInt 2).toInt8.toInt32.toInt))))) 2 (fun _ => rfl) (fun hc => ?_) (fun hc => ?_)
        · have haaa21aa2aa1 := haaa21aa2aa.1 hc
          subst haaa21aa2aa1
          exact ev_end 2 (fun _ => rfl)
        · have haaa21aa2aa2 := haaa21aa2aa.2 hc
          subst haaa21aa2aa2
          exact ev_end 3 (fun _ => rfl)
    · have haaa22 := haaa2.2 hc
      refine ev_seg (σ1 := ((d + 1), 311, 76, [some (.inr (.inr 86)), some (.inl x1), some (.inl x2), some (.inl x3), some (.inl r1), some (.inl (w32 ((w32 ((w32 ((w32 ((w32 ((w32 ((w32 ((w32 ((w32 (16 * x1)) + x2)) * 17)) + x3)) + 1)) * 12)) + r1)) * 7)) + r2)))], [.inr (.inl 0), .inl x2, .inl x1, .inl 1, .inr (.inr 86), .inl (w32 ((w32 ((w32 ((w32 ((w32 ((w32 ((w32 ((w32 ((w32 (16 * x1)) + x2)) * 17)) + x3)) + 1)) * 12)) + r1)) * 7)) + r2)), .inr (.inr 128)], (am_sh, am_mm U2))) 2 (fun _ => rfl) ?_
      obtain ⟨r5, U5, haaa22c, haaa22a⟩ := haaa22
      refine ev_cal (σc := (d, 136, 0, [some (.inr (.inr 86)), some (.inl 1), some (.inl x1), some (.inl x2), some (.inr (.inl 0)), none], [], (am_sh, am_mm U2))) (fun _ => rfl) haaa22c ?_
      show Ev kz ((d + 1), 311, 79, [some (.inr (.inr 86)), some (.inl x1), some (.inl x2), some (.inl x3), some (.inl r1), some (.inl (w32 ((w32 ((w32 ((w32 ((w32 ((w32 ((w32 ((w32 ((w32 (16 * x1)) + x2)) * 17)) + x3)) + 1)) * 12)) + r1)) * 7)) + r2)))], [.inl r5, .inl (w32 ((w32 ((w32 ((w32 ((w32 ((w32 ((w32 ((w32 ((w32 (16 * x1)) + x2)) * 17)) + x3)) + 1)) * 12)) + r1)) * 7)) + r2)), .inr (.inr 128)], (am_sh, am_mm U5)) R
      refine ev_br (P := r5 = 0) (σ1 := ((d + 1), 311, 86, [some (.inr (.inr 86)), some (.inl x1), some (.inl x2), some (.inl x3), some (.inl r1), some (.inl (w32 ((w32 ((w32 ((w32 ((w32 ((w32 ((w32 ((w32 ((w32 (16 * x1)) + x2)) * 17)) + x3)) + 1)) * 12)) + r1)) * 7)) + r2)))], [.inl (w32 ((w32 ((w32 ((w32 ((w32 ((w32 ((w32 ((w32 ((w32 (16 * x1)) + x2)) * 17)) + x3)) + 1)) * 12)) + r1)) * 7)) + r2)), .inr (.inr 128)], (am_sh, am_mm U5))) (σ2 := ((d + 1), 311, 82, [some (.inr (.inr 86)), some (.inl x1), some (.inl x2), some (.inl x3), some (.inl r1), some (.inl (w32 ((w32 ((w32 ((w32 ((w32 ((w32 ((w32 ((w32 ((w32 (16 * x1)) + x2)) * 17)) + x3)) + 1)) * 12)) + r1)) * 7)) + r2)))], [.inl (w32 ((w32 ((w32 ((w32 ((w32 ((w32 ((w32 ((w32 ((w32 (16 * x1)) + x2)) * 17)) + x3)) + 1)) * 12)) + r1)) * 7)) + r2)), .inr (.inr 128)], (am_sh, am_mm U5))) 1 (fun _ => rfl) (fun hc => ?_) (fun hc => ?_)
      · have haaa22a1 := haaa22a.1 hc
        refine ev_seg (σ1 := ((d + 1), 311, 88, [some (.inr (.inr 86)), some (.inl x1), some (.inl x2), some (.inl x3), some (.inl r1), some (.inl (w32 ((w32 ((w32 ((w32 ((w32 ((w32 ((w32 ((w32 ((w32 (16 * x1)) + x2)) * 17)) + x3)) + 1)) * 12)) + r1)) * 7)) + r2)))], [.inl ((Int32.ofInt 1).toInt8.toInt32.toInt), .inl (w32 ((w32 ((w32 ((w32 ((w32 ((w32 ((w32 ((w32 ((w32 (16 * x1)) + x2)) * 17)) + x3)) + 1)) * 12)) + r1)) * 7)) + r2)), .inr (.inr 128)], (am_sh, am_mm U5))) 2 (fun _ => rfl) ?_
        refine eu_bast 128 haaa22a1.1 (n := 182784) rfl (by decide) rfl (fun _ => rfl) haaa22a1.2.1 ?_
        have haaa22a1a := haaa22a1.2.2
        refine ev_seg (σ1 := ((d + 1), 311, 95, [some (.inr (.inr 86)), some (.inl x1), some (.inl x2), some (.inl x3), some (.inl r1), some (.inl (w32 ((w32 ((w32 ((w32 ((w32 ((w32 ((w32 ((w32 ((w32 (16 * x1)) + x2)) * 17)) + x3)) + 1)) * 12)) + r1)) * 7)) + r2)))], [.inl (w32 ((w32 ((w32 ((w32 ((w32 ((w32 ((w32 ((w32 ((w32 (16 * x1)) + x2)) * 17)) + x3)) + 1)) * 12)) + r1)) * 7)) + r2)), .inr (.inr 128)], (am_sh, am_mm (am_upd U5 128 (w32 ((w32 ((w32 ((w32 ((w32 ((w32 ((w32 ((w32 ((w32 (16 * x1)) + x2)) * 17)) + x3)) + 1)) * 12)) + r1)) * 7)) + r2)).toNat ((Int32.ofInt 1).toInt8.toInt32.toInt))))) 3 (fun _ => rfl) ?_
        refine eu_bald 128 (n := 182784) rfl (by decide) rfl (fun _ => rfl) haaa22a1a.1 ?_
        have haaa22a1aa := haaa22a1a.2
        refine ev_br (P := ¬ ((am_upd U5 128 (w32 ((w32 ((w32 ((w32 ((w32 ((w32 ((w32 ((w32 ((w32 (16 * x1)) + x2)) * 17)) + x3)) + 1)) * 12)) + r1)) * 7)) + r2)).toNat ((Int32.ofInt 1).toInt8.toInt32.toInt)) 128 (w32 ((w32 ((w32 ((w32 ((w32 ((w32 ((w32 ((w32 ((w32 (16 * x1)) + x2)) * 17)) + x3)) + 1)) * 12)) + r1)) * 7)) + r2)).toNat) = 2) (σ1 := ((d + 1), 311, 104, [some (.inr (.inr 86)), some (.inl x1), some (.inl x2), some (.inl x3), some (.inl r1), some (.inl (w32 ((w32 ((w32 ((w32 ((w32 ((w32 ((w32 ((w32 ((w32 (16 * x1)) + x2)) * 17)) + x3)) + 1)) * 12)) + r1)) * 7)) + r2)))], [], (am_sh, am_mm (am_upd U5 128 (w32 ((w32 ((w32 ((w32 ((w32 ((w32 ((w32 ((w32 ((w32 (16 * x1)) + x2)) * 17)) + x3)) + 1)) * 12)) + r1)) * 7)) + r2)).toNat ((Int32.ofInt 1).toInt8.toInt32.toInt))))) (σ2 := ((d + 1), 311, 100, [some (.inr (.inr 86)), some (.inl x1), some (.inl x2), some (.inl x3), some (.inl r1), some (.inl (w32 ((w32 ((w32 ((w32 ((w32 ((w32 ((w32 ((w32 ((w32 (16 * x1)) + x2)) * 17)) + x3)) + 1)) * 12)) + r1)) * 7)) + r2)))], [], (am_sh, am_mm (am_upd U5 128 (w32 ((w32 ((w32 ((w32 ((w32 ((w32 ((w32 ((w32 ((w32 (16 * x1)) + x2)) * 17)) + x3)) + 1)) * 12)) + r1)) * 7)) + r2)).toNat ((Int32.ofInt 1).toInt8.toInt32.toInt))))) 2 (fun _ => rfl) (fun hc => ?_) (fun hc => ?_)
        · have haaa22a1aa1 := haaa22a1aa.1 hc
          subst haaa22a1aa1
          exact ev_end 2 (fun _ => rfl)
        · have haaa22a1aa2 := haaa22a1aa.2 hc
          subst haaa22a1aa2
          exact ev_end 3 (fun _ => rfl)
      · have haaa22a2 := haaa22a.2 hc
        refine ev_seg (σ1 := ((d + 1), 311, 88, [some (.inr (.inr 86)), some (.inl x1), some (.inl x2), some (.inl x3), some (.inl r1), some (.inl (w32 ((w32 ((w32 ((w32 ((w32 ((w32 ((w32 ((w32 ((w32 (16 * x1)) + x2)) * 17)) + x3)) + 1)) * 12)) + r1)) * 7)) + r2)))], [.inl ((Int32.ofInt 2).toInt8.toInt32.toInt), .inl (w32 ((w32 ((w32 ((w32 ((w32 ((w32 ((w32 ((w32 ((w32 (16 * x1)) + x2)) * 17)) + x3)) + 1)) * 12)) + r1)) * 7)) + r2)), .inr (.inr 128)], (am_sh, am_mm U5))) 3 (fun _ => rfl) ?_
        refine eu_bast 128 haaa22a2.1 (n := 182784) rfl (by decide) rfl (fun _ => rfl) haaa22a2.2.1 ?_
        have haaa22a2a := haaa22a2.2.2
        refine ev_seg (σ1 := ((d + 1), 311, 95, [some (.inr (.inr 86)), some (.inl x1), some (.inl x2), some (.inl x3), some (.inl r1), some (.inl (w32 ((w32 ((w32 ((w32 ((w32 ((w32 ((w32 ((w32 ((w32 (16 * x1)) + x2)) * 17)) + x3)) + 1)) * 12)) + r1)) * 7)) + r2)))], [.inl (w32 ((w32 ((w32 ((w32 ((w32 ((w32 ((w32 ((w32 ((w32 (16 * x1)) + x2)) * 17)) + x3)) + 1)) * 12)) + r1)) * 7)) + r2)), .inr (.inr 128)], (am_sh, am_mm (am_upd U5 128 (w32 ((w32 ((w32 ((w32 ((w32 ((w32 ((w32 ((w32 ((w32 (16 * x1)) + x2)) * 17)) + x3)) + 1)) * 12)) + r1)) * 7)) + r2)).toNat ((Int32.ofInt 2).toInt8.toInt32.toInt))))) 3 (fun _ => rfl) ?_
        refine eu_bald 128 (n := 182784) rfl (by decide) rfl (fun _ => rfl) haaa22a2a.1 ?_
        have haaa22a2aa := haaa22a2a.2
        refine ev_br (P := ¬ ((am_upd U5 128 (w32 ((w32 ((w32 ((w32 ((w32 ((w32 ((w32 ((w32 ((w32 (16 * x1)) + x2)) * 17)) + x3)) + 1)) * 12)) + r1)) * 7)) + r2)).toNat ((Int32.ofInt 2).toInt8.toInt32.toInt)) 128 (w32 ((w32 ((w32 ((w32 ((w32 ((w32 ((w32 ((w32 ((w32 (16 * x1)) + x2)) * 17)) + x3)) + 1)) * 12)) + r1)) * 7)) + r2)).toNat) = 2) (σ1 := ((d + 1), 311, 104, [some (.inr (.inr 86)), some (.inl x1), some (.inl x2), some (.inl x3), some (.inl r1), some (.inl (w32 ((w32 ((w32 ((w32 ((w32 ((w32 ((w32 ((w32 ((w32 (16 * x1)) + x2)) * 17)) + x3)) + 1)) * 12)) + r1)) * 7)) + r2)))], [], (am_sh, am_mm (am_upd U5 128 (w32 ((w32 ((w32 ((w32 ((w32 ((w32 ((w32 ((w32 ((w32 (16 * x1)) + x2)) * 17)) + x3)) + 1)) * 12)) + r1)) * 7)) + r2)).toNat ((Int32.ofInt 2).toInt8.toInt32.toInt))))) (σ2 := ((d + 1), 311, 100, [some (.inr (.inr 86)), some (.inl x1), some (.inl x2), some (.inl x3), some (.inl r1), some (.inl (w32 ((w32 ((w32 ((w32 ((w32 ((w32 ((w32 ((w32 ((w32 (16 * x1)) + x2)) * 17)) + x3)) + 1)) * 12)) + r1)) * 7)) + r2)))], [], (am_sh, am_mm (am_upd U5 128 (w32 ((w32 ((w32 ((w32 ((w32 ((w32 ((w32 ((w32 ((w32 (16 * x1)) + x2)) * 17)) + x3)) + 1)) * 12)) + r1)) * 7)) + r2)).toNat ((Int32.ofInt 2).toInt8.toInt32.toInt))))) 2 (fun _ => rfl) (fun hc => ?_) (fun hc => ?_)
        · have haaa22a2aa1 := haaa22a2aa.1 hc
          subst haaa22a2aa1
          exact ev_end 2 (fun _ => rfl)
        · have haaa22a2aa2 := haaa22a2aa.2 hc
          subst haaa22a2aa2
          exact ev_end 3 (fun _ => rfl)
