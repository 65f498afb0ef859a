set_option maxRecDepth 8000 in
theorem st95_86_0 (kz : am_Z) (d : Nat) (x1 : Int) (U : Nat → Nat → Int) (R : Option am_V × am_M) (h : ∃ U1 : Nat → Nat → Int, Ev kz (d, 186, 0, [some (.inr (.inr 86))], [], (am_sh, am_mm U)) (none, (am_sh, am_mm U1)) ∧ ((((U1 86 8) ≤ 0 : Prop)) → Ev kz ((d + 1), 95, 17, [some (.inr (.inr 86)), some (.inl x1), some (.inl (U1 86 5))], [], (am_sh, am_mm U1)) R) ∧ (¬ ((U1 86 8) ≤ 0) → R = (none, (am_sh, am_mm U1)))) : Ev kz ((d + 1), 95, 0, [some (.inr (.inr 86)), some (.inl x1), none], [], (am_sh, am_mm U)) R := by
  refine ev_seg (σ1 := ((d + 1), 95, 1, [some (.inr (.inr 86)), some (.inl x1), none], [.inr (.inr 86)], (am_sh, am_mm U))) 1 (fun _ => rfl) ?_
  obtain ⟨U1, hc, ha⟩ := h
  refine ev_cal (σc := (d, 186, 0, [some (.inr (.inr 86))], [], (am_sh, am_mm U))) (fun _ => rfl) hc ?_
  show Ev kz ((d + 1), 95, 4, [some (.inr (.inr 86)), some (.inl x1), none], [], (am_sh, am_mm U1)) R
  refine ev_br (P := (U1 86 8) ≤ 0) (σ1 := ((d + 1), 95, 12, [some (.inr (.inr 86)), some (.inl x1), none], [], (am_sh, am_mm U1))) (σ2 := ((d + 1), 95, 11, [some (.inr (.inr 86)), some (.inl x1), none], [], (am_sh, am_mm U1))) 3 (fun _ => rfl) (fun hc => ?_) (fun hc => ?_)
  · have ha1 := ha.1 hc
    refine ev_seg (σ1 := ((d + 1), 95, 17, [some (.inr (.inr 86)), some (.inl x1), some (.inl (U1 86 5))], [], (am_sh, am_mm U1))) 3 (fun _ => rfl) ?_
    exact ha1
  · have ha2 := ha.2 hc
    subst ha2
    exact ev_end 1 (fun _ => rfl)
set_option maxRecDepth 8000 in
theorem st95_86_17 (kz : am_Z) (d : Nat) (x1 x2 : Int) (U : Nat → Nat → Int) (R : Option am_V × am_M) (h : ((((U 86 2) ≤ x2 : Prop)) → ∃ (r1 : Int) (U1 : Nat → Nat → Int), Ev kz (d, 197, 0, [some (.inr (.inr 86)), some (.inl 59)], [], (am_sh, am_mm U)) (some (.inl r1), (am_sh, am_mm U1)) ∧ (((r1 = 0 : Prop)) → ∃ U2 : Nat → Nat → Int, Ev kz (d, 198, 0, [some (.inr (.inr 86)), some (.inl 59)], [], (am_sh, am_mm U1)) (none, (am_sh, am_mm U2)) ∧ R = (none, (am_sh, am_mm U2))) ∧ (¬ (r1 = 0) → (((¬ x1 = 80 : Prop)) → ∃ U3 : Nat → Nat → Int, Ev kz (d, 198, 0, [some (.inr (.inr 86)), some (.inl 59)], [], (am_sh, am_mm U1)) (none, (am_sh, am_mm U3)) ∧ R = (none, (am_sh, am_mm U3))) ∧ (¬ (¬ x1 = 80) → ((((U1 86 2) ≤ x2 : Prop)) → ∃ U4 : Nat → Nat → Int, Ev kz (d, 198, 0, [some (.inr (.inr 86)), some (.inl 59)], [], (am_sh, am_mm U1)) (none, (am_sh, am_mm U4)) ∧ R = (none, (am_sh, am_mm U4))) ∧ (¬ ((U1 86 2) ≤ x2) → ∃ U5 : Nat → Nat → Int, Ev kz (d, 196, 0, [some (.inr (.inr 86)), some (.inl 6), some (.inl x2)], [], (am_sh, am_mm U1)) (none, (am_sh, am_mm U5)) ∧ ∃ U6 : Nat → Nat → Int, Ev kz (d, 198, 0, [some (.inr (.inr 86)), some (.inl 59)], [], (am_sh, am_mm U5)) (none, (am_sh, am_mm U6)) ∧ R = (none, (am_sh, am_mm U6)))))) ∧ (¬ ((U 86 2) ≤ x2) → (0 ≤ x2 ∧ x2 < 1800) ∧ ((((U 87 x2.toNat) = 32 : Prop)) → Ev kz ((d + 1), 95, 17, [some (.inr (.inr 86)), some (.inl x1), some (.inl (w32 (x2 + 1)))], [], (am_sh, am_mm U)) R) ∧ (¬ ((U 87 x2.toNat) = 32) → (0 ≤ x2 ∧ x2 < 1800) ∧ (((¬ (U 87 x2.toNat) = 10 : Prop)) → ∃ (r7 : Int) (U7 : Nat → Nat → Int), Ev kz (d, 197, 0, [some (.inr (.inr 86)), some (.inl 59)], [], (am_sh, am_mm U)) (some (.inl r7), (am_sh, am_mm U7)) ∧ (((r7 = 0 : Prop)) → ∃ U8 : Nat → Nat → Int, Ev kz (d, 198, 0, [some (.inr (.inr 86)), some (.inl 59)], [], (am_sh, am_mm U7)) (none, (am_sh, am_mm U8)) ∧ R = (none, (am_sh, am_mm U8))) ∧ (¬ (r7 = 0) → (((¬ x1 = 80 : Prop)) → ∃ U9 : Nat → Nat → Int, Ev kz (d, 198, 0, [some (.inr (.inr 86)), some (.inl 59)], [], (am_sh, am_mm U7)) (none, (am_sh, am_mm U9)) ∧ R = (none, (am_sh, am_mm U9))) ∧ (¬ (¬ x1 = 80) → ((((U7 86 2) ≤ x2 : Prop)) → ∃ U10 : Nat → Nat → Int, Ev kz (d, 198, 0, [some (.inr (.inr 86)), some (.inl 59)], [], (am_sh, am_mm U7)) (none, (am_sh, am_mm U10)) ∧ R = (none, (am_sh, am_mm U10))) ∧ (¬ ((U7 86 2) ≤ x2) → ∃ U11 : Nat → Nat → Int, Ev kz (d, 196, 0, [some (.inr (.inr 86)), some (.inl 6), some (.inl x2)], [], (am_sh, am_mm U7)) (none, (am_sh, am_mm U11)) ∧ ∃ U12 : Nat → Nat → Int, Ev kz (d, 198, 0, [some (.inr (.inr 86)), some (.inl 59)], [], (am_sh, am_mm U11)) (none, (am_sh, am_mm U12)) ∧ R = (none, (am_sh, am_mm U12)))))) ∧ (¬ (¬ (U 87 x2.toNat) = 10) → Ev kz ((d + 1), 95, 17, [some (.inr (.inr 86)), some (.inl x1), some (.inl (w32 (x2 + 1)))], [], (am_sh, am_mm U)) R)))) : Ev kz ((d + 1), 95, 17, [some (.inr (.inr 86)), some (.inl x1), some (.inl x2)], [], (am_sh, am_mm U)) R := by
  refine ev_br (P := (U 86 2) ≤ x2) (σ1 := ((d + 1), 95, 53, [some (.inr (.inr 86)), some (.inl x1), some (.inl x2)], [], (am_sh, am_mm U))) (σ2 := ((d + 1), 95, 25, [some (.inr (.inr 86)), some (.inl x1), some (.inl x2)], [], (am_sh, am_mm U))) 4 (fun _ => rfl) (fun hc => ?_) (fun hc => ?_)
  · have h1 := h.1 hc
    refine ev_seg (σ1 := ((d + 1), 95, 56, [some (.inr (.inr 86)), some (.inl x1), some (.inl x2)], [.inl 59, .inr (.inr 86)], (am_sh, am_mm U))) 2 (fun _ => rfl) ?_
    obtain ⟨r1, U1, h1c, h1a⟩ := h1
    refine ev_cal (σc := (d, 197, 0, [some (.inr (.inr 86)), some (.inl 59)], [], (am_sh, am_mm U))) (fun _ => rfl) h1c ?_
    show Ev kz ((d + 1), 95, 59, [some (.inr (.inr 86)), some (.inl x1), some (.inl x2)], [.inl r1], (am_sh, am_mm U1)) R
    refine ev_br (P := r1 = 0) (σ1 := ((d + 1), 95, 83, [some (.inr (.inr 86)), some (.inl x1), some (.inl x2)], [], (am_sh, am_mm U1))) (σ2 := ((d + 1), 95, 62, [some (.inr (.inr 86)), some (.inl x1), some (.inl x2)], [], (am_sh, am_mm U1))) 1 (fun _ => rfl) (fun hc => ?_) (fun hc => ?_)
    · have h1a1 := h1a.1 hc
      refine ev_seg (σ1 := ((d + 1), 95, 86, [some (.inr (.inr 86)), some (.inl x1), some (.inl x2)], [.inl 59, .inr (.inr 86)], (am_sh, am_mm U1))) 2 (fun _ => rfl) ?_
      obtain ⟨U2, h1a1c, h1a1a⟩ := h1a1
      refine ev_cal (σc := (d, 198, 0, [some (.inr (.inr 86)), some (.inl 59)], [], (am_sh, am_mm U1))) (fun _ => rfl) h1a1c ?_
      show Ev kz ((d + 1), 95, 89, [some (.inr (.inr 86)), some (.inl x1), some (.inl x2)], [], (am_sh, am_mm U2)) R
      subst h1a1a
      exact ev_end 1 (fun _ => rfl)
    · have h1a2 := h1a.2 hc
      refine ev_br (P := ¬ x1 = 80) (σ1 := ((d + 1), 95, 83, [some (.inr (.inr 86)), some (.inl x1), some (.inl x2)], [], (am_sh, am_mm U1))) (σ2 := ((d + 1), 95, 68, [some (.inr (.inr 86)), some (.inl x1), some (.inl x2)], [], (am_sh, am_mm U1))) 3 (fun _ => rfl) (fun hc => ?_) (fun hc => ?_)
      · have h1a21 := h1a2.1 hc
        refine ev_seg (σ1 := ((d + 1), 95, 86, [some (.inr (.inr 86)), some (.inl x1), some (.inl x2)], [.inl 59, .inr (.inr 86)], (am_sh, am_mm U1))) 2 (fun _ => rfl) ?_
        obtain ⟨U3, h1a21c, h1a21a⟩ := h1a21
        refine ev_cal (σc := (d, 198, 0, [some (.inr (.inr 86)), some (.inl 59)], [], (am_sh, am_mm U1))) (fun _ => rfl) h1a21c ?_
        show Ev kz ((d + 1), 95, 89, [some (.inr (.inr 86)), some (.inl x1), some (.inl x2)], [], (am_sh, am_mm U3)) R
        subst h1a21a
        exact ev_end 1 (fun _ => rfl)
      · have h1a22 := h1a2.2 hc
        refine ev_br (P := (U1 86 2) ≤ x2) (σ1 := ((d + 1), 95, 83, [some (.inr (.inr 86)), some (.inl x1), some (.inl x2)], [], (am_sh, am_mm U1))) (σ2 := ((d + 1), 95, 76, [some (.inr (.inr 86)), some (.inl x1), some (.inl x2)], [], (am_sh, am_mm U1))) 4 (fun _ => rfl) (fun hc => ?_) (fun hc => ?_)
        · have h1a221 := h1a22.1 hc
          refine ev_seg (σ1 := ((d + 1), 95, 86, [some (.inr (.inr 86)), some (.inl x1), some (.inl x2)], [.inl 59, .inr (.inr 86)], (am_sh, am_mm U1))) 2 (fun _ => rfl) ?_
          obtain ⟨U4, h1a221c, h1a221a⟩ := h1a221
          refine ev_cal (σc := (d, 198, 0, [some (.inr (.inr 86)), some (.inl 59)], [], (am_sh, am_mm U1))) (fun _ => rfl) h1a221c ?_
          show Ev kz ((d + 1), 95, 89, [some (.inr (.inr 86)), some (.inl x1), some (.inl x2)], [], (am_sh, am_mm U4)) R
          subst h1a221a
          exact ev_end 1 (fun _ => rfl)
        · have h1a222 := h1a22.2 hc
          refine ev_seg (σ1 := ((d + 1), 95, 80, [some (.inr (.inr 86)), some (.inl x1), some (.inl x2)], [.inl x2, .inl 6, .inr (.inr 86)], (am_sh, am_mm U1))) 3 (fun _ => rfl) ?_
          obtain ⟨U5, h1a222c, h1a222a⟩ := h1a222
          refine ev_cal (σc := (d, 196, 0, [some (.inr (.inr 86)), some (.inl 6), some (.inl x2)], [], (am_sh, am_mm U1))) (fun _ => rfl) h1a222c ?_
          show Ev kz ((d + 1), 95, 83, [some (.inr (.inr 86)), some (.inl x1), some (.inl x2)], [], (am_sh, am_mm U5)) R
          refine ev_seg (σ1 := ((d + 1), 95, 86, [some (.inr (.inr 86)), some (.inl x1), some (.inl x2)], [.inl 59, .inr (.inr 86)], (am_sh, am_mm U5))) 2 (fun _ => rfl) ?_
          obtain ⟨U6, h1a222ac, h1a222aa⟩ := h1a222a
          refine ev_cal (σc := (d, 198, 0, [some (.inr (.inr 86)), some (.inl 59)], [], (am_sh, am_mm U5))) (fun _ => rfl) h1a222ac ?_
          show Ev kz ((d + 1), 95, 89, [some (.inr (.inr 86)), some (.inl x1), some (.inl x2)], [], (am_sh, am_mm U6)) R
          subst h1a222aa
          exact ev_end 1 (fun _ => rfl)
  · have h2 := h.2 hc
    refine ev_seg (σ1 := ((d + 1), 95, 30, [some (.inr (.inr 86)), some (.inl x1), some (.inl x2)], [.inl x2, .inr (.inr 87)], (am_sh, am_mm U))) 3 (fun _ => rfl) ?_
    refine eu_iald 87 (n := 1800) rfl (by decide) rfl (fun _ => rfl) h2.1 ?_
    have h2a := h2.2
    refine ev_br (P := (U 87 x2.toNat) = 32) (σ1 := ((d + 1), 95, 47, [some (.inr (.inr 86)), some (.inl x1), some (.inl x2)], [], (am_sh, am_mm U))) (σ2 := ((d + 1), 95, 36, [some (.inr (.inr 86)), some (.inl x1), some (.inl x2)], [], (am_sh, am_mm U))) 2 (fun _ => rfl) (fun hc => ?_) (fun hc => ?_)
    · have h2a1 := h2a.1 hc
      refine ev_seg (σ1 := ((d + 1), 95, 17, [some (.inr (.inr 86)), some (.inl x1), some (.inl (w32 (x2 + 1)))], [], (am_sh, am_mm U))) 2 (fun _ => rfl) ?_
      exact h2a1
    · have h2a2 := h2a.2 hc
      refine ev_seg (σ1 := ((d + 1), 95, 41, [some (.inr (.inr 86)), some (.inl x1), some (.inl x2)], [.inl x2, .inr (.inr 87)], (am_sh, am_mm U))) 3 (fun _ => rfl) ?_
      refine eu_iald 87 (n := 1800) rfl (by decide) rfl (fun _ => rfl) h2a2.1 ?_
      have h2a2a := h2a2.2
      refine ev_br (P := ¬ (U 87 x2.toNat) = 10) (σ1 := ((d + 1), 95, 53, [some (.inr (.inr 86)), some (.inl x1), some (.inl x2)], [], (am_sh, am_mm U))) (σ2 := ((d + 1), 95, 47, [some (.inr (.inr 86)), some (.inl x1), some (.inl x2)], [], (am_sh, am_mm U))) 2 (fun _ => rfl) (fun hc => ?_) (fun hc => ?_)
      · have h2a2a1 := h2a2a.1 hc
        refine ev_seg (σ1 := ((d + 1), 95, 56, [some (.inr (.inr 86)), some (.inl x1), some (.inl x2)], [.inl 59, .inr (.inr 86)], (am_sh, am_mm U))) 2 (fun _ => rfl) ?_
        obtain ⟨r7, U7, h2a2a1c, h2a2a1a⟩ := h2a2a1
        refine ev_cal (σc := (d, 197, 0, [some (.inr (.inr 86)), some (.inl 59)], [], (am_sh, am_mm U))) (fun _ => rfl) h2a2a1c ?_
        show Ev kz ((d + 1), 95, 59, [some (.inr (.inr 86)), some (.inl x1), some (.inl x2)], [.inl r7], (am_sh, am_mm U7)) R
        refine ev_br (P := r7 = 0) (σ1 := ((d + 1), 95, 83, [some (.inr (.inr 86)), some (.inl x1), some (.inl x2)], [], (am_sh, am_mm U7))) (σ2 := ((d + 1), 95, 62, [some (.inr (.inr 86)), some (.inl x1), some (.inl x2)], [], (am_sh, am_mm U7))) 1 (fun _ => rfl) (fun hc => ?_) (fun hc => ?_)
        · have h2a2a1a1 := h2a2a1a.1 hc
          refine ev_seg (σ1 := ((d + 1), 95, 86, [some (.inr (.inr 86)), some (.inl x1), some (.inl x2)], [.inl 59, .inr (.inr 86)], (am_sh, am_mm U7))) 2 (fun _ => rfl) ?_
          obtain ⟨U8, h2a2a1a1c, h2a2a1a1a⟩ := h2a2a1a1
          refine ev_cal (σc := (d, 198, 0, [some (.inr (.inr 86)), some (.inl 59)], [], (am_sh, am_mm U7))) (fun _ => rfl) h2a2a1a1c ?_
          show Ev kz ((d + 1), 95, 89, [some (.inr (.inr 86)), some (.inl x1), some (.inl x2)], [], (am_sh, am_mm U8)) R
          subst h2a2a1a1a
          exact ev_end 1 (fun _ => rfl)
        · have h2a2a1a2 := h2a2a1a.2 hc
          refine ev_br (P := ¬ x1 = 80) (σ1 := ((d + 1), 95, 83, [some (.inr (.inr 86)), some (.inl x1), some (.inl x2)], [], (am_sh, am_mm U7))) (σ2 := ((d + 1), 95, 68, [some (.inr (.inr 86)), some (.inl x1), some (.inl x2)], [], (am_sh, am_mm U7))) 3 (fun _ => rfl) (fun hc => ?_) (fun hc => ?_)
          · have h2a2a1a21 := h2a2a1a2.1 hc
            refine ev_seg (σ1 := ((d + 1), 95, 86, [some (.inr (.inr 86)), some (.inl x1), some (.inl x2)], [.inl 59, .inr (.inr 86)], (am_sh, am_mm U7))) 2 (fun _ => rfl) ?_
            obtain ⟨U9, h2a2a1a21c, h2a2a1a21a⟩ := h2a2a1a21
            refine ev_cal (σc := (d, 198, 0, [some (.inr (.inr 86)), some (.inl 59)], [], (am_sh, am_mm U7))) (fun _ => rfl) h2a2a1a21c ?_
            show Ev kz ((d + 1), 95, 89, [some (.inr (.inr 86)), some (.inl x1), some (.inl x2)], [], (am_sh, am_mm U9)) R
            subst h2a2a1a21a
            exact ev_end 1 (fun _ => rfl)
          · have h2a2a1a22 := h2a2a1a2.2 hc
            refine ev_br (P := (U7 86 2) ≤ x2) (σ1 := ((d + 1), 95, 83, [some (.inr (.inr 86)), some (.inl x1), some (.inl x2)], [], (am_sh, am_mm U7))) (σ2 := ((d + 1), 95, 76, [some (.inr (.inr 86)), some (.inl x1), some (.inl x2)], [], (am_sh, am_mm U7))) 4 (fun _ => rfl) (fun hc => ?_) (fun hc => ?_)
            · have h2a2a1a221 := h2a2a1a22.1 hc
              refine ev_seg (σ1 := ((d + 1), 95, 86, [some (.inr (.inr 86)), some (.inl x1), some (.inl x2)], [.inl 59, .inr (.inr 86)], (am_sh, am_mm U7))) 2 (fun _ => rfl) ?_
              obtain ⟨U10, h2a2a1a221c, h2a2a1a221a⟩ := h2a2a1a221
              refine ev_cal (σc := (d, 198, 0, [some (.inr (.inr 86)), some (.inl 59)], [], (am_sh, am_mm U7))) (fun _ => rfl) h2a2a1a221c ?_
              show Ev kz ((d + 1), 95, 89, [some (.inr (.inr 86)), some (.inl x1), some (.inl x2)], [], (am_sh, am_mm U10)) R
              subst h2a2a1a221a
              exact ev_end 1 (fun _ => rfl)
            · have h2a2a1a222 := h2a2a1a22.2 hc
              refine ev_seg (σ1 := ((d + 1), 95, 80, [some (.inr (.inr 86)), some (.inl x1), some (.inl x2)], [.inl x2, .inl 6, .inr (.inr 86)], (am_sh, am_mm U7))) 3 (fun _ => rfl) ?_
              obtain ⟨U11, h2a2a1a222c, h2a2a1a222a⟩ := h2a2a1a222
              refine ev_cal (σc := (d, 196, 0, [some (.inr (.inr 86)), some (.inl 6), some (.inl x2)], [], (am_sh, am_mm U7))) (fun _ => rfl) h2a2a1a222c ?_
              show Ev kz ((d + 1), 95, 83, [some (.inr (.inr 86)), some (.inl x1), some (.inl x2)], [], (am_sh, am_mm U11)) R
              refine ev_seg (σ1 := ((d + 1), 95, 86, [some (.inr (.inr 86)), some (.inl x1), some (.inl x2)], [.inl 59, .inr (.inr 86)], (am_sh, am_mm U11))) 2 (fun _ => rfl) ?_
              obtain ⟨U12, h2a2a1a222ac, h2a2a1a222aa⟩ := h2a2a1a222a
              refine ev_cal (σc := (d, 198, 0, [some (.inr (.inr 86)), some (.inl 59)], [], (am_sh, am_mm U11))) (fun _ => rfl) h2a2a1a222ac ?_
              show Ev kz ((d + 1), 95, 89, [some (.inr (.inr 86)), some (.inl x1), some (.inl x2)], [], (am_sh, am_mm U12)) R
              subst h2a2a1a222aa
              exact ev_end 1 (fun _ => rfl)
      · have h2a2a2 := h2a2a.2 hc
        refine ev_seg (σ1 := ((d + 1), 95, 17, [some (.inr (.inr 86)), some (.inl x1), some (.inl (w32 (x2 + 1)))], [], (am_sh, am_mm U))) 2 (fun _ => rfl) ?_
        exact h2a2a2
set_option maxRecDepth 8000 in
theorem st101_0 (kz : am_Z) (d : Nat) (x0 x1 : Int) (U : Nat → Nat → Int) (R : Option am_V × am_M) (h : R = (some (.inl (am_and (am_shr x0 (w32 (25 - (w32 (5 * x1))))) 31)), (am_sh, am_mm U))) : Ev kz (d, 101, 0, [some (.inl x0), some (.inl x1)], [], (am_sh, am_mm U)) R := by
  subst h
  exact ev_end 10 (fun _ => rfl)
set_option maxRecDepth 8000 in
theorem st102_1_0 (kz : am_Z) (d : Nat) (x1 : Int) (U : Nat → Nat → Int) (R : Option am_V × am_M) (h : (((x1 < 0 : Prop)) → R = (some (.inl 0), (am_sh, am_mm U))) ∧ (¬ (x1 < 0) → ((((U 3 1) ≤ x1 : Prop)) → R = (some (.inl 0), (am_sh, am_mm U))) ∧ (¬ ((U 3 1) ≤ x1) → R = (some (.inl 1), (am_sh, am_mm U))))) : Ev kz (d, 102, 0, [some (.inr (.inr 1)), some (.inl x1)], [], (am_sh, am_mm U)) R := by
  refine ev_br (P := x1 < 0) (σ1 := (d, 102, 19, [some (.inr (.inr 1)), some (.inl x1)], [], (am_sh, am_mm U))) (σ2 := (d, 102, 4, [some (.inr (.inr 1)), some (.inl x1)], [], (am_sh, am_mm U))) 2 (fun _ => rfl) (fun hc => ?_) (fun hc => ?_)
  · have h1 := h.1 hc
    subst h1
    exact ev_end 2 (fun _ => rfl)
  · have h2 := h.2 hc
    refine ev_br (P := (U 3 1) ≤ x1) (σ1 := (d, 102, 19, [some (.inr (.inr 1)), some (.inl x1)], [], (am_sh, am_mm U))) (σ2 := (d, 102, 15, [some (.inr (.inr 1)), some (.inl x1)], [], (am_sh, am_mm U))) 5 (fun _ => rfl) (fun hc => ?_) (fun hc => ?_)
    · have h21 := h2.1 hc
      subst h21
      exact ev_end 2 (fun _ => rfl)
    · have h22 := h2.2 hc
      subst h22
      exact ev_end 3 (fun _ => rfl)
set_option maxRecDepth 8000 in
theorem st105_86_0 (kz : am_Z) (d : Nat) (x1 x2 x3 : Int) (U : Nat → Nat → Int) (R : Option am_V × am_M) (h : (((¬ x2 = 0 : Prop)) → (0 ≤ (w32 ((w32 (12 * x1)) + x3)) ∧ (w32 ((w32 (12 * x1)) + x3)) < 24) ∧ R = (some (.inr (.inl (U 91 (w32 ((w32 (12 * x1)) + x3)).toNat))), (am_sh, am_mm U))) ∧ (¬ (¬ x2 = 0) → (0 ≤ (w32 ((w32 (4 * x1)) + x3)) ∧ (w32 ((w32 (4 * x1)) + x3)) < 8) ∧ R = (some (.inr (.inl (U 89 (w32 ((w32 (4 * x1)) + x3)).toNat))), (am_sh, am_mm U)))) : Ev kz (d, 105, 0, [some (.inr (.inr 86)), some (.inl x1), some (.inl x2), some (.inl x3)], [], (am_sh, am_mm U)) R := by
  refine ev_br (P := ¬ x2 = 0) (σ1 := (d, 105, 17, [some (.inr (.inr 86)), some (.inl x1), some (.inl x2), some (.inl x3)], [], (am_sh, am_mm U))) (σ2 := (d, 105, 4, [some (.inr (.inr 86)), some (.inl x1), some (.inl x2), some (.inl x3)], [], (am_sh, am_mm U))) 2 (fun _ => rfl) (fun hc => ?_) (fun hc => ?_)
  · have h1 := h.1 hc
    refine ev_seg (σ1 := (d, 105, 27, [some (.inr (.inr 86)), some (.inl x1), some (.inl x2), some (.inl x3)], [.inl (w32 ((w32 (12 * x1)) + x3)), .inr (.inr 91)], (am_sh, am_mm U))) 7 (fun _ => rfl) ?_
    refine eu_lald 91 (n := 24) rfl (by decide) rfl (fun _ => rfl) h1.1 ?_
    have h1a := h1.2
    subst h1a
    exact ev_end 1 (fun _ => rfl)
  · have h2 := h.2 hc
    refine ev_seg (σ1 := (d, 105, 13, [some (.inr (.inr 86)), some (.inl x1), some (.inl x2), some (.inl x3)], [.inl (w32 ((w32 (4 * x1)) + x3)), .inr (.inr 89)], (am_sh, am_mm U))) 7 (fun _ => rfl) ?_
    refine eu_lald 89 (n := 8) rfl (by decide) rfl (fun _ => rfl) h2.1 ?_
    have h2a := h2.2
    subst h2a
    exact ev_end 2 (fun _ => rfl)
set_option maxRecDepth 8000 in
theorem st104_86_0 (kz : am_Z) (d : Nat) (x1 x2 : Int) (U : Nat → Nat → Int) (R : Option am_V × am_M) (h : (((¬ x2 = 0 : Prop)) → (0 ≤ x1 ∧ x1 < 2) ∧ R = (some (.inl (U 90 x1.toNat)), (am_sh, am_mm U))) ∧ (¬ (¬ x2 = 0) → (0 ≤ x1 ∧ x1 < 2) ∧ R = (some (.inl (U 88 x1.toNat)), (am_sh, am_mm U)))) : Ev kz (d, 104, 0, [some (.inr (.inr 86)), some (.inl x1), some (.inl x2)], [], (am_sh, am_mm U)) R := by
  refine ev_br (P := ¬ x2 = 0) (σ1 := (d, 104, 13, [some (.inr (.inr 86)), some (.inl x1), some (.inl x2)], [], (am_sh, am_mm U))) (σ2 := (d, 104, 4, [some (.inr (.inr 86)), some (.inl x1), some (.inl x2)], [], (am_sh, am_mm U))) 2 (fun _ => rfl) (fun hc => ?_) (fun hc => ?_)
  · have h1 := h.1 hc
    refine ev_seg (σ1 := (d, 104, 18, [some (.inr (.inr 86)), some (.inl x1), some (.inl x2)], [.inl x1, .inr (.inr 90)], (am_sh, am_mm U))) 3 (fun _ => rfl) ?_
    refine eu_iald 90 (n := 2) rfl (by decide) rfl (fun _ => rfl) h1.1 ?_
    have h1a := h1.2
    subst h1a
    exact ev_end 1 (fun _ => rfl)
  · have h2 := h.2 hc
    refine ev_seg (σ1 := (d, 104, 9, [some (.inr (.inr 86)), some (.inl x1), some (.inl x2)], [.inl x1, .inr (.inr 88)], (am_sh, am_mm U))) 3 (fun _ => rfl) ?_
    refine eu_iald 88 (n := 2) rfl (by decide) rfl (fun _ => rfl) h2.1 ?_
    have h2a := h2.2
    subst h2a
    exact ev_end 2 (fun _ => rfl)
set_option maxRecDepth 8000 in
theorem st103_0 (kz : am_Z) (d : Nat) (x0 x1 x2 : Int) (U : Nat → Nat → Int) (R : Option am_V × am_M) (h : (((x0 < x1 : Prop)) → R = (some (.inl 0), (am_sh, am_mm U))) ∧ (¬ (x0 < x1) → (((x2 < x0 : Prop)) → R = (some (.inl 0), (am_sh, am_mm U))) ∧ (¬ (x2 < x0) → R = (some (.inl 1), (am_sh, am_mm U))))) : Ev kz (d, 103, 0, [some (.inl x0), some (.inl x1), some (.inl x2)], [], (am_sh, am_mm U)) R := by
  refine ev_br (P := x0 < x1) (σ1 := (d, 103, 14, [some (.inl x0), some (.inl x1), some (.inl x2)], [], (am_sh, am_mm U))) (σ2 := (d, 103, 5, [some (.inl x0), some (.inl x1), some (.inl x2)], [], (am_sh, am_mm U))) 3 (fun _ => rfl) (fun hc => ?_) (fun hc => ?_)
  · have h1 := h.1 hc
    subst h1
    exact ev_end 2 (fun _ => rfl)
  · have h2 := h.2 hc
    refine ev_br (P := x2 < x0) (σ1 := (d, 103, 14, [some (.inl x0), some (.inl x1), some (.inl x2)], [], (am_sh, am_mm U))) (σ2 := (d, 103, 10, [some (.inl x0), some (.inl x1), some (.inl x2)], [], (am_sh, am_mm U))) 3 (fun _ => rfl) (fun hc => ?_) (fun hc => ?_)
    · have h21 := h2.1 hc
      subst h21
      exact ev_end 2 (fun _ => rfl)
    · have h22 := h2.2 hc
      subst h22
      exact ev_end 3 (fun _ => rfl)
set_option maxRecDepth 8000 in
theorem st114_1_0 (kz : am_Z) (d : Nat) (x1 : Int) (U : Nat → Nat → Int) (R : Option am_V × am_M) (h : (((x1 < 0 : Prop)) → R = (some (.inl 0), (am_sh, am_mm U))) ∧ (¬ (x1 < 0) → ((((U 16 0) ≤ x1 : Prop)) → R = (some (.inl 0), (am_sh, am_mm U))) ∧ (¬ ((U 16 0) ≤ x1) → R = (some (.inl 1), (am_sh, am_mm U))))) : Ev kz (d, 114, 0, [some (.inr (.inr 1)), some (.inl x1)], [], (am_sh, am_mm U)) R := by
  refine ev_br (P := x1 < 0) (σ1 := (d, 114, 19, [some (.inr (.inr 1)), some (.inl x1)], [], (am_sh, am_mm U))) (σ2 := (d, 114, 4, [some (.inr (.inr 1)), some (.inl x1)], [], (am_sh, am_mm U))) 2 (fun _ => rfl) (fun hc => ?_) (fun hc => ?_)
  · have h1 := h.1 hc
    subst h1
    exact ev_end 2 (fun _ => rfl)
  · have h2 := h.2 hc
    refine ev_br (P := (U 16 0) ≤ x1) (σ1 := (d, 114, 19, [some (.inr (.inr 1)), some (.inl x1)], [], (am_sh, am_mm U))) (σ2 := (d, 114, 15, [some (.inr (.inr 1)), some (.inl x1)], [], (am_sh, am_mm U))) 5 (fun _ => rfl) (fun hc => ?_) (fun hc => ?_)
    · have h21 := h2.1 hc
      subst h21
      exact ev_end 2 (fun _ => rfl)
    · have h22 := h2.2 hc
      subst h22
      exact ev_end 3 (fun _ => rfl)
set_option maxRecDepth 8000 in
theorem st115_86_0 (kz : am_Z) (d : Nat) (x1 : Int) (U : Nat → Nat → Int) (R : Option am_V × am_M) (h : (((x1 < 0 : Prop)) → R = (some (.inl 0), (am_sh, am_mm U))) ∧ (¬ (x1 < 0) → ((((U 122 0) ≤ x1 : Prop)) → R = (some (.inl 0), (am_sh, am_mm U))) ∧ (¬ ((U 122 0) ≤ x1) → R = (some (.inl 1), (am_sh, am_mm U))))) : Ev kz (d, 115, 0, [some (.inr (.inr 86)), some (.inl x1)], [], (am_sh, am_mm U)) R := by
  refine ev_br (P := x1 < 0) (σ1 := (d, 115, 18, [some (.inr (.inr 86)), some (.inl x1)], [], (am_sh, am_mm U))) (σ2 := (d, 115, 4, [some (.inr (.inr 86)), some (.inl x1)], [], (am_sh, am_mm U))) 2 (fun _ => rfl) (fun hc => ?_) (fun hc => ?_)
  · have h1 := h.1 hc
    subst h1
    exact ev_end 2 (fun _ => rfl)
  · have h2 := h.2 hc
    refine ev_seg (σ1 := (d, 115, 10, [some (.inr (.inr 86)), some (.inl x1)], [.inl 0, .inr (.inr 122), .inl x1], (am_sh, am_mm U))) 4 (fun _ => rfl) ?_
    refine eu_iald 122 (n := 22) rfl (by decide) rfl (fun _ => rfl) (by decide) ?_
    show Ev kz (d, 115, 11, [some (.inr (.inr 86)), some (.inl x1)], [.inl (U 122 0), .inl x1], (am_sh, am_mm U)) R
    refine ev_br (P := (U 122 0) ≤ x1) (σ1 := (d, 115, 18, [some (.inr (.inr 86)), some (.inl x1)], [], (am_sh, am_mm U))) (σ2 := (d, 115, 14, [some (.inr (.inr 86)), some (.inl x1)], [], (am_sh, am_mm U))) 1 (fun _ => rfl) (fun hc => ?_) (fun hc => ?_)
    · have h21 := h2.1 hc
      subst h21
      exact ev_end 2 (fun _ => rfl)
    · have h22 := h2.2 hc
      subst h22
      exact ev_end 3 (fun _ => rfl)
set_option maxRecDepth 8000 in
theorem st100_86_0 (kz : am_Z) (d : Nat) (x1 x2 x3 : Int) (U : Nat → Nat → Int) (R : Option am_V × am_M) (h : Ev kz ((d + 1), 100, 13, [some (.inr (.inr 86)), some (.inl x1), some (.inl x2), some (.inl x3), some (.inl 0), none, none, none], [], (am_sh, am_mm (am_upd (am_upd U 86 67 0) 86 64 (-1)))) R) : Ev kz ((d + 1), 100, 0, [some (.inr (.inr 86)), some (.inl x1), some (.inl x2), some (.inl x3), none, none, none, none], [], (am_sh, am_mm U)) R := by
  refine ev_seg (σ1 := ((d + 1), 100, 2, [some (.inr (.inr 86)), some (.inl x1), some (.inl x2), some (.inl x3), none, none, none, none], [.inl 0, .inr (.inr 86)], (am_sh, am_mm U))) 2 (fun _ => rfl) ?_
  refine eu_puti 86 (n := 90) rfl (by decide) rfl rfl ?_
  refine ev_seg (σ1 := ((d + 1), 100, 7, [some (.inr (.inr 86)), some (.inl x1), some (.inl x2), some (.inl x3), none, none, none, none], [.inl (-1), .inr (.inr 86)], (am_sh, am_mm (am_upd U 86 67 0)))) 2 (fun _ => rfl) ?_
  refine eu_puti 86 (n := 90) rfl (by decide) rfl rfl ?_
  refine ev_seg (σ1 := ((d + 1), 100, 13, [some (.inr (.inr 86)), some (.inl x1), some (.inl x2), some (.inl x3), some (.inl 0), none, none, none], [], (am_sh, am_mm (am_upd (am_upd U 86 67 0) 86 64 (-1))))) 2 (fun _ => rfl) ?_
  exact h
set_option maxRecDepth 8000 in
theorem st100_86_13 (kz : am_Z) (d : Nat) (x1 x2 x3 x4 : Int) (U : Nat → Nat → Int) (R : Option am_V × am_M) (h : (0 ≤ (U 86 13) ∧ (U 86 13) < 2) ∧ ((((U 100 (U 86 13).toNat) ≤ x4 : Prop)) → R = (some (.inl (U 86 67)), (am_sh, am_mm U))) ∧ (¬ ((U 100 (U 86 13).toNat) ≤ x4) → (0 ≤ (w32 ((w32 (8 * (U 86 13))) + x4)) ∧ (w32 ((w32 (8 * (U 86 13))) + x4)) < 16) ∧ Ev kz ((d + 1), 100, 47, [some (.inr (.inr 86)), some (.inl x1), some (.inl x2), some (.inl x3), some (.inl x4), some (.inl (U 101 (w32 ((w32 (8 * (U 86 13))) + x4)).toNat)), some (.inl 0), none], [], (am_sh, am_mm U)) R)) : Ev kz ((d + 1), 100, 13, [some (.inr (.inr 86)), some (.inl x1), some (.inl x2), some (.inl x3), some (.inl x4), none, none, none], [], (am_sh, am_mm U)) R := by
  refine ev_seg (σ1 := ((d + 1), 100, 23, [some (.inr (.inr 86)), some (.inl x1), some (.inl x2), some (.inl x3), some (.inl x4), none, none, none], [.inl (U 86 13), .inr (.inr 100), .inl x4], (am_sh, am_mm U))) 5 (fun _ => rfl) ?_
  refine eu_iald 100 (n := 2) rfl (by decide) rfl (fun _ => rfl) h.1 ?_
  have ha := h.2
  refine ev_br (P := (U 100 (U 86 13).toNat) ≤ x4) (σ1 := ((d + 1), 100, 211, [some (.inr (.inr 86)), some (.inl x1), some (.inl x2), some (.inl x3), some (.inl x4), none, none, none], [], (am_sh, am_mm U))) (σ2 := ((d + 1), 100, 27, [some (.inr (.inr 86)), some (.inl x1), some (.inl x2), some (.inl x3), some (.inl x4), none, none, none], [], (am_sh, am_mm U))) 1 (fun _ => rfl) (fun hc => ?_) (fun hc => ?_)
  · have ha1 := ha.1 hc
    subst ha1
    exact ev_end 3 (fun _ => rfl)
  · have ha2 := ha.2 hc
    refine ev_seg (σ1 := ((d + 1), 100, 41, [some (.inr (.inr 86)), some (.inl x1), some (.inl x2), some (.inl x3), some (.inl x4), none, none, none], [.inl (w32 ((w32 (8 * (U 86 13))) + x4)), .inr (.inr 101)], (am_sh, am_mm U))) 8 (fun _ => rfl) ?_
    refine eu_iald 101 (n := 16) rfl (by decide) rfl (fun _ => rfl) ha2.1 ?_
    have ha2a := ha2.2
    refine ev_seg (σ1 := ((d + 1), 100, 47, [some (.inr (.inr 86)), some (.inl x1), some (.inl x2), some (.inl x3), some (.inl x4), some (.inl (U 101 (w32 ((w32 (8 * (U 86 13))) + x4)).toNat)), some (.inl 0), none], [], (am_sh, am_mm U))) 3 (fun _ => rfl) ?_
    exact ha2a
set_option maxRecDepth 8000 in
theorem st100_86_47 (kz : am_Z) (d : Nat) (x1 x2 x3 x4 x5 x6 : Int) (U : Nat → Nat → Int) (R : Option am_V × am_M) (h : (0 ≤ x1 ∧ x1 < 22) ∧ ((((U 122 x1.toNat) ≤ x6 : Prop)) → Ev kz ((d + 1), 100, 13, [some (.inr (.inr 86)), some (.inl x1), some (.inl x2), some (.inl x3), some (.inl (w32 (x4 + 1))), some (.inl x5), some (.inl x6), none], [], (am_sh, am_mm U)) R) ∧ (¬ ((U 122 x1.toNat) ≤ x6) → ∃ (r1 : Int) (U1 : Nat → Nat → Int), Ev kz (d, 200, 0, [some (.inr (.inr 86)), some (.inl x1), some (.inl x6)], [], (am_sh, am_mm U)) (some (.inl r1), (am_sh, am_mm U1)) ∧ (((¬ r1 = (-1) : Prop)) → (((¬ x5 = 0 : Prop)) → Ev kz ((d + 1), 100, 117, [some (.inr (.inr 86)), some (.inl x1), some (.inl x2), some (.inl x3), some (.inl x4), some (.inl x5), some (.inl x6), some (.inl 0)], [], (am_sh, am_mm U1)) R) ∧ (¬ (¬ x5 = 0) → (((x2 = (-1) : Prop)) → ∃ (r2 : Int) (U2 : Nat → Nat → Int), Ev kz (d, 136, 0, [some (.inr (.inr 86)), some (.inl x1), some (.inl x4), some (.inl x6), some (.inr (.inl 0)), none], [], (am_sh, am_mm U1)) (some (.inl r2), (am_sh, am_mm U2)) ∧ (((¬ r2 = 0 : Prop)) → Ev kz ((d + 1), 100, 47, [some (.inr (.inr 86)), some (.inl x1), some (.inl x2), some (.inl x3), some (.inl x4), some (.inl x5), some (.inl (w32 (x6 + 1))), none], [], (am_sh, am_mm U2)) R) ∧ (¬ (¬ r2 = 0) → ∃ U3 : Nat → Nat → Int, Ev kz (d, 201, 0, [some (.inr (.inr 86)), some (.inl x4), some (.inl x6), some (.inl (-1)), some (.inl x3)], [], (am_sh, am_mm U2)) (none, (am_sh, am_mm U3)) ∧ Ev kz ((d + 1), 100, 47, [some (.inr (.inr 86)), some (.inl x1), some (.inl x2), some (.inl x3), some (.inl x4), some (.inl x5), some (.inl (w32 (x6 + 1))), none], [], (am_sh, am_mm U3)) R)) ∧ (¬ (x2 = (-1)) → (((¬ x2 = x6 : Prop)) → Ev kz ((d + 1), 100, 47, [some (.inr (.inr 86)), some (.inl x1), some (.inl x2), some (.inl x3), some (.inl x4), some (.inl x5), some (.inl (w32 (x6 + 1))), none], [], (am_sh, am_mm U1)) R) ∧ (¬ (¬ x2 = x6) → ∃ (r4 : Int) (U4 : Nat → Nat → Int), Ev kz (d, 136, 0, [some (.inr (.inr 86)), some (.inl x1), some (.inl x4), some (.inl x6), some (.inr (.inl 0)), none], [], (am_sh, am_mm U1)) (some (.inl r4), (am_sh, am_mm U4)) ∧ (((¬ r4 = 0 : Prop)) → Ev kz ((d + 1), 100, 47, [some (.inr (.inr 86)), some (.inl x1), some (.inl x2), some (.inl x3), some (.inl x4), some (.inl x5), some (.inl (w32 (x6 + 1))), none], [], (am_sh, am_mm U4)) R) ∧ (¬ (¬ r4 = 0) → ∃ U5 : Nat → Nat → Int, Ev kz (d, 201, 0, [some (.inr (.inr 86)), some (.inl x4), some (.inl x6), some (.inl (-1)), some (.inl x3)], [], (am_sh, am_mm U4)) (none, (am_sh, am_mm U5)) ∧ Ev kz ((d + 1), 100, 47, [some (.inr (.inr 86)), some (.inl x1), some (.inl x2), some (.inl x3), some (.inl x4), some (.inl x5), some (.inl (w32 (x6 + 1))), none], [], (am_sh, am_mm U5)) R))))) ∧ (¬ (¬ r1 = (-1)) → Ev kz ((d + 1), 100, 47, [some (.inr (.inr 86)), some (.inl x1), some (.inl x2), some (.inl x3), some (.inl x4), some (.inl x5), some (.inl (w32 (x6 + 1))), none], [], (am_sh, am_mm U1)) R))) : Ev kz ((d + 1), 100, 47, [some (.inr (.inr 86)), some (.inl x1), some (.inl x2), some (.inl x3), some (.inl x4), some (.inl x5), some (.inl x6), none], [], (am_sh, am_mm U)) R := by
  refine ev_seg (σ1 := ((d + 1), 100, 54, [some (.inr (.inr 86)), some (.inl x1), some (.inl x2), some (.inl x3), some (.inl x4), some (.inl x5), some (.inl x6), none], [.inl x1, .inr (.inr 122), .inl x6], (am_sh, am_mm U))) 4 (fun _ => rfl) ?_
  refine eu_iald 122 (n := 22) rfl (by decide) rfl (fun _ => rfl) h.1 ?_
  have ha := h.2
  refine ev_br (P := (U 122 x1.toNat) ≤ x6) (σ1 := ((d + 1), 100, 205, [some (.inr (.inr 86)), some (.inl x1), some (.inl x2), some (.inl x3), some (.inl x4), some (.inl x5), some (.inl x6), none], [], (am_sh, am_mm U))) (σ2 := ((d + 1), 100, 58, [some (.inr (.inr 86)), some (.inl x1), some (.inl x2), some (.inl x3), some (.inl x4), some (.inl x5), some (.inl x6), none], [], (am_sh, am_mm U))) 1 (fun _ => rfl) (fun hc => ?_) (fun hc => ?_)
  · have ha1 := ha.1 hc
    refine ev_seg (σ1 := ((d + 1), 100, 13, [some (.inr (.inr 86)), some (.inl x1), some (.inl x2), some (.inl x3), some (.inl (w32 (x4 + 1))), some (.inl x5), some (.inl x6), none], [], (am_sh, am_mm U))) 2 (fun _ => rfl) ?_
    exact ha1
  · have ha2 := ha.2 hc
    refine ev_seg (σ1 := ((d + 1), 100, 62, [some (.inr (.inr 86)), some (.inl x1), some (.inl x2), some (.inl x3), some (.inl x4), some (.inl x5), some (.inl x6), none], [.inl x6, .inl x1, .inr (.inr 86)], (am_sh, am_mm U))) 3 (fun _ => rfl) ?_
    obtain ⟨r1, U1, ha2c, ha2a⟩ := ha2
    refine ev_cal (σc := (d, 200, 0, [some (.inr (.inr 86)), some (.inl x1), some (.inl x6)], [], (am_sh, am_mm U))) (fun _ => rfl) ha2c ?_
    show Ev kz ((d + 1), 100, 65, [some (.inr (.inr 86)), some (.inl x1), some (.inl x2), some (.inl x3), some (.inl x4), some (.inl x5), some (.inl x6), none], [.inl r1], (am_sh, am_mm U1)) R
    refine ev_br (P := ¬ r1 = (-1)) (σ1 := ((d + 1), 100, 72, [some (.inr (.inr 86)), some (.inl x1), some (.inl x2), some (.inl x3), some (.inl x4), some (.inl x5), some (.inl x6), none], [], (am_sh, am_mm U1))) (σ2 := ((d + 1), 100, 69, [some (.inr (.inr 86)), some (.inl x1), some (.inl x2), some (.inl x3), some (.inl x4), some (.inl x5), some (.inl x6), none], [], (am_sh, am_mm U1))) 2 (fun _ => rfl) (fun hc => ?_) (fun hc => ?_)
    · have ha2a1 := ha2a.1 hc
      refine ev_br (P := ¬ x5 = 0) (σ1 := ((d + 1), 100, 114, [some (.inr (.inr 86)), some (.inl x1), some (.inl x2), some (.inl x3), some (.inl x4), some (.inl x5), some (.inl x6), none], [], (am_sh, am_mm U1))) (σ2 := ((d + 1), 100, 77, [some (.inr (.inr 86)), some (.inl x1), some (.inl x2), some (.inl x3), some (.inl x4), some (.inl x5), some (.inl x6), none], [], (am_sh, am_mm U1))) 2 (fun _ => rfl) (fun hc => ?_) (fun hc => ?_)
      · have ha2a11 := ha2a1.1 hc
        refine ev_seg (σ1 := ((d + 1), 100, 117, [some (.inr (.inr 86)), some (.inl x1), some (.inl x2), some (.inl x3), some (.inl x4), some (.inl x5), some (.inl x6), some (.inl 0)], [], (am_sh, am_mm U1))) 2 (fun _ => rfl) ?_
        exact ha2a11
      · have ha2a12 := ha2a1.2 hc
        refine ev_br (P := x2 = (-1)) (σ1 := ((d + 1), 100, 88, [some (.inr (.inr 86)), some (.inl x1), some (.inl x2), some (.inl x3), some (.inl x4), some (.inl x5), some (.inl x6), none], [], (am_sh, am_mm U1))) (σ2 := ((d + 1), 100, 82, [some (.inr (.inr 86)), some (.inl x1), some (.inl x2), some (.inl x3), some (.inl x4), some (.inl x5), some (.inl x6), none], [], (am_sh, am_mm U1))) 3 (fun _ => rfl) (fun hc => ?_) (fun hc => ?_)
        · have ha2a121 := ha2a12.1 hc
          refine ev_seg (σ1 := ((d + 1), 100, 95, [some (.inr (.inr 86)), some (.inl x1), some (.inl x2), some (.inl x3), some (.inl x4), some (.inl x5), some (.inl x6), none], [.inr (.inl 0), .inl x6, .inl x4, .inl x1, .inr (.inr 86)], (am_sh, am_mm U1))) 5 (fun _ => rfl) ?_
          obtain ⟨r2, U2, ha2a121c, ha2a121a⟩ := ha2a121
          refine ev_cal (σc := (d, 136, 0, [some (.inr (.inr 86)), some (.inl x1), some (.inl x4), some (.inl x6), some (.inr (.inl 0)), none], [], (am_sh, am_mm U1))) (fun _ => rfl) ha2a121c ?_
          show Ev kz ((d + 1), 100, 98, [some (.inr (.inr 86)), some (.inl x1), some (.inl x2), some (.inl x3), some (.inl x4), some (.inl x5), some (.inl x6), none], [.inl r2], (am_sh, am_mm U2)) R
          refine ev_br (P := ¬ r2 = 0) (σ1 := ((d + 1), 100, 199, [some (.inr (.inr 86)), some (.inl x1), some (.inl x2), some (.inl x3), some (.inl x4), some (.inl x5), some (.inl x6), none], [], (am_sh, am_mm U2))) (σ2 := ((d + 1), 100, 101, [some (.inr (.inr 86)), some (.inl x1), some (.inl x2), some (.inl x3), some (.inl x4), some (.inl x5), some (.inl x6), none], [], (am_sh, am_mm U2))) 1 (fun _ => rfl) (fun hc => ?_) (fun hc => ?_)
          · have ha2a121a1 := ha2a121a.1 hc
            refine ev_seg (σ1 := ((d + 1), 100, 47, [some (.inr (.inr 86)), some (.inl x1), some (.inl x2), some (.inl x3), some (.inl x4), some (.inl x5), some (.inl (w32 (x6 + 1))), none], [], (am_sh, am_mm U2))) 2 (fun _ => rfl) ?_
            exact ha2a121a1
          · have ha2a121a2 := ha2a121a.2 hc
            refine ev_seg (σ1 := ((d + 1), 100, 108, [some (.inr (.inr 86)), some (.inl x1), some (.inl x2), some (.inl x3), some (.inl x4), some (.inl x5), some (.inl x6), none], [.inl x3, .inl (-1), .inl x6, .inl x4, .inr (.inr 86)], (am_sh, am_mm U2))) 5 (fun _ => rfl) ?_
            obtain ⟨U3, ha2a121a2c, ha2a121a2a⟩ := ha2a121a2
            refine ev_cal (σc := (d, 201, 0, [some (.inr (.inr 86)), some (.inl x4), some (.inl x6), some (.inl (-1)), some (.inl x3)], [], (am_sh, am_mm U2))) (fun _ => rfl) ha2a121a2c ?_
            show Ev kz ((d + 1), 100, 111, [some (.inr (.inr 86)), some (.inl x1), some (.inl x2), some (.inl x3), some (.inl x4), some (.inl x5), some (.inl x6), none], [], (am_sh, am_mm U3)) R
            refine ev_seg (σ1 := ((d + 1), 100, 47, [some (.inr (.inr 86)), some (.inl x1), some (.inl x2), some (.inl x3), some (.inl x4), some (.inl x5), some (.inl (w32 (x6 + 1))), none], [], (am_sh, am_mm U3))) 3 (fun _ => rfl) ?_
            exact ha2a121a2a
        · have ha2a122 := ha2a12.2 hc
          refine ev_br (P := ¬ x2 = x6) (σ1 := ((d + 1), 100, 199, [some (.inr (.inr 86)), some (.inl x1), some (.inl x2), some (.inl x3), some (.inl x4), some (.inl x5), some (.inl x6), none], [], (am_sh, am_mm U1))) (σ2 := ((d + 1), 100, 88, [some (.inr (.inr 86)), some (.inl x1), some (.inl x2), some (.inl x3), some (.inl x4), some (.inl x5), some (.inl x6), none], [], (am_sh, am_mm U1))) 3 (fun _ => rfl) (fun hc => ?_) (fun hc => ?_)
          · have ha2a1221 := ha2a122.1 hc
            refine ev_seg (σ1 := ((d + 1), 100, 47, [some (.inr (.inr 86)), some (.inl x1), some (.inl x2), some (.inl x3), some (.inl x4), some (.inl x5), some (.inl (w32 (x6 + 1))), none], [], (am_sh, am_mm U1))) 2 (fun _ => rfl) ?_
            exact ha2a1221
          · have ha2a1222 := ha2a122.2 hc
            refine ev_seg (σ1 := ((d + 1), 100, 95, [some (.inr (.inr 86)), some (.inl x1), some (.inl x2), some (.inl x3), some (.inl x4), some (.inl x5), some (.inl x6), none], [.inr (.inl 0), .inl x6, .inl x4, .inl x1, .inr (.inr 86)], (am_sh, am_mm U1))) 5 (fun _ => rfl) ?_
            obtain ⟨r4, U4, ha2a1222c, ha2a1222a⟩ := ha2a1222
            refine ev_cal (σc := (d, 136, 0, [some (.inr (.inr 86)), some (.inl x1), some (.inl x4), some (.inl x6), some (.inr (.inl 0)), none], [], (am_sh, am_mm U1))) (fun _ => rfl) ha2a1222c ?_
            show Ev kz ((d + 1), 100, 98, [some (.inr (.inr 86)), some (.inl x1), some (.inl x2), some (.inl x3), some (.inl x4), some (.inl x5), some (.inl x6), none], [.inl r4], (am_sh, am_mm U4)) R
            refine ev_br (P := ¬ r4 = 0) (σ1 := ((d + 1), 100, 199, [some (.inr (.inr 86)), some (.inl x1), some (.inl x2), some (.inl x3), some (.inl x4), some (.inl x5), some (.inl x6), none], [], (am_sh, am_mm U4))) (σ2 := ((d + 1), 100, 101, [some (.inr (.inr 86)), some (.inl x1), some (.inl x2), some (.inl x3), some (.inl x4), some (.inl x5), some (.inl x6), none], [], (am_sh, am_mm U4))) 1 (fun _ => rfl) (fun hc => ?_) (fun hc => ?_)
            · have ha2a1222a1 := ha2a1222a.1 hc
              refine ev_seg (σ1 := ((d + 1), 100, 47, [some (.inr (.inr 86)), some (.inl x1), some (.inl x2), some (.inl x3), some (.inl x4), some (.inl x5), some (.inl (w32 (x6 + 1))), none], [], (am_sh, am_mm U4))) 2 (fun _ => rfl) ?_
              exact ha2a1222a1
            · have ha2a1222a2 := ha2a1222a.2 hc
              refine ev_seg (σ1 := ((d + 1), 100, 108, [some (.inr (.inr 86)), some (.inl x1), some (.inl x2), some (.inl x3), some (.inl x4), some (.inl x5), some (.inl x6), none], [.inl x3, .inl (-1), .inl x6, .inl x4, .inr (.inr 86)], (am_sh, am_mm U4))) 5 (fun _ => rfl) ?_
              obtain ⟨U5, ha2a1222a2c, ha2a1222a2a⟩ := ha2a1222a2
              refine ev_cal (σc := (d, 201, 0, [some (.inr (.inr 86)), some (.inl x4), some (.inl x6), some (.inl (-1)), some (.inl x3)], [], (am_sh, am_mm U4))) (fun _ => rfl) ha2a1222a2c ?_
              show Ev kz ((d + 1), 100, 111, [some (.inr (.inr 86)), some (.inl x1), some (.inl x2), some (.inl x3), some (.inl x4), some (.inl x5), some (.inl x6), none], [], (am_sh, am_mm U5)) R
              refine ev_seg (σ1 := ((d + 1), 100, 47, [some (.inr (.inr 86)), some (.inl x1), some (.inl x2), some (.inl x3), some (.inl x4), some (.inl x5), some (.inl (w32 (x6 + 1))), none], [], (am_sh, am_mm U5))) 3 (fun _ => rfl) ?_
              exact ha2a1222a2a
    · have ha2a2 := ha2a.2 hc
      refine ev_seg (σ1 := ((d + 1), 100, 47, [some (.inr (.inr 86)), some (.inl x1), some (.inl x2), some (.inl x3), some (.inl x4), some (.inl x5), some (.inl (w32 (x6 + 1))), none], [], (am_sh, am_mm U1))) 3 (fun _ => rfl) ?_
      exact ha2a2
set_option maxRecDepth 8000 in
theorem st100_86_117 (kz : am_Z) (d : Nat) (x1 x2 x3 x4 x5 x6 x7 : Int) (U : Nat → Nat → Int) (R : Option am_V × am_M) (h : (0 ≤ x1 ∧ x1 < 22) ∧ ((((U 122 x1.toNat) ≤ x7 : Prop)) → Ev kz ((d + 1), 100, 47, [some (.inr (.inr 86)), some (.inl x1), some (.inl x2), some (.inl x3), some (.inl x4), some (.inl x5), some (.inl (w32 (x6 + 1))), some (.inl x7)], [], (am_sh, am_mm U)) R) ∧ (¬ ((U 122 x1.toNat) ≤ x7) → (((x2 = (-1) : Prop)) → ∃ (r1 : Int) (U1 : Nat → Nat → Int), Ev kz (d, 202, 0, [some (.inr (.inr 86)), some (.inl x1), some (.inl x5), some (.inl x6), some (.inl x7), none, none], [], (am_sh, am_mm U)) (some (.inl r1), (am_sh, am_mm U1)) ∧ (((¬ r1 = 0 : Prop)) → ∃ (r2 : Int) (U2 : Nat → Nat → Int), Ev kz (d, 203, 0, [some (.inr (.inr 86)), some (.inl x1), some (.inl x7)], [], (am_sh, am_mm U1)) (some (.inl r2), (am_sh, am_mm U2)) ∧ ∃ (r3 : Int) (U3 : Nat → Nat → Int), Ev kz (d, 136, 0, [some (.inr (.inr 86)), some (.inl x1), some (.inl x4), some (.inl x6), some (.inr (.inl r2)), none], [], (am_sh, am_mm U2)) (some (.inl r3), (am_sh, am_mm U3)) ∧ (((¬ r3 = 0 : Prop)) → Ev kz ((d + 1), 100, 117, [some (.inr (.inr 86)), some (.inl x1), some (.inl x2), some (.inl x3), some (.inl x4), some (.inl x5), some (.inl x6), some (.inl (w32 (x7 + 1)))], [], (am_sh, am_mm U3)) R) ∧ (¬ (¬ r3 = 0) → ∃ U4 : Nat → Nat → Int, Ev kz (d, 201, 0, [some (.inr (.inr 86)), some (.inl x4), some (.inl x6), some (.inl x7), some (.inl x3)], [], (am_sh, am_mm U3)) (none, (am_sh, am_mm U4)) ∧ Ev kz ((d + 1), 100, 117, [some (.inr (.inr 86)), some (.inl x1), some (.inl x2), some (.inl x3), some (.inl x4), some (.inl x5), some (.inl x6), some (.inl (w32 (x7 + 1)))], [], (am_sh, am_mm U4)) R)) ∧ (¬ (¬ r1 = 0) → Ev kz ((d + 1), 100, 117, [some (.inr (.inr 86)), some (.inl x1), some (.inl x2), some (.inl x3), some (.inl x4), some (.inl x5), some (.inl x6), some (.inl (w32 (x7 + 1)))], [], (am_sh, am_mm U1)) R)) ∧ (¬ (x2 = (-1)) → (((x2 = x6 : Prop)) → ∃ (r5 : Int) (U5 : Nat → Nat → Int), Ev kz (d, 202, 0, [some (.inr (.inr 86)), some (.inl x1), some (.inl x5), some (.inl x6), some (.inl x7), none, none], [], (am_sh, am_mm U)) (some (.inl r5), (am_sh, am_mm U5)) ∧ (((¬ r5 = 0 : Prop)) → ∃ (r6 : Int) (U6 : Nat → Nat → Int), Ev kz (d, 203, 0, [some (.inr (.inr 86)), some (.inl x1), some (.inl x7)], [], (am_sh, am_mm U5)) (some (.inl r6), (am_sh, am_mm U6)) ∧ ∃ (r7 : Int) (U7 : Nat → Nat → Int), Ev kz (d, 136, 0, [some (.inr (.inr 86)), some (.inl x1), some (.inl x4), some (.inl x6), some (.inr (.inl r6)), none], [], (am_sh, am_mm U6)) (some (.inl r7), (am_sh, am_mm U7)) ∧ (((¬ r7 = 0 : Prop)) → Ev kz ((d + 1), 100, 117, [some (.inr (.inr 86)), some (.inl x1), some (.inl x2), some (.inl x3), some (.inl x4), some (.inl x5), some (.inl x6), some (.inl (w32 (x7 + 1)))], [], (am_sh, am_mm U7)) R) ∧ (¬ (¬ r7 = 0) → ∃ U8 : Nat → Nat → Int, Ev kz (d, 201, 0, [some (.inr (.inr 86)), some (.inl x4), some (.inl x6), some (.inl x7), some (.inl x3)], [], (am_sh, am_mm U7)) (none, (am_sh, am_mm U8)) ∧ Ev kz ((d + 1), 100, 117, [some (.inr (.inr 86)), some (.inl x1), some (.inl x2), some (.inl x3), some (.inl x4), some (.inl x5), some (.inl x6), some (.inl (w32 (x7 + 1)))], [], (am_sh, am_mm U8)) R)) ∧ (¬ (¬ r5 = 0) → Ev kz ((d + 1), 100, 117, [some (.inr (.inr 86)), some (.inl x1), some (.inl x2), some (.inl x3), some (.inl x4), some (.inl x5), some (.inl x6), some (.inl (w32 (x7 + 1)))], [], (am_sh, am_mm U5)) R)) ∧ (¬ (x2 = x6) → (((¬ x2 = x7 : Prop)) → Ev kz ((d + 1), 100, 117, [some (.inr (.inr 86)), some (.inl x1), some (.inl x2), some (.inl x3), some (.inl x4), some (.inl x5), some (.inl x6), some (.inl (w32 (x7 + 1)))], [], (am_sh, am_mm U)) R) ∧ (¬ (¬ x2 = x7) → ∃ (r9 : Int) (U9 : Nat → Nat → Int), Ev kz (d, 202, 0, [some (.inr (.inr 86)), some (.inl x1), some (.inl x5), some (.inl x6), some (.inl x7), none, none], [], (am_sh, am_mm U)) (some (.inl r9), (am_sh, am_mm U9)) ∧ (((¬ r9 = 0 : Prop)) → ∃ (r10 : Int) (U10 : Nat → Nat → Int), Ev kz (d, 203, 0, [some (.inr (.inr 86)), some (.inl x1), some (.inl x7)], [], (am_sh, am_mm U9)) (some (.inl r10), (am_sh, am_mm U10)) ∧ ∃ (r11 : Int) (U11 : Nat → Nat → Int), Ev kz (d, 136, 0, [some (.inr (.inr 86)), some (.inl x1), some (.inl x4), some (.inl x6), some (.inr (.inl r10)), none], [], (am_sh, am_mm U10)) (some (.inl r11), (am_sh, am_mm U11)) ∧ (((¬ r11 = 0 : Prop)) → Ev kz ((d + 1), 100, 117, [some (.inr (.inr 86)), some (.inl x1), some (.inl x2), some (.inl x3), some (.inl x4), some (.inl x5), some (.inl x6), some (.inl (w32 (x7 + 1)))], [], (am_sh, am_mm U11)) R) ∧ (¬ (¬ r11 = 0) → ∃ U12 : Nat → Nat → Int, Ev kz (d, 201, 0, [some (.inr (.inr 86)), some (.inl x4), some (.inl x6), some (.inl x7), some (.inl x3)], [], (am_sh, am_mm U11)) (none, (am_sh, am_mm U12)) ∧ Ev kz ((d + 1), 100, 117, [some (.inr (.inr 86)), some (.inl x1), some (.inl x2), some (.inl x3), some (.inl x4), some (.inl x5), some (.inl x6), some (.inl (w32 (x7 + 1)))], [], (am_sh, am_mm U12)) R)) ∧ (¬ (¬ r9 = 0) → Ev kz ((d + 1), 100, 117, [some (.inr (.inr 86)), some (.inl x1), some (.inl x2), some (.inl x3), some (.inl x4), some (.inl x5), some (.inl x6), some (.inl (w32 (x7 + 1)))], [], (am_sh, am_mm U9)) R)))))) : Ev kz ((d + 1), 100, 117, [some (.inr (.inr 86)), some (.inl x1), some (.inl x2), some (.inl x3), some (.inl x4), some (.inl x5), some (.inl x6), some (.inl x7)], [], (am_sh, am_mm U)) R := by
  refine ev_seg (σ1 := ((d + 1), 100, 124, [some (.inr (.inr 86)), some (.inl x1), some (.inl x2), some (.inl x3), some (.inl x4), some (.inl x5), some (.inl x6), some (.inl x7)], [.inl x1, .inr (.inr 122), .inl x7], (am_sh, am_mm U))) 4 (fun _ => rfl) ?_
  refine eu_iald 122 (n := 22) rfl (by decide) rfl (fun _ => rfl) h.1 ?_
  have ha := h.2
  refine ev_br (P := (U 122 x1.toNat) ≤ x7) (σ1 := ((d + 1), 100, 199, [some (.inr (.inr 86)), some (.inl x1), some (.inl x2), some (.inl x3), some (.inl x4), some (.inl x5), some (.inl x6), some (.inl x7)], [], (am_sh, am_mm U))) (σ2 := ((d + 1), 100, 128, [some (.inr (.inr 86)), some (.inl x1), some (.inl x2), some (.inl x3), some (.inl x4), some (.inl x5), some (.inl x6), some (.inl x7)], [], (am_sh, am_mm U))) 1 (fun _ => rfl) (fun hc => ?_) (fun hc => ?_)
  · have ha1 := ha.1 hc
    refine ev_seg (σ1 := ((d + 1), 100, 47, [some (.inr (.inr 86)), some (.inl x1), some (.inl x2), some (.inl x3), some (.inl x4), some (.inl x5), some (.inl (w32 (x6 + 1))), some (.inl x7)], [], (am_sh, am_mm U))) 2 (fun _ => rfl) ?_
    exact ha1
  · have ha2 := ha.2 hc
    refine ev_br (P := x2 = (-1)) (σ1 := ((d + 1), 100, 145, [some (.inr (.inr 86)), some (.inl x1), some (.inl x2), some (.inl x3), some (.inl x4), some (.inl x5), some (.inl x6), some (.inl x7)], [], (am_sh, am_mm U))) (σ2 := ((d + 1), 100, 133, [some (.inr (.inr 86)), some (.inl x1), some (.inl x2), some (.inl x3), some (.inl x4), some (.inl x5), some (.inl x6), some (.inl x7)], [], (am_sh, am_mm U))) 3 (fun _ => rfl) (fun hc => ?_) (fun hc => ?_)
    · have ha21 := ha2.1 hc
      refine ev_seg (σ1 := ((d + 1), 100, 153, [some (.inr (.inr 86)), some (.inl x1), some (.inl x2), some (.inl x3), some (.inl x4), some (.inl x5), some (.inl x6), some (.inl x7)], [.inl x7, .inl x6, .inl x5, .inl x1, .inr (.inr 86)], (am_sh, am_mm U))) 5 (fun _ => rfl) ?_
      obtain ⟨r1, U1, ha21c, ha21a⟩ := ha21
      refine ev_cal (σc := (d, 202, 0, [some (.inr (.inr 86)), some (.inl x1), some (.inl x5), some (.inl x6), some (.inl x7), none, none], [], (am_sh, am_mm U))) (fun _ => rfl) ha21c ?_
      show Ev kz ((d + 1), 100, 156, [some (.inr (.inr 86)), some (.inl x1), some (.inl x2), some (.inl x3), some (.inl x4), some (.inl x5), some (.inl x6), some (.inl x7)], [.inl r1], (am_sh, am_mm U1)) R
      refine ev_br (P := ¬ r1 = 0) (σ1 := ((d + 1), 100, 162, [some (.inr (.inr 86)), some (.inl x1), some (.inl x2), some (.inl x3), some (.inl x4), some (.inl x5), some (.inl x6), some (.inl x7)], [], (am_sh, am_mm U1))) (σ2 := ((d + 1), 100, 159, [some (.inr (.inr 86)), some (.inl x1), some (.inl x2), some (.inl x3), some (.inl x4), some (.inl x5), some (.inl x6), some (.inl x7)], [], (am_sh, am_mm U1))) 1 (fun _ => rfl) (fun hc => ?_) (fun hc => ?_)
      · have ha21a1 := ha21a.1 hc
        refine ev_seg (σ1 := ((d + 1), 100, 172, [some (.inr (.inr 86)), some (.inl x1), some (.inl x2), some (.inl x3), some (.inl x4), some (.inl x5), some (.inl x6), some (.inl x7)], [.inl x7, .inl x1, .inr (.inr 86), .inl x6, .inl x4, .inl x1, .inr (.inr 86)], (am_sh, am_mm U1))) 7 (fun _ => rfl) ?_
        obtain ⟨r2, U2, ha21a1c, ha21a1a⟩ := ha21a1
        refine ev_cal (σc := (d, 203, 0, [some (.inr (.inr 86)), some (.inl x1), some (.inl x7)], [], (am_sh, am_mm U1))) (fun _ => rfl) ha21a1c ?_
        show Ev kz ((d + 1), 100, 175, [some (.inr (.inr 86)), some (.inl x1), some (.inl x2), some (.inl x3), some (.inl x4), some (.inl x5), some (.inl x6), some (.inl x7)], [.inl r2, .inl x6, .inl x4, .inl x1, .inr (.inr 86)], (am_sh, am_mm U2)) R
        refine ev_seg (σ1 := ((d + 1), 100, 176, [some (.inr (.inr 86)), some (.inl x1), some (.inl x2), some (.inl x3), some (.inl x4), some (.inl x5), some (.inl x6), some (.inl x7)], [.inr (.inl r2), .inl x6, .inl x4, .inl x1, .inr (.inr 86)], (am_sh, am_mm U2))) 1 (fun _ => rfl) ?_
        obtain ⟨r3, U3, ha21a1ac, ha21a1aa⟩ := ha21a1a
        refine ev_cal (σc := (d, 136, 0, [some (.inr (.inr 86)), some (.inl x1), some (.inl x4), some (.inl x6), some (.inr (.inl r2)), none], [], (am_sh, am_mm U2))) (fun _ => rfl) ha21a1ac ?_
        show Ev kz ((d + 1), 100, 179, [some (.inr (.inr 86)), some (.inl x1), some (.inl x2), some (.inl x3), some (.inl x4), some (.inl x5), some (.inl x6), some (.inl x7)], [.inl r3], (am_sh, am_mm U3)) R
        refine ev_br (P := ¬ r3 = 0) (σ1 := ((d + 1), 100, 193, [some (.inr (.inr 86)), some (.inl x1), some (.inl x2), some (.inl x3), some (.inl x4), some (.inl x5), some (.inl x6), some (.inl x7)], [], (am_sh, am_mm U3))) (σ2 := ((d + 1), 100, 182, [some (.inr (.inr 86)), some (.inl x1), some (.inl x2), some (.inl x3), some (.inl x4), some (.inl x5), some (.inl x6), some (.inl x7)], [], (am_sh, am_mm U3))) 1 (fun _ => rfl) (fun hc => ?_) (fun hc => ?_)
        · have ha21a1aa1 := ha21a1aa.1 hc
          refine ev_seg (σ1 := ((d + 1), 100, 117, [some (.inr (.inr 86)), some (.inl x1), some (.inl x2), some (.inl x3), some (.inl x4), some (.inl x5), some (.inl x6), some (.inl (w32 (x7 + 1)))], [], (am_sh, am_mm U3))) 2 (fun _ => rfl) ?_
          exact ha21a1aa1
        · have ha21a1aa2 := ha21a1aa.2 hc
          refine ev_seg (σ1 := ((d + 1), 100, 190, [some (.inr (.inr 86)), some (.inl x1), some (.inl x2), some (.inl x3), some (.inl x4), some (.inl x5), some (.inl x6), some (.inl x7)], [.inl x3, .inl x7, .inl x6, .inl x4, .inr (.inr 86)], (am_sh, am_mm U3))) 5 (fun _ => rfl) ?_
          obtain ⟨U4, ha21a1aa2c, ha21a1aa2a⟩ := ha21a1aa2
          refine ev_cal (σc := (d, 201, 0, [some (.inr (.inr 86)), some (.inl x4), some (.inl x6), some (.inl x7), some (.inl x3)], [], (am_sh, am_mm U3))) (fun _ => rfl) ha21a1aa2c ?_
          show Ev kz ((d + 1), 100, 193, [some (.inr (.inr 86)), some (.inl x1), some (.inl x2), some (.inl x3), some (.inl x4), some (.inl x5), some (.inl x6), some (.inl x7)], [], (am_sh, am_mm U4)) R
          refine ev_seg (σ1 := ((d + 1), 100, 117, [some (.inr (.inr 86)), some (.inl x1), some (.inl x2), some (.inl x3), some (.inl x4), some (.inl x5), some (.inl x6), some (.inl (w32 (x7 + 1)))], [], (am_sh, am_mm U4))) 2 (fun _ => rfl) ?_
          exact ha21a1aa2a
      · have ha21a2 := ha21a.2 hc
        refine ev_seg (σ1 := ((d + 1), 100, 117, [some (.inr (.inr 86)), some (.inl x1), some (.inl x2), some (.inl x3), some (.inl x4), some (.inl x5), some (.inl x6), some (.inl (w32 (x7 + 1)))], [], (am_sh, am_mm U1))) 3 (fun _ => rfl) ?_
        exact ha21a2
    · have ha22 := ha2.2 hc
      refine ev_br (P := x2 = x6) (σ1 := ((d + 1), 100, 145, [some (.inr (.inr 86)), some (.inl x1), some (.inl x2), some (.inl x3), some (.inl x4), some (.inl x5), some (.inl x6), some (.inl x7)], [], (am_sh, am_mm U))) (σ2 := ((d + 1), 100, 139, [some (.inr (.inr 86)), some (.inl x1), some (.inl x2), some (.inl x3), some (.inl x4), some (.inl x5), some (.inl x6), some (.inl x7)], [], (am_sh, am_mm U))) 3 (fun _ => rfl) (fun hc => ?_) (fun hc => ?_)
      · have ha221 := ha22.1 hc
        refine ev_seg (σ1 := ((d + 1), 100, 153, [some (.inr (.inr 86)), some (.inl x1), some (.inl x2), some (.inl x3), some (.inl x4), some (.inl x5), some (.inl x6), some (.inl x7)], [.inl x7, .inl x6, .inl x5, .inl x1, .inr (.inr 86)], (am_sh, am_mm U))) 5 (fun _ => rfl) ?_
        obtain ⟨r5, U5, ha221c, ha221a⟩ := ha221
        refine ev_cal (σc := (d, 202, 0, [some (.inr (.inr 86)), some (.inl x1), some (.inl x5), some (.inl x6), some (.inl x7), none, none], [], (am_sh, am_mm U))) (fun _ => rfl) ha221c ?_
        show Ev kz ((d + 1), 100, 156, [some (.inr (.inr 86)), some (.inl x1), some (.inl x2), some (.inl x3), some (.inl x4), some (.inl x5), some (.inl x6), some (.inl x7)], [.inl r5], (am_sh, am_mm U5)) R
        refine ev_br (P := ¬ r5 = 0) (σ1 := ((d + 1), 100, 162, [some (.inr (.inr 86)), some (.inl x1), some (.inl x2), some (.inl x3), some (.inl x4), some (.inl x5), some (.inl x6), some (.inl x7)], [], (am_sh, am_mm U5))) (σ2 := ((d + 1), 100, 159, [some (.inr (.inr 86)), some (.inl x1), some (.inl x2), some (.inl x3), some (.inl x4), some (.inl x5), some (.inl x6), some (.inl x7)], [], (am_sh, am_mm U5))) 1 (fun _ => rfl) (fun hc => ?_) (fun hc => ?_)
        · have ha221a1 := ha221a.1 hc
          refine ev_seg (σ1 := ((d + 1), 100, 172, [some (.inr (.inr 86)), some (.inl x1), some (.inl x2), some (.inl x3), some (.inl x4), some (.inl x5), some (.inl x6), some (.inl x7)], [.inl x7, .inl x1, .inr (.inr 86), .inl x6, .inl x4, .inl x1, .inr (.inr 86)], (am_sh, am_mm U5))) 7 (fun _ => rfl) ?_
          obtain ⟨r6, U6, ha221a1c, ha221a1a⟩ := ha221a1
          refine ev_cal (σc := (d, 203, 0, [some (.inr (.inr 86)), some (.inl x1), some (.inl x7)], [], (am_sh, am_mm U5))) (fun _ => rfl) ha221a1c ?_
          show Ev kz ((d + 1), 100, 175, [some (.inr (.inr 86)), some (.inl x1), some (.inl x2), some (.inl x3), some (.inl x4), some (.inl x5), some (.inl x6), some (.inl x7)], [.inl r6, .inl x6, .inl x4, .inl x1, .inr (.inr 86)], (am_sh, am_mm U6)) R
          refine ev_seg (σ1 := ((d + 1), 100, 176, [some (.inr (.inr 86)), some (.inl x1), some (.inl x2), some (.inl x3), some (.inl x4), some (.inl x5), some (.inl x6), some (.inl x7)], [.inr (.inl r6), .inl x6, .inl x4, .inl x1, .inr (.inr 86)], (am_sh, am_mm U6))) 1 (fun _ => rfl) ?_
          obtain ⟨r7, U7, ha221a1ac, ha221a1aa⟩ := ha221a1a
          refine ev_cal (σc := (d, 136, 0, [some (.inr (.inr 86)), some (.inl x1), some (.inl x4), some (.inl x6), some (.inr (.inl r6)), none], [], (am_sh, am_mm U6))) (fun _ => rfl) ha221a1ac ?_
          show Ev kz ((d + 1), 100, 179, [some (.inr (.inr 86)), some (.inl x1), some (.inl x2), some (.inl x3), some (.inl x4), some (.inl x5), some (.inl x6), some (.inl x7)], [.inl r7], (am_sh, am_mm U7)) R
          refine ev_br (P := ¬ r7 = 0) (σ1 := ((d + 1), 100, 193, [some (.inr (.inr 86)), some (.inl x1), some (.inl x2), some (.inl x3), some (.inl x4), some (.inl x5), some (.inl x6), some (.inl x7)], [], (am_sh, am_mm U7))) (σ2 := ((d + 1), 100, 182, [some (.inr (.inr 86)), some (.inl x1), some (.inl x2), some (.inl x3), some (.inl x4), some (.inl x5), some (.inl x6), some (.inl x7)], [], (am_sh, am_mm U7))) 1 (fun _ => rfl) (fun hc => ?_) (fun hc => ?_)
          · have ha221a1aa1 := ha221a1aa.1 hc
            refine ev_seg (σ1 := ((d + 1), 100, 117, [some (.inr (.inr 86)), some (.inl x1), some (.inl x2), some (.inl x3), some (.inl x4), some (.inl x5), some (.inl x6), some (.inl (w32 (x7 + 1)))], [], (am_sh, am_mm U7))) 2 (fun _ => rfl) ?_
            exact ha221a1aa1
          · have ha221a1aa2 := ha221a1aa.2 hc
            refine ev_seg (σ1 := ((d + 1), 100, 190, [some (.inr (.inr 86)), some (.inl x1), some (.inl x2), some (.inl x3), some (.inl x4), some (.inl x5), some (.inl x6), some (.inl x7)], [.inl x3, .inl x7, .inl x6, .inl x4, .inr (.inr 86)], (am_sh, am_mm U7))) 5 (fun _ => rfl) ?_
            obtain ⟨U8, ha221a1aa2c, ha221a1aa2a⟩ := ha221a1aa2
            refine ev_cal (σc := (d, 201, 0, [some (.inr (.inr 86)), some (.inl x4), some (.inl x6), some (.inl x7), some (.inl x3)], [], (am_sh, am_mm U7))) (fun _ => rfl) ha221a1aa2c ?_
            show Ev kz ((d + 1), 100, 193, [some (.inr (.inr 86)), some (.inl x1), some (.inl x2), some (.inl x3), some (.inl x4), some (.inl x5), some (.inl x6), some (.inl x7)], [], (am_sh, am_mm U8)) R
            refine ev_seg (σ1 := ((d + 1), 100, 117, [some (.inr (.inr 86)), some (.inl x1), some (.inl x2), some (.inl x3), some (.inl x4), some (.inl x5), some (.inl x6), some (.inl (w32 (x7 + 1)))], [], (am_sh, am_mm U8))) 2 (fun _ => rfl) ?_
            exact ha221a1aa2a
        · have ha221a2 := ha221a.2 hc
          refine ev_seg (σ1 := ((d + 1), 100, 117, [some (.inr (.inr 86)), some (.inl x1), some (.inl x2), some (.inl x3), some (.inl x4), some (.inl x5), some (.inl x6), some (.inl (w32 (x7 + 1)))], [], (am_sh, am_mm U5))) 3 (fun _ => rfl) ?_
          exact ha221a2
      · have ha222 := ha22.2 hc
        refine ev_br (P := ¬ x2 = x7) (σ1 := ((d + 1), 100, 193, [some (.inr (.inr 86)), some (.inl x1), some (.inl x2), some (.inl x3), some (.inl x4), some (.inl x5), some (.inl x6), some (.inl x7)], [], (am_sh, am_mm U))) (σ2 := ((d + 1), 100, 145, [some (.inr (.inr 86)), some (.inl x1), some (.inl x2), some (.inl x3), some (.inl x4), some (.inl x5), some (.inl x6), some (.inl x7)], [], (am_sh, am_mm U))) 3 (fun _ => rfl) (fun hc => ?_) (fun hc => ?_)
        · have ha2221 := ha222.1 hc
          refine ev_seg (σ1 := ((d + 1), 100, 117, [some (.inr (.inr 86)), some (.inl x1), some (.inl x2), some (.inl x3), some (.inl x4), some (.inl x5), some (.inl x6), some (.inl (w32 (x7 + 1)))], [], (am_sh, am_mm U))) 2 (fun _ => rfl) ?_
          exact ha2221
        · have ha2222 := ha222.2 hc
          refine ev_seg (σ1 := ((d + 1), 100, 153, [some (.inr (.inr 86)), some (.inl x1), some (.inl x2), some (.inl x3), some (.inl x4), some (.inl x5), some (.inl x6), some (.inl x7)], [.inl x7, .inl x6, .inl x5, .inl x1, .inr (.inr 86)], (am_sh, am_mm U))) 5 (fun _ => rfl) ?_
          obtain ⟨r9, U9, ha2222c, ha2222a⟩ := ha2222
          refine ev_cal (σc := (d, 202, 0, [some (.inr (.inr 86)), some (.inl x1), some (.inl x5), some (.inl x6), some (.inl x7), none, none], [], (am_sh, am_mm U))) (fun _ => rfl) ha2222c ?_
          show Ev kz ((d + 1), 100, 156, [some (.inr (.inr 86)), some (.inl x1), some (.inl x2), some (.inl x3), some (.inl x4), some (.inl x5), some (.inl x6), some (.inl x7)], [.inl r9], (am_sh, am_mm U9)) R
          refine ev_br (P := ¬ r9 = 0) (σ1 := ((d + 1), 100, 162, [some (.inr (.inr 86)), some (.inl x1), some (.inl x2), some (.inl x3), some (.inl x4), some (.inl x5), some (.inl x6), some (.inl x7)], [], (am_sh, am_mm U9))) (σ2 := ((d + 1), 100, 159, [some (.inr (.inr 86)), some (.inl x1), some (.inl x2), some (.inl x3), some (.inl x4), some (.inl x5), some (.inl x6), some (.inl x7)], [], (am_sh, am_mm U9))) 1 (fun _ => rfl) (fun hc => ?_) (fun hc => ?_)
          · have ha2222a1 := ha2222a.1 hc
            refine ev_seg (σ1 := ((d + 1), 100, 172, [some (.inr (.inr 86)), some (.inl x1), some (.inl x2), some (.inl x3), some (.inl x4), some (.inl x5), some (.inl x6), some (.inl x7)], [.inl x7, .inl x1, .inr (.inr 86), .inl x6, .inl x4, .inl x1, .inr (.inr 86)], (am_sh, am_mm U9))) 7 (fun _ => rfl) ?_
            obtain ⟨r10, U10, ha2222a1c, ha2222a1a⟩ := ha2222a1
            refine ev_cal (σc := (d, 203, 0, [some (.inr (.inr 86)), some (.inl x1), some (.inl x7)], [], (am_sh, am_mm U9))) (fun _ => rfl) ha2222a1c ?_
            show Ev kz ((d + 1), 100, 175, [some (.inr (.inr 86)), some (.inl x1), some (.inl x2), some (.inl x3), some (.inl x4), some (.inl x5), some (.inl x6), some (.inl x7)], [.inl r10, .inl x6, .inl x4, .inl x1, .inr (.inr 86)], (am_sh, am_mm U10)) R
            refine ev_seg (σ1 := ((d + 1), 100, 176, [some (.inr (.inr 86)), some (.inl x1), some (.inl x2), some (.inl x3), some (.inl x4), some (.inl x5), some (.inl x6), some (.inl x7)], [.inr (.inl r10), .inl x6, .inl x4, .inl x1, .inr (.inr 86)], (am_sh, am_mm U10))) 1 (fun _ => rfl) ?_
            obtain ⟨r11, U11, ha2222a1ac, ha2222a1aa⟩ := ha2222a1a
            refine ev_cal (σc := (d, 136, 0, [some (.inr (.inr 86)), some (.inl x1), some (.inl x4), some (.inl x6), some (.inr (.inl r10)), none], [], (am_sh, am_mm U10))) (fun _ => rfl) ha2222a1ac ?_
            show Ev kz ((d + 1), 100, 179, [some (.inr (.inr 86)), some (.inl x1), some (.inl x2), some (.inl x3), some (.inl x4), some (.inl x5), some (.inl x6), some (.inl x7)], [.inl r11], (am_sh, am_mm U11)) R
            refine ev_br (P := ¬ r11 = 0) (σ1 := ((d + 1), 100, 193, [some (.inr (.inr 86)), some (.inl x1), some (.inl x2), some (.inl x3), some (.inl x4), some (.inl x5), some (.inl x6), some (.inl x7)], [], (am_sh, am_mm U11))) (σ2 := ((d + 1), 100, 182, [some (.inr (.inr 86)), some (.inl x1), some (.inl x2), some (.inl x3), some (.inl x4), some (.inl x5), some (.inl x6), some (.inl x7)], [], (am_sh, am_mm U11))) 1 (fun _ => rfl) (fun hc => ?_) (fun hc => ?_)
            · have ha2222a1aa1 := ha2222a1aa.1 hc
              refine ev_seg (σ1 := ((d + 1), 100, 117, [some (.inr (.inr 86)), some (.inl x1), some (.inl x2), some (.inl x3), some (.inl x4), some (.inl x5), some (.inl x6), some (.inl (w32 (x7 + 1)))], [], (am_sh, am_mm U11))) 2 (fun _ => rfl) ?_
              exact ha2222a1aa1
            · have ha2222a1aa2 := ha2222a1aa.2 hc
              refine ev_seg (σ1 := ((d + 1), 100, 190, [some (.inr (.inr 86)), some (.inl x1), some (.inl x2), some (.inl x3), some (.inl x4), some (.inl x5), some (.inl x6), some (.inl x7)], [.inl x3, .inl x7, .inl x6, .inl x4, .inr (.inr 86)], (am_sh, am_mm U11))) 5 (fun _ => rfl) ?_
              obtain ⟨U12, ha2222a1aa2c, ha2222a1aa2a⟩ := ha2222a1aa2
              refine ev_cal (σc := (d, 201, 0, [some (.inr (.inr 86)), some (.inl x4), some (.inl x6), some (.inl x7), some (.inl x3)], [], (am_sh, am_mm U11))) (fun _ => rfl) ha2222a1aa2c ?_
              show Ev kz ((d + 1), 100, 193, [some (.inr (.inr 86)), some (.inl x1), some (.inl x2), some (.inl x3), some (.inl x4), some (.inl x5), some (.inl x6), some (.inl x7)], [], (am_sh, am_mm U12)) R
              refine ev_seg (σ1 := ((d + 1), 100, 117, [some (.inr (.inr 86)), some (.inl x1), some (.inl x2), some (.inl x3), some (.inl x4), some (.inl x5), some (.inl x6), some (.inl (w32 (x7 + 1)))], [], (am_sh, am_mm U12))) 2 (fun _ => rfl) ?_
              exact ha2222a1aa2a
          · have ha2222a2 := ha2222a.2 hc
            refine ev_seg (σ1 := ((d + 1), 100, 117, [some (.inr (.inr 86)), some (.inl x1), some (.inl x2), some (.inl x3), some (.inl x4), some (.inl x5), some (.inl x6), some (.inl (w32 (x7 + 1)))], [], (am_sh, am_mm U9))) 3 (fun _ => rfl) ?_
            exact ha2222a2
set_option maxRecDepth 8000 in
theorem st128_45_0 (kz : am_Z) (d : Nat) (x1 x2 : Int) (U : Nat → Nat → Int) (R : Option am_V × am_M) (h : (0 ≤ x1 ∧ x1 < 16) ∧ ((((U 18 x1.toNat) = x2 : Prop)) → R = (some (.inl 0), (am_sh, am_mm U))) ∧ (¬ ((U 18 x1.toNat) = x2) → ∃ (r1 : Int) (U1 : Nat → Nat → Int), Ev kz (d, 106, 0, [some (.inr (.inr 16)), some (.inl x2)], [], (am_sh, am_mm U)) (some (.inl r1), (am_sh, am_mm U1)) ∧ (0 ≤ x2 ∧ x2 < 12) ∧ (((r1 < (U1 8 x2.toNat) : Prop)) → ∃ U2 : Nat → Nat → Int, Ev kz (d, 138, 0, [some (.inr (.inr 16)), some (.inl x1), some (.inl x2), none], [], (am_sh, am_mm U1)) (none, (am_sh, am_mm U2)) ∧ ∃ (r3 : Int) (U3 : Nat → Nat → Int), Ev kz (d, 210, 0, [some (.inr (.inr 45)), some (.inl x1), none, none, none], [], (am_sh, am_mm U2)) (some (.inl r3), (am_sh, am_mm U3)) ∧ ∃ U4 : Nat → Nat → Int, Ev kz (d, 138, 0, [some (.inr (.inr 16)), some (.inl x1), some (.inl (U 18 x1.toNat)), none], [], (am_sh, am_mm U3)) (none, (am_sh, am_mm U4)) ∧ (((¬ r3 = 0 : Prop)) → R = (some (.inl 0), (am_sh, am_mm U4))) ∧ (¬ (¬ r3 = 0) → R = (some (.inl 1), (am_sh, am_mm U4)))) ∧ (¬ (r1 < (U1 8 x2.toNat)) → R = (some (.inl 0), (am_sh, am_mm U1))))) : Ev kz ((d + 1), 128, 0, [some (.inr (.inr 45)), some (.inl x1), some (.inl x2), none, none], [], (am_sh, am_mm U)) R := by
  refine ev_seg (σ1 := ((d + 1), 128, 8, [some (.inr (.inr 45)), some (.inl x1), some (.inl x2), none, none], [.inl x1, .inr (.inr 18)], (am_sh, am_mm U))) 4 (fun _ => rfl) ?_
  refine eu_iald 18 (n := 16) rfl (by decide) rfl (fun _ => rfl) h.1 ?_
  have ha := h.2
  refine ev_br (P := (U 18 x1.toNat) = x2) (σ1 := ((d + 1), 128, 35, [some (.inr (.inr 45)), some (.inl x1), some (.inl x2), some (.inl (U 18 x1.toNat)), none], [], (am_sh, am_mm U))) (σ2 := ((d + 1), 128, 15, [some (.inr (.inr 45)), some (.inl x1), some (.inl x2), some (.inl (U 18 x1.toNat)), none], [], (am_sh, am_mm U))) 4 (fun _ => rfl) (fun hc => ?_) (fun hc => ?_)
  · have ha1 := ha.1 hc
    subst ha1
    exact ev_end 2 (fun _ => rfl)
  · have ha2 := ha.2 hc
    refine ev_seg (σ1 := ((d + 1), 128, 20, [some (.inr (.inr 45)), some (.inl x1), some (.inl x2), some (.inl (U 18 x1.toNat)), none], [.inl x2, .inr (.inr 16)], (am_sh, am_mm U))) 3 (fun _ => rfl) ?_
    obtain ⟨r1, U1, ha2c, ha2a⟩ := ha2
    refine ev_cal (σc := (d, 106, 0, [some (.inr (.inr 16)), some (.inl x2)], [], (am_sh, am_mm U))) (fun _ => rfl) ha2c ?_
    show Ev kz ((d + 1), 128, 23, [some (.inr (.inr 45)), some (.inl x1), some (.inl x2), some (.inl (U 18 x1.toNat)), none], [.inl r1], (am_sh, am_mm U1)) R
    refine ev_seg (σ1 := ((d + 1), 128, 31, [some (.inr (.inr 45)), some (.inl x1), some (.inl x2), some (.inl (U 18 x1.toNat)), none], [.inl x2, .inr (.inr 8), .inl r1], (am_sh, am_mm U1))) 4 (fun _ => rfl) ?_
    refine eu_iald 8 (n := 12) rfl (by decide) rfl (fun _ => rfl) ha2a.1 ?_
    have ha2aa := ha2a.2
    refine ev_br (P := r1 < (U1 8 x2.toNat)) (σ1 := ((d + 1), 128, 37, [some (.inr (.inr 45)), some (.inl x1), some (.inl x2), some (.inl (U 18 x1.toNat)), none], [], (am_sh, am_mm U1))) (σ2 := ((d + 1), 128, 35, [some (.inr (.inr 45)), some (.inl x1), some (.inl x2), some (.inl (U 18 x1.toNat)), none], [], (am_sh, am_mm U1))) 1 (fun _ => rfl) (fun hc => ?_) (fun hc => ?_)
    · have ha2aa1 := ha2aa.1 hc
      refine ev_seg (σ1 := ((d + 1), 128, 43, [some (.inr (.inr 45)), some (.inl x1), some (.inl x2), some (.inl (U 18 x1.toNat)), none], [.inl x2, .inl x1, .inr (.inr 16)], (am_sh, am_mm U1))) 4 (fun _ => rfl) ?_
      obtain ⟨U2, ha2aa1c, ha2aa1a⟩ := ha2aa1
      refine ev_cal (σc := (d, 138, 0, [some (.inr (.inr 16)), some (.inl x1), some (.inl x2), none], [], (am_sh, am_mm U1))) (fun _ => rfl) ha2aa1c ?_
      show Ev kz ((d + 1), 128, 46, [some (.inr (.inr 45)), some (.inl x1), some (.inl x2), some (.inl (U 18 x1.toNat)), none], [], (am_sh, am_mm U2)) R
      refine ev_seg (σ1 := ((d + 1), 128, 48, [some (.inr (.inr 45)), some (.inl x1), some (.inl x2), some (.inl (U 18 x1.toNat)), none], [.inl x1, .inr (.inr 45)], (am_sh, am_mm U2))) 2 (fun _ => rfl) ?_
      obtain ⟨r3, U3, ha2aa1ac, ha2aa1aa⟩ := ha2aa1a
      refine ev_cal (σc := (d, 210, 0, [some (.inr (.inr 45)), some (.inl x1), none, none, none], [], (am_sh, am_mm U2))) (fun _ => rfl) ha2aa1ac ?_
      show Ev kz ((d + 1), 128, 51, [some (.inr (.inr 45)), some (.inl x1), some (.inl x2), some (.inl (U 18 x1.toNat)), none], [.inl r3], (am_sh, am_mm U3)) R
      refine ev_seg (σ1 := ((d + 1), 128, 59, [some (.inr (.inr 45)), some (.inl x1), some (.inl x2), some (.inl (U 18 x1.toNat)), some (.inl r3)], [.inl (U 18 x1.toNat), .inl x1, .inr (.inr 16)], (am_sh, am_mm U3))) 5 (fun _ => rfl) ?_
      obtain ⟨U4, ha2aa1aac, ha2aa1aaa⟩ := ha2aa1aa
      refine ev_cal (σc := (d, 138, 0, [some (.inr (.inr 16)), some (.inl x1), some (.inl (U 18 x1.toNat)), none], [], (am_sh, am_mm U3))) (fun _ => rfl) ha2aa1aac ?_
      show Ev kz ((d + 1), 128, 62, [some (.inr (.inr 45)), some (.inl x1), some (.inl x2), some (.inl (U 18 x1.toNat)), some (.inl r3)], [], (am_sh, am_mm U4)) R
      refine ev_br (P := ¬ r3 = 0) (σ1 := ((d + 1), 128, 71, [some (.inr (.inr 45)), some (.inl x1), some (.inl x2), some (.inl (U 18 x1.toNat)), some (.inl r3)], [], (am_sh, am_mm U4))) (σ2 := ((d + 1), 128, 67, [some (.inr (.inr 45)), some (.inl x1), some (.inl x2), some (.inl (U 18 x1.toNat)), some (.inl r3)], [], (am_sh, am_mm U4))) 2 (fun _ => rfl) (fun hc => ?_) (fun hc => ?_)
      · have ha2aa1aaa1 := ha2aa1aaa.1 hc
        subst ha2aa1aaa1
        exact ev_end 2 (fun _ => rfl)
      · have ha2aa1aaa2 := ha2aa1aaa.2 hc
        subst ha2aa1aaa2
        exact ev_end 3 (fun _ => rfl)
    · have ha2aa2 := ha2aa.2 hc
      subst ha2aa2
      exact ev_end 2 (fun _ => rfl)
set_option maxRecDepth 8000 in
theorem st129_86_0 (kz : am_Z) (d : Nat) (x1 x2 x3 : Int) (U : Nat → Nat → Int) (R : Option am_V × am_M) (h : ∃ (r1 : Int) (U1 : Nat → Nat → Int), Ev kz (d, 200, 0, [some (.inr (.inr 86)), some (.inl x1), some (.inl x2)], [], (am_sh, am_mm U)) (some (.inl r1), (am_sh, am_mm U1)) ∧ (((r1 = x3 : Prop)) → R = (some (.inl 0), (am_sh, am_mm U1))) ∧ (¬ (r1 = x3) → ∃ (r2 : Int) (U2 : Nat → Nat → Int), Ev kz (d, 111, 0, [some (.inr (.inr 86)), some (.inl x1), some (.inl x3), none, none], [], (am_sh, am_mm U1)) (some (.inl r2), (am_sh, am_mm U2)) ∧ ∃ (r3 : Int) (U3 : Nat → Nat → Int), Ev kz (d, 110, 0, [some (.inr (.inr 86)), some (.inl x3)], [], (am_sh, am_mm U2)) (some (.inl r3), (am_sh, am_mm U3)) ∧ (((r2 < r3 : Prop)) → (0 ≤ (w32 ((w32 (16 * x1)) + x2)) ∧ (w32 ((w32 (16 * x1)) + x2)) < 352) ∧ ∃ (r4 : Int) (U4 : Nat → Nat → Int), Ev kz (d, 100, 0, [some (.inr (.inr 86)), some (.inl x1), some (.inl x2), some (.inl (-1)), none, none, none, none], [], (am_sh, am_mm (am_upd U3 124 (w32 ((w32 (16 * x1)) + x2)).toNat x3))) (some (.inl r4), (am_sh, am_mm U4)) ∧ (((¬ r4 = 0 : Prop)) → (0 ≤ (w32 ((w32 (16 * x1)) + x2)) ∧ (w32 ((w32 (16 * x1)) + x2)) < 352) ∧ R = (some (.inl 0), (am_sh, am_mm (am_upd U4 124 (w32 ((w32 (16 * x1)) + x2)).toNat r1)))) ∧ (¬ (¬ r4 = 0) → (0 ≤ (w32 ((w32 (16 * x1)) + x2)) ∧ (w32 ((w32 (16 * x1)) + x2)) < 352) ∧ R = (some (.inl 1), (am_sh, am_mm (am_upd U4 124 (w32 ((w32 (16 * x1)) + x2)).toNat r1))))) ∧ (¬ (r2 < r3) → R = (some (.inl 0), (am_sh, am_mm U3))))) : Ev kz ((d + 1), 129, 0, [some (.inr (.inr 86)), some (.inl x1), some (.inl x2), some (.inl x3), none, none], [], (am_sh, am_mm U)) R := by
  refine ev_seg (σ1 := ((d + 1), 129, 3, [some (.inr (.inr 86)), some (.inl x1), some (.inl x2), some (.inl x3), none, none], [.inl x2, .inl x1, .inr (.inr 86)], (am_sh, am_mm U))) 3 (fun _ => rfl) ?_
  obtain ⟨r1, U1, hc, ha⟩ := h
  refine ev_cal (σc := (d, 200, 0, [some (.inr (.inr 86)), some (.inl x1), some (.inl x2)], [], (am_sh, am_mm U))) (fun _ => rfl) hc ?_
  show Ev kz ((d + 1), 129, 6, [some (.inr (.inr 86)), some (.inl x1), some (.inl x2), some (.inl x3), none, none], [.inl r1], (am_sh, am_mm U1)) R
  refine ev_br (P := r1 = x3) (σ1 := ((d + 1), 129, 28, [some (.inr (.inr 86)), some (.inl x1), some (.inl x2), some (.inl x3), some (.inl r1), none], [], (am_sh, am_mm U1))) (σ2 := ((d + 1), 129, 14, [some (.inr (.inr 86)), some (.inl x1), some (.inl x2), some (.inl x3), some (.inl r1), none], [], (am_sh, am_mm U1))) 4 (fun _ => rfl) (fun hc => ?_) (fun hc => ?_)
  · have ha1 := ha.1 hc
    subst ha1
    exact ev_end 2 (fun _ => rfl)
  · have ha2 := ha.2 hc
    refine ev_seg (σ1 := ((d + 1), 129, 17, [some (.inr (.inr 86)), some (.inl x1), some (.inl x2), some (.inl x3), some (.inl r1), none], [.inl x3, .inl x1, .inr (.inr 86)], (am_sh, am_mm U1))) 3 (fun _ => rfl) ?_
    obtain ⟨r2, U2, ha2c, ha2a⟩ := ha2
    refine ev_cal (σc := (d, 111, 0, [some (.inr (.inr 86)), some (.inl x1), some (.inl x3), none, none], [], (am_sh, am_mm U1))) (fun _ => rfl) ha2c ?_
    show Ev kz ((d + 1), 129, 20, [some (.inr (.inr 86)), some (.inl x1), some (.inl x2), some (.inl x3), some (.inl r1), none], [.inl r2], (am_sh, am_mm U2)) R
    refine ev_seg (σ1 := ((d + 1), 129, 22, [some (.inr (.inr 86)), some (.inl x1), some (.inl x2), some (.inl x3), some (.inl r1), none], [.inl x3, .inr (.inr 86), .inl r2], (am_sh, am_mm U2))) 2 (fun _ => rfl) ?_
    obtain ⟨r3, U3, ha2ac, ha2aa⟩ := ha2a
    refine ev_cal (σc := (d, 110, 0, [some (.inr (.inr 86)), some (.inl x3)], [], (am_sh, am_mm U2))) (fun _ => rfl) ha2ac ?_
    show Ev kz ((d + 1), 129, 25, [some (.inr (.inr 86)), some (.inl x1), some (.inl x2), some (.inl x3), some (.inl r1), none], [.inl r3, .inl r2], (am_sh, am_mm U3)) R
    refine ev_br (P := r2 < r3) (σ1 := ((d + 1), 129, 30, [some (.inr (.inr 86)), some (.inl x1), some (.inl x2), some (.inl x3), some (.inl r1), none], [], (am_sh, am_mm U3))) (σ2 := ((d + 1), 129, 28, [some (.inr (.inr 86)), some (.inl x1), some (.inl x2), some (.inl x3), some (.inl r1), none], [], (am_sh, am_mm U3))) 1 (fun _ => rfl) (fun hc => ?_) (fun hc => ?_)
    · have ha2aa1 := ha2aa.1 hc
      refine ev_seg (σ1 := ((d + 1), 129, 41, [some (.inr (.inr 86)), some (.inl x1), some (.inl x2), some (.inl x3), some (.inl r1), none], [.inl x3, .inl (w32 ((w32 (16 * x1)) + x2)), .inr (.inr 124)], (am_sh, am_mm U3))) 8 (fun _ => rfl) ?_
      refine eu_iast 124 (n := 352) rfl (by decide) rfl (fun _ => rfl) ha2aa1.1 ?_
      have ha2aa1a := ha2aa1.2
      refine ev_seg (σ1 := ((d + 1), 129, 46, [some (.inr (.inr 86)), some (.inl x1), some (.inl x2), some (.inl x3), some (.inl r1), none], [.inl (-1), .inl x2, .inl x1, .inr (.inr 86)], (am_sh, am_mm (am_upd U3 124 (w32 ((w32 (16 * x1)) + x2)).toNat x3)))) 4 (fun _ => rfl) ?_
      obtain ⟨r4, U4, ha2aa1ac, ha2aa1aa⟩ := ha2aa1a
      refine ev_cal (σc := (d, 100, 0, [some (.inr (.inr 86)), some (.inl x1), some (.inl x2), some (.inl (-1)), none, none, none, none], [], (am_sh, am_mm (am_upd U3 124 (w32 ((w32 (16 * x1)) + x2)).toNat x3)))) (fun _ => rfl) ha2aa1ac ?_
      show Ev kz ((d + 1), 129, 49, [some (.inr (.inr 86)), some (.inl x1), some (.inl x2), some (.inl x3), some (.inl r1), none], [.inl r4], (am_sh, am_mm U4)) R
      refine ev_br (P := ¬ r4 = 0) (σ1 := ((d + 1), 129, 56, [some (.inr (.inr 86)), some (.inl x1), some (.inl x2), some (.inl x3), some (.inl r1), none], [], (am_sh, am_mm U4))) (σ2 := ((d + 1), 129, 52, [some (.inr (.inr 86)), some (.inl x1), some (.inl x2), some (.inl x3), some (.inl r1), none], [], (am_sh, am_mm U4))) 1 (fun _ => rfl) (fun hc => ?_) (fun hc => ?_)
      · have ha2aa1aa1 := ha2aa1aa.1 hc
        refine ev_seg (σ1 := ((d + 1), 129, 71, [some (.inr (.inr 86)), some (.inl x1), some (.inl x2), some (.inl x3), some (.inl r1), some (.inl 0)], [.inl r1, .inl (w32 ((w32 (16 * x1)) + x2)), .inr (.inr 124)], (am_sh, am_mm U4))) 10 (fun _ => rfl) ?_
        refine eu_iast 124 (n := 352) rfl (by decide) rfl (fun _ => rfl) ha2aa1aa1.1 ?_
        have ha2aa1aa1a := ha2aa1aa1.2
        subst ha2aa1aa1a
        exact ev_end 2 (fun _ => rfl)
      · have ha2aa1aa2 := ha2aa1aa.2 hc
        refine ev_seg (σ1 := ((d + 1), 129, 71, [some (.inr (.inr 86)), some (.inl x1), some (.inl x2), some (.inl x3), some (.inl r1), some (.inl 1)], [.inl r1, .inl (w32 ((w32 (16 * x1)) + x2)), .inr (.inr 124)], (am_sh, am_mm U4))) 11 (fun _ => rfl) ?_
        refine eu_iast 124 (n := 352) rfl (by decide) rfl (fun _ => rfl) ha2aa1aa2.1 ?_
        have ha2aa1aa2a := ha2aa1aa2.2
        subst ha2aa1aa2a
        exact ev_end 2 (fun _ => rfl)
    · have ha2aa2 := ha2aa.2 hc
      subst ha2aa2
      exact ev_end 2 (fun _ => rfl)
set_option maxRecDepth 8000 in
theorem st108_86_0 (kz : am_Z) (d : Nat) (x1 : Int) (U : Nat → Nat → Int) (R : Option am_V × am_M) (h : (((x1 < 0 : Prop)) → R = (some (.inl 0), (am_sh, am_mm U))) ∧ (¬ (x1 < 0) → (0 ≤ (U 86 13) ∧ (U 86 13) < 2) ∧ ((((U 90 (U 86 13).toNat) ≤ x1 : Prop)) → R = (some (.inl 0), (am_sh, am_mm U))) ∧ (¬ ((U 90 (U 86 13).toNat) ≤ x1) → R = (some (.inl 1), (am_sh, am_mm U))))) : Ev kz (d, 108, 0, [some (.inr (.inr 86)), some (.inl x1)], [], (am_sh, am_mm U)) R := by
  refine ev_br (P := x1 < 0) (σ1 := (d, 108, 21, [some (.inr (.inr 86)), some (.inl x1)], [], (am_sh, am_mm U))) (σ2 := (d, 108, 4, [some (.inr (.inr 86)), some (.inl x1)], [], (am_sh, am_mm U))) 2 (fun _ => rfl) (fun hc => ?_) (fun hc => ?_)
  · have h1 := h.1 hc
    subst h1
    exact ev_end 2 (fun _ => rfl)
  · have h2 := h.2 hc
    refine ev_seg (σ1 := (d, 108, 13, [some (.inr (.inr 86)), some (.inl x1)], [.inl (U 86 13), .inr (.inr 90), .inl x1], (am_sh, am_mm U))) 5 (fun _ => rfl) ?_
    refine eu_iald 90 (n := 2) rfl (by decide) rfl (fun _ => rfl) h2.1 ?_
    have h2a := h2.2
    refine ev_br (P := (U 90 (U 86 13).toNat) ≤ x1) (σ1 := (d, 108, 21, [some (.inr (.inr 86)), some (.inl x1)], [], (am_sh, am_mm U))) (σ2 := (d, 108, 17, [some (.inr (.inr 86)), some (.inl x1)], [], (am_sh, am_mm U))) 1 (fun _ => rfl) (fun hc => ?_) (fun hc => ?_)
    · have h2a1 := h2a.1 hc
      subst h2a1
      exact ev_end 2 (fun _ => rfl)
    · have h2a2 := h2a.2 hc
      subst h2a2
      exact ev_end 3 (fun _ => rfl)
set_option maxRecDepth 8000 in
theorem st131_48_0 (kz : am_Z) (d : Nat) (x1 : Int) (U : Nat → Nat → Int) (R : Option am_V × am_M) (h : (((x1 = (-1) : Prop)) → R = (some (.inl (U 48 8)), (am_sh, am_mm U))) ∧ (¬ (x1 = (-1)) → (((¬ (U 48 8) = (-1) : Prop)) → Ev kz (d, 131, 20, [some (.inr (.inr 48)), some (.inl x1), some (.inl 0)], [], (am_sh, am_mm U)) R) ∧ (¬ (¬ (U 48 8) = (-1)) → R = (some (.inl (U 48 8)), (am_sh, am_mm U))))) : Ev kz (d, 131, 0, [some (.inr (.inr 48)), some (.inl x1), none], [], (am_sh, am_mm U)) R := by
  refine ev_br (P := x1 = (-1)) (σ1 := (d, 131, 13, [some (.inr (.inr 48)), some (.inl x1), none], [], (am_sh, am_mm U))) (σ2 := (d, 131, 5, [some (.inr (.inr 48)), some (.inl x1), none], [], (am_sh, am_mm U))) 3 (fun _ => rfl) (fun hc => ?_) (fun hc => ?_)
  · have h1 := h.1 hc
    subst h1
    exact ev_end 3 (fun _ => rfl)
  · have h2 := h.2 hc
    refine ev_br (P := ¬ (U 48 8) = (-1)) (σ1 := (d, 131, 18, [some (.inr (.inr 48)), some (.inl x1), none], [], (am_sh, am_mm U))) (σ2 := (d, 131, 13, [some (.inr (.inr 48)), some (.inl x1), none], [], (am_sh, am_mm U))) 4 (fun _ => rfl) (fun hc => ?_) (fun hc => ?_)
    · have h21 := h2.1 hc
      refine ev_seg (σ1 := (d, 131, 20, [some (.inr (.inr 48)), some (.inl x1), some (.inl 0)], [], (am_sh, am_mm U))) 2 (fun _ => rfl) ?_
      exact h21
    · have h22 := h2.2 hc
      subst h22
      exact ev_end 3 (fun _ => rfl)
set_option maxRecDepth 8000 in
theorem st131_48_20 (kz : am_Z) (d : Nat) (x1 x2 : Int) (U : Nat → Nat → Int) (R : Option am_V × am_M) (h : ((((U 48 6) ≤ x2 : Prop)) → R = (some (.inl (-1)), (am_sh, am_mm U))) ∧ (¬ ((U 48 6) ≤ x2) → (0 ≤ x2 ∧ x2 < 3) ∧ (((¬ (U 49 x2.toNat) = x1 : Prop)) → Ev kz (d, 131, 20, [some (.inr (.inr 48)), some (.inl x1), some (.inl (w32 (x2 + 1)))], [], (am_sh, am_mm U)) R) ∧ (¬ (¬ (U 49 x2.toNat) = x1) → (0 ≤ x2 ∧ x2 < 3) ∧ (((¬ (U 50 x2.toNat) = (-1) : Prop)) → (0 ≤ x2 ∧ x2 < 3) ∧ R = (some (.inl (U 50 x2.toNat)), (am_sh, am_mm U))) ∧ (¬ (¬ (U 50 x2.toNat) = (-1)) → R = (some (.inl 20), (am_sh, am_mm U)))))) : Ev kz (d, 131, 20, [some (.inr (.inr 48)), some (.inl x1), some (.inl x2)], [], (am_sh, am_mm U)) R := by
  refine ev_br (P := (U 48 6) ≤ x2) (σ1 := (d, 131, 66, [some (.inr (.inr 48)), some (.inl x1), some (.inl x2)], [], (am_sh, am_mm U))) (σ2 := (d, 131, 28, [some (.inr (.inr 48)), some (.inl x1), some (.inl x2)], [], (am_sh, am_mm U))) 4 (fun _ => rfl) (fun hc => ?_) (fun hc => ?_)
  · have h1 := h.1 hc
    subst h1
    exact ev_end 2 (fun _ => rfl)
  · have h2 := h.2 hc
    refine ev_seg (σ1 := (d, 131, 33, [some (.inr (.inr 48)), some (.inl x1), some (.inl x2)], [.inl x2, .inr (.inr 49)], (am_sh, am_mm U))) 3 (fun _ => rfl) ?_
    refine eu_iald 49 (n := 3) rfl (by decide) rfl (fun _ => rfl) h2.1 ?_
    have h2a := h2.2
    refine ev_br (P := ¬ (U 49 x2.toNat) = x1) (σ1 := (d, 131, 60, [some (.inr (.inr 48)), some (.inl x1), some (.inl x2)], [], (am_sh, am_mm U))) (σ2 := (d, 131, 38, [some (.inr (.inr 48)), some (.inl x1), some (.inl x2)], [], (am_sh, am_mm U))) 2 (fun _ => rfl) (fun hc => ?_) (fun hc => ?_)
    · have h2a1 := h2a.1 hc
      refine ev_seg (σ1 := (d, 131, 20, [some (.inr (.inr 48)), some (.inl x1), some (.inl (w32 (x2 + 1)))], [], (am_sh, am_mm U))) 2 (fun _ => rfl) ?_
      exact h2a1
    · have h2a2 := h2a.2 hc
      refine ev_seg (σ1 := (d, 131, 43, [some (.inr (.inr 48)), some (.inl x1), some (.inl x2)], [.inl x2, .inr (.inr 50)], (am_sh, am_mm U))) 3 (fun _ => rfl) ?_
      refine eu_iald 50 (n := 3) rfl (by decide) rfl (fun _ => rfl) h2a2.1 ?_
      have h2a2a := h2a2.2
      refine ev_br (P := ¬ (U 50 x2.toNat) = (-1)) (σ1 := (d, 131, 53, [some (.inr (.inr 48)), some (.inl x1), some (.inl x2)], [], (am_sh, am_mm U))) (σ2 := (d, 131, 48, [some (.inr (.inr 48)), some (.inl x1), some (.inl x2)], [], (am_sh, am_mm U))) 2 (fun _ => rfl) (fun hc => ?_) (fun hc => ?_)
      · have h2a2a1 := h2a2a.1 hc
        refine ev_seg (σ1 := (d, 131, 58, [some (.inr (.inr 48)), some (.inl x1), some (.inl x2)], [.inl x2, .inr (.inr 50)], (am_sh, am_mm U))) 3 (fun _ => rfl) ?_
        refine eu_iald 50 (n := 3) rfl (by decide) rfl (fun _ => rfl) h2a2a1.1 ?_
        have h2a2a1a := h2a2a1.2
        subst h2a2a1a
        exact ev_end 1 (fun _ => rfl)
      · have h2a2a2 := h2a2a.2 hc
        subst h2a2a2
        exact ev_end 3 (fun _ => rfl)
set_option maxRecDepth 8000 in
theorem st130_48_0 (kz : am_Z) (d : Nat) (U : Nat → Nat → Int) (R : Option am_V × am_M) (h : ((((U 48 9) = 0 : Prop)) → ∃ (r1 : Int) (U1 : Nat → Nat → Int), Ev kz (d, 97, 0, [some (.inr (.inr 16)), none, none], [], (am_sh, am_mm (am_upd (am_upd U 48 9 1) 48 8 (-1)))) (some (.inl r1), (am_sh, am_mm U1)) ∧ ∃ (r2 : Int) (U2 : Nat → Nat → Int), Ev kz (d, 98, 0, [some (.inl ((am_upd U1 48 7 r1) 48 7))], [], (am_sh, am_mm (am_upd U1 48 7 r1))) (some (.inl r2), (am_sh, am_mm U2)) ∧ (((((am_upd U2 48 6 r2) 48 6) ≤ 3 : Prop)) → Ev kz ((d + 1), 130, 53, [some (.inr (.inr 48)), some (.inl 1), some (.inl 0), none], [], (am_sh, am_mm (am_upd U2 48 6 r2))) R) ∧ (¬ (((am_upd U2 48 6 r2) 48 6) ≤ 3) → R = (none, (am_sh, am_mm (am_upd U2 48 6 r2))))) ∧ (¬ ((U 48 9) = 0) → R = (none, (am_sh, am_mm U)))) : Ev kz ((d + 1), 130, 0, [some (.inr (.inr 48)), none, none, none], [], (am_sh, am_mm U)) R := by
  refine ev_br (P := (U 48 9) = 0) (σ1 := ((d + 1), 130, 8, [some (.inr (.inr 48)), none, none, none], [], (am_sh, am_mm U))) (σ2 := ((d + 1), 130, 7, [some (.inr (.inr 48)), none, none, none], [], (am_sh, am_mm U))) 3 (fun _ => rfl) (fun hc => ?_) (fun hc => ?_)
  · have h1 := h.1 hc
    refine ev_seg (σ1 := ((d + 1), 130, 10, [some (.inr (.inr 48)), none, none, none], [.inl 1, .inr (.inr 48)], (am_sh, am_mm U))) 2 (fun _ => rfl) ?_
    refine eu_putz 48 (n := 10) rfl (by decide) rfl rfl (by decide) ?_
    refine ev_seg (σ1 := ((d + 1), 130, 15, [some (.inr (.inr 48)), none, none, none], [.inl (-1), .inr (.inr 48)], (am_sh, am_mm (am_upd U 48 9 1)))) 2 (fun _ => rfl) ?_
    refine eu_puti 48 (n := 10) rfl (by decide) rfl rfl ?_
    refine ev_seg (σ1 := ((d + 1), 130, 23, [some (.inr (.inr 48)), none, none, none], [.inr (.inr 16), .inr (.inr 48)], (am_sh, am_mm (am_upd (am_upd U 48 9 1) 48 8 (-1))))) 3 (fun _ => rfl) ?_
    obtain ⟨r1, U1, h1c, h1a⟩ := h1
    refine ev_cal (σc := (d, 97, 0, [some (.inr (.inr 16)), none, none], [], (am_sh, am_mm (am_upd (am_upd U 48 9 1) 48 8 (-1))))) (fun _ => rfl) h1c ?_
    show Ev kz ((d + 1), 130, 26, [some (.inr (.inr 48)), none, none, none], [.inl r1, .inr (.inr 48)], (am_sh, am_mm U1)) R
    refine eu_puti 48 (n := 10) rfl (by decide) rfl rfl ?_
    refine ev_seg (σ1 := ((d + 1), 130, 34, [some (.inr (.inr 48)), none, none, none], [.inl ((am_upd U1 48 7 r1) 48 7), .inr (.inr 48)], (am_sh, am_mm (am_upd U1 48 7 r1)))) 3 (fun _ => rfl) ?_
    obtain ⟨r2, U2, h1ac, h1aa⟩ := h1a
    refine ev_cal (σc := (d, 98, 0, [some (.inl ((am_upd U1 48 7 r1) 48 7))], [], (am_sh, am_mm (am_upd U1 48 7 r1)))) (fun _ => rfl) h1ac ?_
    show Ev kz ((d + 1), 130, 37, [some (.inr (.inr 48)), none, none, none], [.inl r2, .inr (.inr 48)], (am_sh, am_mm U2)) R
    refine eu_puti 48 (n := 10) rfl (by decide) rfl rfl ?_
    refine ev_br (P := ((am_upd U2 48 6 r2) 48 6) ≤ 3) (σ1 := ((d + 1), 130, 49, [some (.inr (.inr 48)), none, none, none], [], (am_sh, am_mm (am_upd U2 48 6 r2)))) (σ2 := ((d + 1), 130, 48, [some (.inr (.inr 48)), none, none, none], [], (am_sh, am_mm (am_upd U2 48 6 r2)))) 4 (fun _ => rfl) (fun hc => ?_) (fun hc => ?_)
    · have h1aa1 := h1aa.1 hc
      refine ev_seg (σ1 := ((d + 1), 130, 53, [some (.inr (.inr 48)), some (.inl 1), some (.inl 0), none], [], (am_sh, am_mm (am_upd U2 48 6 r2)))) 4 (fun _ => rfl) ?_
      exact h1aa1
    · have h1aa2 := h1aa.2 hc
      subst h1aa2
      exact ev_end 1 (fun _ => rfl)
  · have h2 := h.2 hc
    subst h2
    exact ev_end 1 (fun _ => rfl)
set_option maxRecDepth 8000 in
theorem st130_48_53 (kz : am_Z) (d : Nat) (x1 x2 : Int) (U : Nat → Nat → Int) (R : Option am_V × am_M) (h : ((((U 48 6) ≤ x2 : Prop)) → ∃ U1 : Nat → Nat → Int, Ev kz (d, 211, 0, [some (.inr (.inr 51)), some (.inl 0), none, none], [], (am_sh, am_mm U)) (none, (am_sh, am_mm U1)) ∧ Ev kz ((d + 1), 130, 103, [some (.inr (.inr 48)), some (.inl x1), some (.inl 0), none], [], (am_sh, am_mm U1)) R) ∧ (¬ ((U 48 6) ≤ x2) → ∃ (r2 : Int) (U2 : Nat → Nat → Int), Ev kz (d, 107, 0, [some (.inl (U 48 7)), some (.inl x2), none, none], [], (am_sh, am_mm U)) (some (.inl r2), (am_sh, am_mm U2)) ∧ (0 ≤ x2 ∧ x2 < 3) ∧ Ev kz ((d + 1), 130, 53, [some (.inr (.inr 48)), some (.inl (w32 (x1 * (w32 (((am_upd U2 49 x2.toNat r2) 3 1) + 1))))), some (.inl (w32 (x2 + 1))), none], [], (am_sh, am_mm (am_upd U2 49 x2.toNat r2))) R)) : Ev kz ((d + 1), 130, 53, [some (.inr (.inr 48)), some (.inl x1), some (.inl x2), none], [], (am_sh, am_mm U)) R := by
  refine ev_br (P := (U 48 6) ≤ x2) (σ1 := ((d + 1), 130, 93, [some (.inr (.inr 48)), some (.inl x1), some (.inl x2), none], [], (am_sh, am_mm U))) (σ2 := ((d + 1), 130, 61, [some (.inr (.inr 48)), some (.inl x1), some (.inl x2), none], [], (am_sh, am_mm U))) 4 (fun _ => rfl) (fun hc => ?_) (fun hc => ?_)
  · have h1 := h.1 hc
    refine ev_seg (σ1 := ((d + 1), 130, 98, [some (.inr (.inr 48)), some (.inl x1), some (.inl x2), none], [.inl 0, .inr (.inr 51)], (am_sh, am_mm U))) 3 (fun _ => rfl) ?_
    obtain ⟨U1, h1c, h1a⟩ := h1
    refine ev_cal (σc := (d, 211, 0, [some (.inr (.inr 51)), some (.inl 0), none, none], [], (am_sh, am_mm U))) (fun _ => rfl) h1c ?_
    show Ev kz ((d + 1), 130, 101, [some (.inr (.inr 48)), some (.inl x1), some (.inl x2), none], [], (am_sh, am_mm U1)) R
    refine ev_seg (σ1 := ((d + 1), 130, 103, [some (.inr (.inr 48)), some (.inl x1), some (.inl 0), none], [], (am_sh, am_mm U1))) 2 (fun _ => rfl) ?_
    exact h1a
  · have h2 := h.2 hc
    refine ev_seg (σ1 := ((d + 1), 130, 71, [some (.inr (.inr 48)), some (.inl x1), some (.inl x2), none], [.inl x2, .inl (U 48 7), .inl x2, .inr (.inr 49)], (am_sh, am_mm U))) 6 (fun _ => rfl) ?_
    obtain ⟨r2, U2, h2c, h2a⟩ := h2
    refine ev_cal (σc := (d, 107, 0, [some (.inl (U 48 7)), some (.inl x2), none, none], [], (am_sh, am_mm U))) (fun _ => rfl) h2c ?_
    show Ev kz ((d + 1), 130, 74, [some (.inr (.inr 48)), some (.inl x1), some (.inl x2), none], [.inl r2, .inl x2, .inr (.inr 49)], (am_sh, am_mm U2)) R
    refine eu_iast 49 (n := 3) rfl (by decide) rfl (fun _ => rfl) h2a.1 ?_
    have h2aa := h2a.2
    refine ev_seg (σ1 := ((d + 1), 130, 53, [some (.inr (.inr 48)), some (.inl (w32 (x1 * (w32 (((am_upd U2 49 x2.toNat r2) 3 1) + 1))))), some (.inl (w32 (x2 + 1))), none], [], (am_sh, am_mm (am_upd U2 49 x2.toNat r2)))) 10 (fun _ => rfl) ?_
    exact h2aa
set_option maxRecDepth 8000 in
theorem st130_48_103 (kz : am_Z) (d : Nat) (x1 x2 : Int) (U : Nat → Nat → Int) (R : Option am_V × am_M) (h : (((x1 ≤ x2 : Prop)) → R = (none, (am_sh, am_mm U))) ∧ (¬ (x1 ≤ x2) → ((((U 48 6) ≤ (U 48 8) : Prop)) → R = (none, (am_sh, am_mm U))) ∧ (¬ ((U 48 6) ≤ (U 48 8)) → ∃ (r1 : Int) (U1 : Nat → Nat → Int), Ev kz (d, 212, 0, [some (.inr (.inr 48)), some (.inl x2), none, none, none, none, none], [], (am_sh, am_mm U)) (some (.inl r1), (am_sh, am_mm U1)) ∧ (((r1 ≤ (U1 48 8) : Prop)) → ∃ U2 : Nat → Nat → Int, Ev kz (d, 215, 0, [some (.inr (.inr 48)), none], [], (am_sh, am_mm U1)) (none, (am_sh, am_mm U2)) ∧ Ev kz ((d + 1), 130, 103, [some (.inr (.inr 48)), some (.inl x1), some (.inl (w32 (x2 + 1))), some (.inl r1)], [], (am_sh, am_mm U2)) R) ∧ (¬ (r1 ≤ (U1 48 8)) → ∃ (r3 : Int) (U3 : Nat → Nat → Int), Ev kz (d, 213, 0, [some (.inr (.inr 48)), none], [], (am_sh, am_mm U1)) (some (.inl r3), (am_sh, am_mm U3)) ∧ (((r3 = 0 : Prop)) → ∃ U4 : Nat → Nat → Int, Ev kz (d, 215, 0, [some (.inr (.inr 48)), none], [], (am_sh, am_mm U3)) (none, (am_sh, am_mm U4)) ∧ Ev kz ((d + 1), 130, 103, [some (.inr (.inr 48)), some (.inl x1), some (.inl (w32 (x2 + 1))), some (.inl r1)], [], (am_sh, am_mm U4)) R) ∧ (¬ (r3 = 0) → ∃ U5 : Nat → Nat → Int, Ev kz (d, 214, 0, [some (.inr (.inr 48)), some (.inl r1), none], [], (am_sh, am_mm U3)) (none, (am_sh, am_mm U5)) ∧ ∃ U6 : Nat → Nat → Int, Ev kz (d, 215, 0, [some (.inr (.inr 48)), none], [], (am_sh, am_mm U5)) (none, (am_sh, am_mm U6)) ∧ Ev kz ((d + 1), 130, 103, [some (.inr (.inr 48)), some (.inl x1), some (.inl (w32 (x2 + 1))), some (.inl r1)], [], (am_sh, am_mm U6)) R))))) : Ev kz ((d + 1), 130, 103, [some (.inr (.inr 48)), some (.inl x1), some (.inl x2), none], [], (am_sh, am_mm U)) R := by
  refine ev_br (P := x1 ≤ x2) (σ1 := ((d + 1), 130, 155, [some (.inr (.inr 48)), some (.inl x1), some (.inl x2), none], [], (am_sh, am_mm U))) (σ2 := ((d + 1), 130, 108, [some (.inr (.inr 48)), some (.inl x1), some (.inl x2), none], [], (am_sh, am_mm U))) 3 (fun _ => rfl) (fun hc => ?_) (fun hc => ?_)
  · have h1 := h.1 hc
    subst h1
    exact ev_end 1 (fun _ => rfl)
  · have h2 := h.2 hc
    refine ev_br (P := (U 48 6) ≤ (U 48 8)) (σ1 := ((d + 1), 130, 155, [some (.inr (.inr 48)), some (.inl x1), some (.inl x2), none], [], (am_sh, am_mm U))) (σ2 := ((d + 1), 130, 119, [some (.inr (.inr 48)), some (.inl x1), some (.inl x2), none], [], (am_sh, am_mm U))) 5 (fun _ => rfl) (fun hc => ?_) (fun hc => ?_)
    · have h21 := h2.1 hc
      subst h21
      exact ev_end 1 (fun _ => rfl)
    · have h22 := h2.2 hc
      refine ev_seg (σ1 := ((d + 1), 130, 121, [some (.inr (.inr 48)), some (.inl x1), some (.inl x2), none], [.inl x2, .inr (.inr 48)], (am_sh, am_mm U))) 2 (fun _ => rfl) ?_
      obtain ⟨r1, U1, h22c, h22a⟩ := h22
      refine ev_cal (σc := (d, 212, 0, [some (.inr (.inr 48)), some (.inl x2), none, none, none, none, none], [], (am_sh, am_mm U))) (fun _ => rfl) h22c ?_
      show Ev kz ((d + 1), 130, 124, [some (.inr (.inr 48)), some (.inl x1), some (.inl x2), none], [.inl r1], (am_sh, am_mm U1)) R
      refine ev_br (P := r1 ≤ (U1 48 8)) (σ1 := ((d + 1), 130, 145, [some (.inr (.inr 48)), some (.inl x1), some (.inl x2), some (.inl r1)], [], (am_sh, am_mm U1))) (σ2 := ((d + 1), 130, 133, [some (.inr (.inr 48)), some (.inl x1), some (.inl x2), some (.inl r1)], [], (am_sh, am_mm U1))) 5 (fun _ => rfl) (fun hc => ?_) (fun hc => ?_)
      · have h22a1 := h22a.1 hc
        refine ev_seg (σ1 := ((d + 1), 130, 146, [some (.inr (.inr 48)), some (.inl x1), some (.inl x2), some (.inl r1)], [.inr (.inr 48)], (am_sh, am_mm U1))) 1 (fun _ => rfl) ?_
        obtain ⟨U2, h22a1c, h22a1a⟩ := h22a1
        refine ev_cal (σc := (d, 215, 0, [some (.inr (.inr 48)), none], [], (am_sh, am_mm U1))) (fun _ => rfl) h22a1c ?_
        show Ev kz ((d + 1), 130, 149, [some (.inr (.inr 48)), some (.inl x1), some (.inl x2), some (.inl r1)], [], (am_sh, am_mm U2)) R
        refine ev_seg (σ1 := ((d + 1), 130, 103, [some (.inr (.inr 48)), some (.inl x1), some (.inl (w32 (x2 + 1))), some (.inl r1)], [], (am_sh, am_mm U2))) 2 (fun _ => rfl) ?_
        exact h22a1a
      · have h22a2 := h22a.2 hc
        refine ev_seg (σ1 := ((d + 1), 130, 134, [some (.inr (.inr 48)), some (.inl x1), some (.inl x2), some (.inl r1)], [.inr (.inr 48)], (am_sh, am_mm U1))) 1 (fun _ => rfl) ?_
        obtain ⟨r3, U3, h22a2c, h22a2a⟩ := h22a2
        refine ev_cal (σc := (d, 213, 0, [some (.inr (.inr 48)), none], [], (am_sh, am_mm U1))) (fun _ => rfl) h22a2c ?_
        show Ev kz ((d + 1), 130, 137, [some (.inr (.inr 48)), some (.inl x1), some (.inl x2), some (.inl r1)], [.inl r3], (am_sh, am_mm U3)) R
        refine ev_br (P := r3 = 0) (σ1 := ((d + 1), 130, 145, [some (.inr (.inr 48)), some (.inl x1), some (.inl x2), some (.inl r1)], [], (am_sh, am_mm U3))) (σ2 := ((d + 1), 130, 140, [some (.inr (.inr 48)), some (.inl x1), some (.inl x2), some (.inl r1)], [], (am_sh, am_mm U3))) 1 (fun _ => rfl) (fun hc => ?_) (fun hc => ?_)
        · have h22a2a1 := h22a2a.1 hc
          refine ev_seg (σ1 := ((d + 1), 130, 146, [some (.inr (.inr 48)), some (.inl x1), some (.inl x2), some (.inl r1)], [.inr (.inr 48)], (am_sh, am_mm U3))) 1 (fun _ => rfl) ?_
          obtain ⟨U4, h22a2a1c, h22a2a1a⟩ := h22a2a1
          refine ev_cal (σc := (d, 215, 0, [some (.inr (.inr 48)), none], [], (am_sh, am_mm U3))) (fun _ => rfl) h22a2a1c ?_
          show Ev kz ((d + 1), 130, 149, [some (.inr (.inr 48)), some (.inl x1), some (.inl x2), some (.inl r1)], [], (am_sh, am_mm U4)) R
          refine ev_seg (σ1 := ((d + 1), 130, 103, [some (.inr (.inr 48)), some (.inl x1), some (.inl (w32 (x2 + 1))), some (.inl r1)], [], (am_sh, am_mm U4))) 2 (fun _ => rfl) ?_
          exact h22a2a1a
        · have h22a2a2 := h22a2a.2 hc
          refine ev_seg (σ1 := ((d + 1), 130, 142, [some (.inr (.inr 48)), some (.inl x1), some (.inl x2), some (.inl r1)], [.inl r1, .inr (.inr 48)], (am_sh, am_mm U3))) 2 (fun _ => rfl) ?_
          obtain ⟨U5, h22a2a2c, h22a2a2a⟩ := h22a2a2
          refine ev_cal (σc := (d, 214, 0, [some (.inr (.inr 48)), some (.inl r1), none], [], (am_sh, am_mm U3))) (fun _ => rfl) h22a2a2c ?_
          show Ev kz ((d + 1), 130, 145, [some (.inr (.inr 48)), some (.inl x1), some (.inl x2), some (.inl r1)], [], (am_sh, am_mm U5)) R
          refine ev_seg (σ1 := ((d + 1), 130, 146, [some (.inr (.inr 48)), some (.inl x1), some (.inl x2), some (.inl r1)], [.inr (.inr 48)], (am_sh, am_mm U5))) 1 (fun _ => rfl) ?_
          obtain ⟨U6, h22a2a2ac, h22a2a2aa⟩ := h22a2a2a
          refine ev_cal (σc := (d, 215, 0, [some (.inr (.inr 48)), none], [], (am_sh, am_mm U5))) (fun _ => rfl) h22a2a2ac ?_
          show Ev kz ((d + 1), 130, 149, [some (.inr (.inr 48)), some (.inl x1), some (.inl x2), some (.inl r1)], [], (am_sh, am_mm U6)) R
          refine ev_seg (σ1 := ((d + 1), 130, 103, [some (.inr (.inr 48)), some (.inl x1), some (.inl (w32 (x2 + 1))), some (.inl r1)], [], (am_sh, am_mm U6))) 2 (fun _ => rfl) ?_
          exact h22a2a2aa
set_option maxRecDepth 8000 in
theorem st132_86_0 (kz : am_Z) (d : Nat) (U : Nat → Nat → Int) (R : Option am_V × am_M) (h : ∃ U1 : Nat → Nat → Int, Ev kz (d, 144, 0, [some (.inr (.inr 86)), some (.inl 1), some (.inl 0), none], [], (am_sh, am_mm U)) (none, (am_sh, am_mm U1)) ∧ ∃ U2 : Nat → Nat → Int, Ev kz (d, 216, 0, [some (.inr (.inr 86)), none, none], [], (am_sh, am_mm U1)) (none, (am_sh, am_mm U2)) ∧ Ev kz ((d + 1), 132, 14, [some (.inr (.inr 86)), some (.inl 1), some (.inl 0), none, none, none, none, none], [], (am_sh, am_mm U2)) R) : Ev kz ((d + 1), 132, 0, [some (.inr (.inr 86)), none, none, none, none, none, none, none], [], (am_sh, am_mm U)) R := by
  refine ev_seg (σ1 := ((d + 1), 132, 3, [some (.inr (.inr 86)), none, none, none, none, none, none, none], [.inl 0, .inl 1, .inr (.inr 86)], (am_sh, am_mm U))) 3 (fun _ => rfl) ?_
  obtain ⟨U1, hc, ha⟩ := h
  refine ev_cal (σc := (d, 144, 0, [some (.inr (.inr 86)), some (.inl 1), some (.inl 0), none], [], (am_sh, am_mm U))) (fun _ => rfl) hc ?_
  show Ev kz ((d + 1), 132, 6, [some (.inr (.inr 86)), none, none, none, none, none, none, none], [], (am_sh, am_mm U1)) R
  refine ev_seg (σ1 := ((d + 1), 132, 7, [some (.inr (.inr 86)), none, none, none, none, none, none, none], [.inr (.inr 86)], (am_sh, am_mm U1))) 1 (fun _ => rfl) ?_
  obtain ⟨U2, hac, haa⟩ := ha
  refine ev_cal (σc := (d, 216, 0, [some (.inr (.inr 86)), none, none], [], (am_sh, am_mm U1))) (fun _ => rfl) hac ?_
  show Ev kz ((d + 1), 132, 10, [some (.inr (.inr 86)), none, none, none, none, none, none, none], [], (am_sh, am_mm U2)) R
  refine ev_seg (σ1 := ((d + 1), 132, 14, [some (.inr (.inr 86)), some (.inl 1), some (.inl 0), none, none, none, none, none], [], (am_sh, am_mm U2))) 4 (fun _ => rfl) ?_
  exact haa
set_option maxRecDepth 8000 in
theorem st132_86_14 (kz : am_Z) (d : Nat) (x1 x2 : Int) (U : Nat → Nat → Int) (R : Option am_V × am_M) (h : ((((U 86 70) ≤ x2 : Prop)) → Ev kz ((d + 1), 132, 46, [some (.inr (.inr 86)), some (.inl x1), some (.inl (-1)), some (.inl 0), none, none, none, none], [], (am_sh, am_mm U)) R) ∧ (¬ ((U 86 70) ≤ x2) → (0 ≤ (U 86 13) ∧ (U 86 13) < 2) ∧ Ev kz ((d + 1), 132, 14, [some (.inr (.inr 86)), some (.inl (w32 (x1 * (w32 ((U 90 (U 86 13).toNat) + 1))))), some (.inl (w32 (x2 + 1))), none, none, none, none, none], [], (am_sh, am_mm U)) R)) : Ev kz ((d + 1), 132, 14, [some (.inr (.inr 86)), some (.inl x1), some (.inl x2), none, none, none, none, none], [], (am_sh, am_mm U)) R := by
  refine ev_br (P := (U 86 70) ≤ x2) (σ1 := ((d + 1), 132, 42, [some (.inr (.inr 86)), some (.inl x1), some (.inl x2), none, none, none, none, none], [], (am_sh, am_mm U))) (σ2 := ((d + 1), 132, 22, [some (.inr (.inr 86)), some (.inl x1), some (.inl x2), none, none, none, none, none], [], (am_sh, am_mm U))) 4 (fun _ => rfl) (fun hc => ?_) (fun hc => ?_)
  · have h1 := h.1 hc
    refine ev_seg (σ1 := ((d + 1), 132, 46, [some (.inr (.inr 86)), some (.inl x1), some (.inl (-1)), some (.inl 0), none, none, none, none], [], (am_sh, am_mm U))) 4 (fun _ => rfl) ?_
    exact h1
  · have h2 := h.2 hc
    refine ev_seg (σ1 := ((d + 1), 132, 31, [some (.inr (.inr 86)), some (.inl x1), some (.inl x2), none, none, none, none, none], [.inl (U 86 13), .inr (.inr 90), .inl x1], (am_sh, am_mm U))) 5 (fun _ => rfl) ?_
    refine eu_iald 90 (n := 2) rfl (by decide) rfl (fun _ => rfl) h2.1 ?_
    have h2a := h2.2
    refine ev_seg (σ1 := ((d + 1), 132, 14, [some (.inr (.inr 86)), some (.inl (w32 (x1 * (w32 ((U 90 (U 86 13).toNat) + 1))))), some (.inl (w32 (x2 + 1))), none, none, none, none, none], [], (am_sh, am_mm U))) 6 (fun _ => rfl) ?_
    exact h2a
set_option maxRecDepth 8000 in
theorem st132_86_46 (kz : am_Z) (d : Nat) (x1 x2 x3 : Int) (U : Nat → Nat → Int) (R : Option am_V × am_M) (h : (((x1 ≤ x3 : Prop)) → R = (some (.inl x2), (am_sh, am_mm U))) ∧ (¬ (x1 ≤ x3) → Ev kz ((d + 1), 132, 65, [some (.inr (.inr 86)), some (.inl x1), some (.inl x2), some (.inl x3), some (.inl x3), some (.inl 0), some (.inl (w32 ((U 86 70) - 1))), none], [], (am_sh, am_mm U)) R)) : Ev kz ((d + 1), 132, 46, [some (.inr (.inr 86)), some (.inl x1), some (.inl x2), some (.inl x3), none, none, none, none], [], (am_sh, am_mm U)) R := by
  refine ev_br (P := x1 ≤ x3) (σ1 := ((d + 1), 132, 242, [some (.inr (.inr 86)), some (.inl x1), some (.inl x2), some (.inl x3), none, none, none, none], [], (am_sh, am_mm U))) (σ2 := ((d + 1), 132, 51, [some (.inr (.inr 86)), some (.inl x1), some (.inl x2), some (.inl x3), none, none, none, none], [], (am_sh, am_mm U))) 3 (fun _ => rfl) (fun hc => ?_) (fun hc => ?_)
  · have h1 := h.1 hc
    subst h1
    exact ev_end 2 (fun _ => rfl)
  · have h2 := h.2 hc
    refine ev_seg (σ1 := ((d + 1), 132, 65, [some (.inr (.inr 86)), some (.inl x1), some (.inl x2), some (.inl x3), some (.inl x3), some (.inl 0), some (.inl (w32 ((U 86 70) - 1))), none], [], (am_sh, am_mm U))) 9 (fun _ => rfl) ?_
    exact h2
set_option maxRecDepth 8000 in
theorem st132_86_65 (kz : am_Z) (d : Nat) (x1 x2 x3 x4 x5 x6 : Int) (U : Nat → Nat → Int) (R : Option am_V × am_M) (h : (((x6 < 0 : Prop)) → (((x5 ≤ x2 : Prop)) → Ev kz ((d + 1), 132, 46, [some (.inr (.inr 86)), some (.inl x1), some (.inl x2), some (.inl (w32 (x3 + 1))), some (.inl x4), some (.inl x5), some (.inl x6), none], [], (am_sh, am_mm U)) R) ∧ (¬ (x5 ≤ x2) → ∃ (r1 : Int) (U1 : Nat → Nat → Int), Ev kz (d, 217, 0, [some (.inr (.inr 86)), some (.inl 1), none], [], (am_sh, am_mm U)) (some (.inl r1), (am_sh, am_mm U1)) ∧ (((r1 = 0 : Prop)) → Ev kz ((d + 1), 132, 46, [some (.inr (.inr 86)), some (.inl x1), some (.inl x2), some (.inl (w32 (x3 + 1))), some (.inl x4), some (.inl x5), some (.inl x6), none], [], (am_sh, am_mm U1)) R) ∧ (¬ (r1 = 0) → ∃ (r2 : Int) (U2 : Nat → Nat → Int), Ev kz (d, 218, 0, [some (.inr (.inr 86)), none, none], [], (am_sh, am_mm U1)) (some (.inl r2), (am_sh, am_mm U2)) ∧ (((¬ r2 = 0 : Prop)) → Ev kz ((d + 1), 132, 197, [some (.inr (.inr 86)), some (.inl x1), some (.inl x5), some (.inl x3), some (.inl x4), some (.inl x5), some (.inl 0), none], [], (am_sh, am_mm U2)) R) ∧ (¬ (¬ r2 = 0) → Ev kz ((d + 1), 132, 46, [some (.inr (.inr 86)), some (.inl x1), some (.inl x2), some (.inl (w32 (x3 + 1))), some (.inl x4), some (.inl x5), some (.inl x6), none], [], (am_sh, am_mm U2)) R)))) ∧ (¬ (x6 < 0) → (0 ≤ (U 86 13) ∧ (U 86 13) < 2) ∧ (w32 ((U 90 (U 86 13).toNat) + 1)) ≠ 0 ∧ (0 ≤ (U 86 13) ∧ (U 86 13) < 2) ∧ (w32 ((U 90 (U 86 13).toNat) + 1)) ≠ 0 ∧ (0 ≤ x6 ∧ x6 < 16) ∧ (0 ≤ (U 86 13) ∧ (U 86 13) < 2) ∧ (((¬ (Int.tmod x4 (w32 ((U 90 (U 86 13).toNat) + 1))) = (U 90 (U 86 13).toNat) : Prop)) → (0 ≤ (w32 (16 + (U 126 x6.toNat))) ∧ (w32 (16 + (U 126 x6.toNat))) < 352) ∧ (0 ≤ ((am_upd U 124 (w32 (16 + (U 126 x6.toNat))).toNat (Int.tmod x4 (w32 ((U 90 (U 86 13).toNat) + 1)))) 86 13) ∧ ((am_upd U 124 (w32 (16 + (U 126 x6.toNat))).toNat (Int.tmod x4 (w32 ((U 90 (U 86 13).toNat) + 1)))) 86 13) < 2) ∧ (((¬ (Int.tmod x4 (w32 ((U 90 (U 86 13).toNat) + 1))) = ((am_upd U 124 (w32 (16 + (U 126 x6.toNat))).toNat (Int.tmod x4 (w32 ((U 90 (U 86 13).toNat) + 1)))) 90 ((am_upd U 124 (w32 (16 + (U 126 x6.toNat))).toNat (Int.tmod x4 (w32 ((U 90 (U 86 13).toNat) + 1)))) 86 13).toNat) : Prop)) → Ev kz ((d + 1), 132, 65, [some (.inr (.inr 86)), some (.inl x1), some (.inl x2), some (.inl x3), some (.inl (w32 (Int.tdiv x4 (w32 ((U 90 (U 86 13).toNat) + 1))))), some (.inl (w32 (x5 + 1))), some (.inl (w32 (x6 + (-1)))), some (.inl (Int.tmod x4 (w32 ((U 90 (U 86 13).toNat) + 1))))], [], (am_sh, am_mm (am_upd U 124 (w32 (16 + (U 126 x6.toNat))).toNat (Int.tmod x4 (w32 ((U 90 (U 86 13).toNat) + 1)))))) R) ∧ (¬ (¬ (Int.tmod x4 (w32 ((U 90 (U 86 13).toNat) + 1))) = ((am_upd U 124 (w32 (16 + (U 126 x6.toNat))).toNat (Int.tmod x4 (w32 ((U 90 (U 86 13).toNat) + 1)))) 90 ((am_upd U 124 (w32 (16 + (U 126 x6.toNat))).toNat (Int.tmod x4 (w32 ((U 90 (U 86 13).toNat) + 1)))) 86 13).toNat)) → Ev kz ((d + 1), 132, 65, [some (.inr (.inr 86)), some (.inl x1), some (.inl x2), some (.inl x3), some (.inl (w32 (Int.tdiv x4 (w32 ((U 90 (U 86 13).toNat) + 1))))), some (.inl (w32 (x5 + 0))), some (.inl (w32 (x6 + (-1)))), some (.inl (Int.tmod x4 (w32 ((U 90 (U 86 13).toNat) + 1))))], [], (am_sh, am_mm (am_upd U 124 (w32 (16 + (U 126 x6.toNat))).toNat (Int.tmod x4 (w32 ((U 90 (U 86 13).toNat) + 1)))))) R)) ∧ (¬ (¬ (Int.tmod x4 (w32 ((U 90 (U 86 13).toNat) + 1))) = (U 90 (U 86 13).toNat)) → (0 ≤ (w32 (16 + (U 126 x6.toNat))) ∧ (w32 (16 + (U 126 x6.toNat))) < 352) ∧ (0 ≤ ((am_upd U 124 (w32 (16 + (U 126 x6.toNat))).toNat (-1)) 86 13) ∧ ((am_upd U 124 (w32 (16 + (U 126 x6.toNat))).toNat (-1)) 86 13) < 2) ∧ (((¬ (Int.tmod x4 (w32 ((U 90 (U 86 13).toNat) + 1))) = ((am_upd U 124 (w32 (16 + (U 126 x6.toNat))).toNat (-1)) 90 ((am_upd U 124 (w32 (16 + (U 126 x6.toNat))).toNat (-1)) 86 13).toNat) : Prop)) → Ev kz ((d + 1), 132, 65, [some (.inr (.inr 86)), some (.inl x1), some (.inl x2), some (.inl x3), some (.inl (w32 (Int.tdiv x4 (w32 ((U 90 (U 86 13).toNat) + 1))))), some (.inl (w32 (x5 + 1))), some (.inl (w32 (x6 + (-1)))), some (.inl (Int.tmod x4 (w32 ((U 90 (U 86 13).toNat) + 1))))], [], (am_sh, am_mm (am_upd U 124 (w32 (16 + (U 126 x6.toNat))).toNat (-1)))) R) ∧ (¬ (¬ (Int.tmod x4 (w32 ((U 90 (U 86 13).toNat) + 1))) = ((am_upd U 124 (w32 (16 + (U 126 x6.toNat))).toNat (-1)) 90 ((am_upd U 124 (w32 (16 + (U 126 x6.toNat))).toNat (-1)) 86 13).toNat)) → Ev kz ((d + 1), 132, 65, [some (.inr (.inr 86)), some (.inl x1), some (.inl x2), some (.inl x3), some (.inl (w32 (Int.tdiv x4 (w32 ((U 90 (U 86 13).toNat) + 1))))), some (.inl (w32 (x5 + 0))), some (.inl (w32 (x6 + (-1)))), some (.inl (Int.tmod x4 (w32 ((U 90 (U 86 13).toNat) + 1))))], [], (am_sh, am_mm (am_upd U 124 (w32 (16 + (U 126 x6.toNat))).toNat (-1)))) R)))) : Ev kz ((d + 1), 132, 65, [some (.inr (.inr 86)), some (.inl x1), some (.inl x2), some (.inl x3), some (.inl x4), some (.inl x5), some (.inl x6), none], [], (am_sh, am_mm U)) R := by
  refine ev_br (P := x6 < 0) (σ1 := ((d + 1), 132, 167, [some (.inr (.inr 86)), some (.inl x1), some (.inl x2), some (.inl x3), some (.inl x4), some (.inl x5), some (.inl x6), none], [], (am_sh, am_mm U))) (σ2 := ((d + 1), 132, 70, [some (.inr (.inr 86)), some (.inl x1), some (.inl x2), some (.inl x3), some (.inl x4), some (.inl x5), some (.inl x6), none], [], (am_sh, am_mm U))) 2 (fun _ => rfl) (fun hc => ?_) (fun hc => ?_)
  · have h1 := h.1 hc
    refine ev_br (P := x5 ≤ x2) (σ1 := ((d + 1), 132, 236, [some (.inr (.inr 86)), some (.inl x1), some (.inl x2), some (.inl x3), some (.inl x4), some (.inl x5), some (.inl x6), none], [], (am_sh, am_mm U))) (σ2 := ((d + 1), 132, 173, [some (.inr (.inr 86)), some (.inl x1), some (.inl x2), some (.inl x3), some (.inl x4), some (.inl x5), some (.inl x6), none], [], (am_sh, am_mm U))) 3 (fun _ => rfl) (fun hc => ?_) (fun hc => ?_)
    · have h11 := h1.1 hc
      refine ev_seg (σ1 := ((d + 1), 132, 46, [some (.inr (.inr 86)), some (.inl x1), some (.inl x2), some (.inl (w32 (x3 + 1))), some (.inl x4), some (.inl x5), some (.inl x6), none], [], (am_sh, am_mm U))) 2 (fun _ => rfl) ?_
      exact h11
    · have h12 := h1.2 hc
      refine ev_seg (σ1 := ((d + 1), 132, 175, [some (.inr (.inr 86)), some (.inl x1), some (.inl x2), some (.inl x3), some (.inl x4), some (.inl x5), some (.inl x6), none], [.inl 1, .inr (.inr 86)], (am_sh, am_mm U))) 2 (fun _ => rfl) ?_
      obtain ⟨r1, U1, h12c, h12a⟩ := h12
      refine ev_cal (σc := (d, 217, 0, [some (.inr (.inr 86)), some (.inl 1), none], [], (am_sh, am_mm U))) (fun _ => rfl) h12c ?_
      show Ev kz ((d + 1), 132, 178, [some (.inr (.inr 86)), some (.inl x1), some (.inl x2), some (.inl x3), some (.inl x4), some (.inl x5), some (.inl x6), none], [.inl r1], (am_sh, am_mm U1)) R
      refine ev_br (P := r1 = 0) (σ1 := ((d + 1), 132, 236, [some (.inr (.inr 86)), some (.inl x1), some (.inl x2), some (.inl x3), some (.inl x4), some (.inl x5), some (.inl x6), none], [], (am_sh, am_mm U1))) (σ2 := ((d + 1), 132, 181, [some (.inr (.inr 86)), some (.inl x1), some (.inl x2), some (.inl x3), some (.inl x4), some (.inl x5), some (.inl x6), none], [], (am_sh, am_mm U1))) 1 (fun _ => rfl) (fun hc => ?_) (fun hc => ?_)
      · have h12a1 := h12a.1 hc
        refine ev_seg (σ1 := ((d + 1), 132, 46, [some (.inr (.inr 86)), some (.inl x1), some (.inl x2), some (.inl (w32 (x3 + 1))), some (.inl x4), some (.inl x5), some (.inl x6), none], [], (am_sh, am_mm U1))) 2 (fun _ => rfl) ?_
        exact h12a1
      · have h12a2 := h12a.2 hc
        refine ev_seg (σ1 := ((d + 1), 132, 182, [some (.inr (.inr 86)), some (.inl x1), some (.inl x2), some (.inl x3), some (.inl x4), some (.inl x5), some (.inl x6), none], [.inr (.inr 86)], (am_sh, am_mm U1))) 1 (fun _ => rfl) ?_
        obtain ⟨r2, U2, h12a2c, h12a2a⟩ := h12a2
        refine ev_cal (σc := (d, 218, 0, [some (.inr (.inr 86)), none, none], [], (am_sh, am_mm U1))) (fun _ => rfl) h12a2c ?_
        show Ev kz ((d + 1), 132, 185, [some (.inr (.inr 86)), some (.inl x1), some (.inl x2), some (.inl x3), some (.inl x4), some (.inl x5), some (.inl x6), none], [.inl r2], (am_sh, am_mm U2)) R
        refine ev_br (P := ¬ r2 = 0) (σ1 := ((d + 1), 132, 191, [some (.inr (.inr 86)), some (.inl x1), some (.inl x2), some (.inl x3), some (.inl x4), some (.inl x5), some (.inl x6), none], [], (am_sh, am_mm U2))) (σ2 := ((d + 1), 132, 188, [some (.inr (.inr 86)), some (.inl x1), some (.inl x2), some (.inl x3), some (.inl x4), some (.inl x5), some (.inl x6), none], [], (am_sh, am_mm U2))) 1 (fun _ => rfl) (fun hc => ?_) (fun hc => ?_)
        · have h12a2a1 := h12a2a.1 hc
          refine ev_seg (σ1 := ((d + 1), 132, 197, [some (.inr (.inr 86)), some (.inl x1), some (.inl x5), some (.inl x3), some (.inl x4), some (.inl x5), some (.inl 0), none], [], (am_sh, am_mm U2))) 4 (fun _ => rfl) ?_
          exact h12a2a1
        · have h12a2a2 := h12a2a.2 hc
          refine ev_seg (σ1 := ((d + 1), 132, 46, [some (.inr (.inr 86)), some (.inl x1), some (.inl x2), some (.inl (w32 (x3 + 1))), some (.inl x4), some (.inl x5), some (.inl x6), none], [], (am_sh, am_mm U2))) 3 (fun _ => rfl) ?_
          exact h12a2a2
  · have h2 := h.2 hc
    refine ev_seg (σ1 := ((d + 1), 132, 80, [some (.inr (.inr 86)), some (.inl x1), some (.inl x2), some (.inl x3), some (.inl x4), some (.inl x5), some (.inl x6), none], [.inl (U 86 13), .inr (.inr 90), .inl x4], (am_sh, am_mm U))) 5 (fun _ => rfl) ?_
    refine eu_iald 90 (n := 2) rfl (by decide) rfl (fun _ => rfl) h2.1 ?_
    have h2a := h2.2
    refine ev_seg (σ1 := ((d + 1), 132, 83, [some (.inr (.inr 86)), some (.inl x1), some (.inl x2), some (.inl x3), some (.inl x4), some (.inl x5), some (.inl x6), none], [.inl (w32 ((U 90 (U 86 13).toNat) + 1)), .inl x4], (am_sh, am_mm U))) 2 (fun _ => rfl) ?_
    refine ev_irem rfl h2a.1 ?_
    have h2aa := h2a.2
    refine ev_seg (σ1 := ((d + 1), 132, 96, [some (.inr (.inr 86)), some (.inl x1), some (.inl x2), some (.inl x3), some (.inl x4), some (.inl x5), some (.inl x6), some (.inl (Int.tmod x4 (w32 ((U 90 (U 86 13).toNat) + 1))))], [.inl (U 86 13), .inr (.inr 90), .inl x4], (am_sh, am_mm U))) 6 (fun _ => rfl) ?_
    refine eu_iald 90 (n := 2) rfl (by decide) rfl (fun _ => rfl) h2aa.1 ?_
    have h2aaa := h2aa.2
    refine ev_seg (σ1 := ((d + 1), 132, 99, [some (.inr (.inr 86)), some (.inl x1), some (.inl x2), some (.inl x3), some (.inl x4), some (.inl x5), some (.inl x6), some (.inl (Int.tmod x4 (w32 ((U 90 (U 86 13).toNat) + 1))))], [.inl (w32 ((U 90 (U 86 13).toNat) + 1)), .inl x4], (am_sh, am_mm U))) 2 (fun _ => rfl) ?_
    refine ev_idiv rfl h2aaa.1 ?_
    have h2aaaa := h2aaa.2
    refine ev_seg (σ1 := ((d + 1), 132, 114, [some (.inr (.inr 86)), some (.inl x1), some (.inl x2), some (.inl x3), some (.inl (w32 (Int.tdiv x4 (w32 ((U 90 (U 86 13).toNat) + 1))))), some (.inl x5), some (.inl x6), some (.inl (Int.tmod x4 (w32 ((U 90 (U 86 13).toNat) + 1))))], [.inl x6, .inr (.inr 126), .inl 16, .inr (.inr 124)], (am_sh, am_mm U))) 7 (fun _ => rfl) ?_
    refine eu_iald 126 (n := 16) rfl (by decide) rfl (fun _ => rfl) h2aaaa.1 ?_
    have h2aaaaa := h2aaaa.2
    refine ev_seg (σ1 := ((d + 1), 132, 126, [some (.inr (.inr 86)), some (.inl x1), some (.inl x2), some (.inl x3), some (.inl (w32 (Int.tdiv x4 (w32 ((U 90 (U 86 13).toNat) + 1))))), some (.inl x5), some (.inl x6), some (.inl (Int.tmod x4 (w32 ((U 90 (U 86 13).toNat) + 1))))], [.inl (U 86 13), .inr (.inr 90), .inl (Int.tmod x4 (w32 ((U 90 (U 86 13).toNat) + 1))), .inl (w32 (16 + (U 126 x6.toNat))), .inr (.inr 124)], (am_sh, am_mm U))) 6 (fun _ => rfl) ?_
    refine eu_iald 90 (n := 2) rfl (by decide) rfl (fun _ => rfl) h2aaaaa.1 ?_
    have h2aaaaaa := h2aaaaa.2
    refine ev_br (P := ¬ (Int.tmod x4 (w32 ((U 90 (U 86 13).toNat) + 1))) = (U 90 (U 86 13).toNat)) (σ1 := ((d + 1), 132, 134, [some (.inr (.inr 86)), some (.inl x1), some (.inl x2), some (.inl x3), some (.inl (w32 (Int.tdiv x4 (w32 ((U 90 (U 86 13).toNat) + 1))))), some (.inl x5), some (.inl x6), some (.inl (Int.tmod x4 (w32 ((U 90 (U 86 13).toNat) + 1))))], [.inl (w32 (16 + (U 126 x6.toNat))), .inr (.inr 124)], (am_sh, am_mm U))) (σ2 := ((d + 1), 132, 130, [some (.inr (.inr 86)), some (.inl x1), some (.inl x2), some (.inl x3), some (.inl (w32 (Int.tdiv x4 (w32 ((U 90 (U 86 13).toNat) + 1))))), some (.inl x5), some (.inl x6), some (.inl (Int.tmod x4 (w32 ((U 90 (U 86 13).toNat) + 1))))], [.inl (w32 (16 + (U 126 x6.toNat))), .inr (.inr 124)], (am_sh, am_mm U))) 1 (fun _ => rfl) (fun hc => ?_) (fun hc => ?_)
    · have h2aaaaaa1 := h2aaaaaa.1 hc
      refine ev_seg (σ1 := ((d + 1), 132, 136, [some (.inr (.inr 86)), some (.inl x1), some (.inl x2), some (.inl x3), some (.inl (w32 (Int.tdiv x4 (w32 ((U 90 (U 86 13).toNat) + 1))))), some (.inl x5), some (.inl x6), some (.inl (Int.tmod x4 (w32 ((U 90 (U 86 13).toNat) + 1))))], [.inl (Int.tmod x4 (w32 ((U 90 (U 86 13).toNat) + 1))), .inl (w32 (16 + (U 126 x6.toNat))), .inr (.inr 124)], (am_sh, am_mm U))) 1 (fun _ => rfl) ?_
      refine eu_iast 124 (n := 352) rfl (by decide) rfl (fun _ => rfl) h2aaaaaa1.1 ?_
      have h2aaaaaa1a := h2aaaaaa1.2
      refine ev_seg (σ1 := ((d + 1), 132, 149, [some (.inr (.inr 86)), some (.inl x1), some (.inl x2), some (.inl x3), some (.inl (w32 (Int.tdiv x4 (w32 ((U 90 (U 86 13).toNat) + 1))))), some (.inl x5), some (.inl x6), some (.inl (Int.tmod x4 (w32 ((U 90 (U 86 13).toNat) + 1))))], [.inl ((am_upd U 124 (w32 (16 + (U 126 x6.toNat))).toNat (Int.tmod x4 (w32 ((U 90 (U 86 13).toNat) + 1)))) 86 13), .inr (.inr 90), .inl (Int.tmod x4 (w32 ((U 90 (U 86 13).toNat) + 1))), .inl x5], (am_sh, am_mm (am_upd U 124 (w32 (16 + (U 126 x6.toNat))).toNat (Int.tmod x4 (w32 ((U 90 (U 86 13).toNat) + 1))))))) 6 (fun _ => rfl) ?_
      refine eu_iald 90 (n := 2) rfl (by decide) rfl (fun _ => rfl) h2aaaaaa1a.1 ?_
      have h2aaaaaa1aa := h2aaaaaa1a.2
      refine ev_br (P := ¬ (Int.tmod x4 (w32 ((U 90 (U 86 13).toNat) + 1))) = ((am_upd U 124 (w32 (16 + (U 126 x6.toNat))).toNat (Int.tmod x4 (w32 ((U 90 (U 86 13).toNat) + 1)))) 90 ((am_upd U 124 (w32 (16 + (U 126 x6.toNat))).toNat (Int.tmod x4 (w32 ((U 90 (U 86 13).toNat) + 1)))) 86 13).toNat)) (σ1 := ((d + 1), 132, 157, [some (.inr (.inr 86)), some (.inl x1), some (.inl x2), some (.inl x3), some (.inl (w32 (Int.tdiv x4 (w32 ((U 90 (U 86 13).toNat) + 1))))), some (.inl x5), some (.inl x6), some (.inl (Int.tmod x4 (w32 ((U 90 (U 86 13).toNat) + 1))))], [.inl x5], (am_sh, am_mm (am_upd U 124 (w32 (16 + (U 126 x6.toNat))).toNat (Int.tmod x4 (w32 ((U 90 (U 86 13).toNat) + 1))))))) (σ2 := ((d + 1), 132, 153, [some (.inr (.inr 86)), some (.inl x1), some (.inl x2), some (.inl x3), some (.inl (w32 (Int.tdiv x4 (w32 ((U 90 (U 86 13).toNat) + 1))))), some (.inl x5), some (.inl x6), some (.inl (Int.tmod x4 (w32 ((U 90 (U 86 13).toNat) + 1))))], [.inl x5], (am_sh, am_mm (am_upd U 124 (w32 (16 + (U 126 x6.toNat))).toNat (Int.tmod x4 (w32 ((U 90 (U 86 13).toNat) + 1))))))) 1 (fun _ => rfl) (fun hc => ?_) (fun hc => ?_)
      · have h2aaaaaa1aa1 := h2aaaaaa1aa.1 hc
        refine ev_seg (σ1 := ((d + 1), 132, 65, [some (.inr (.inr 86)), some (.inl x1), some (.inl x2), some (.inl x3), some (.inl (w32 (Int.tdiv x4 (w32 ((U 90 (U 86 13).toNat) + 1))))), some (.inl (w32 (x5 + 1))), some (.inl (w32 (x6 + (-1)))), some (.inl (Int.tmod x4 (w32 ((U 90 (U 86 13).toNat) + 1))))], [], (am_sh, am_mm (am_upd U 124 (w32 (16 + (U 126 x6.toNat))).toNat (Int.tmod x4 (w32 ((U 90 (U 86 13).toNat) + 1))))))) 5 (fun _ => rfl) ?_
        exact h2aaaaaa1aa1
      · have h2aaaaaa1aa2 := h2aaaaaa1aa.2 hc
        refine ev_seg (σ1 := ((d + 1), 132, 65, [some (.inr (.inr 86)), some (.inl x1), some (.inl x2), some (.inl x3), some (.inl (w32 (Int.tdiv x4 (w32 ((U 90 (U 86 13).toNat) + 1))))), some (.inl (w32 (x5 + 0))), some (.inl (w32 (x6 + (-1)))), some (.inl (Int.tmod x4 (w32 ((U 90 (U 86 13).toNat) + 1))))], [], (am_sh, am_mm (am_upd U 124 (w32 (16 + (U 126 x6.toNat))).toNat (Int.tmod x4 (w32 ((U 90 (U 86 13).toNat) + 1))))))) 6 (fun _ => rfl) ?_
        exact h2aaaaaa1aa2
    · have h2aaaaaa2 := h2aaaaaa.2 hc
      refine ev_seg (σ1 := ((d + 1), 132, 136, [some (.inr (.inr 86)), some (.inl x1), some (.inl x2), some (.inl x3), some (.inl (w32 (Int.tdiv x4 (w32 ((U 90 (U 86 13).toNat) + 1))))), some (.inl x5), some (.inl x6), some (.inl (Int.tmod x4 (w32 ((U 90 (U 86 13).toNat) + 1))))], [.inl (-1), .inl (w32 (16 + (U 126 x6.toNat))), .inr (.inr 124)], (am_sh, am_mm U))) 2 (fun _ => rfl) ?_
      refine eu_iast 124 (n := 352) rfl (by decide) rfl (fun _ => rfl) h2aaaaaa2.1 ?_
      have h2aaaaaa2a := h2aaaaaa2.2
      refine ev_seg (σ1 := ((d + 1), 132, 149, [some (.inr (.inr 86)), some (.inl x1), some (.inl x2), some (.inl x3), some (.inl (w32 (Int.tdiv x4 (w32 ((U 90 (U 86 13).toNat) + 1))))), some (.inl x5), some (.inl x6), some (.inl (Int.tmod x4 (w32 ((U 90 (U 86 13).toNat) + 1))))], [.inl ((am_upd U 124 (w32 (16 + (U 126 x6.toNat))).toNat (-1)) 86 13), .inr (.inr 90), .inl (Int.tmod x4 (w32 ((U 90 (U 86 13).toNat) + 1))), .inl x5], (am_sh, am_mm (am_upd U 124 (w32 (16 + (U 126 x6.toNat))).toNat (-1))))) 6 (fun _ => rfl) ?_
      refine eu_iald 90 (n := 2) rfl (by decide) rfl (fun _ => rfl) h2aaaaaa2a.1 ?_
      have h2aaaaaa2aa := h2aaaaaa2a.2
      refine ev_br (P := ¬ (Int.tmod x4 (w32 ((U 90 (U 86 13).toNat) + 1))) = ((am_upd U 124 (w32 (16 + (U 126 x6.toNat))).toNat (-1)) 90 ((am_upd U 124 (w32 (16 + (U 126 x6.toNat))).toNat (-1)) 86 13).toNat)) (σ1 := ((d + 1), 132, 157, [some (.inr (.inr 86)), some (.inl x1), some (.inl x2), some (.inl x3), some (.inl (w32 (Int.tdiv x4 (w32 ((U 90 (U 86 13).toNat) + 1))))), some (.inl x5), some (.inl x6), some (.inl (Int.tmod x4 (w32 ((U 90 (U 86 13).toNat) + 1))))], [.inl x5], (am_sh, am_mm (am_upd U 124 (w32 (16 + (U 126 x6.toNat))).toNat (-1))))) (σ2 := ((d + 1), 132, 153, [some (.inr (.inr 86)), some (.inl x1), some (.inl x2), some (.inl x3), some (.inl (w32 (Int.tdiv x4 (w32 ((U 90 (U 86 13).toNat) + 1))))), some (.inl x5), some (.inl x6), some (.inl (Int.tmod x4 (w32 ((U 90 (U 86 13).toNat) + 1))))], [.inl x5], (am_sh, am_mm (am_upd U 124 (w32 (16 + (U 126 x6.toNat))).toNat (-1))))) 1 (fun _ => rfl) (fun hc => ?_) (fun hc => ?_)
      · have h2aaaaaa2aa1 := h2aaaaaa2aa.1 hc
        refine ev_seg (σ1 := ((d + 1), 132, 65, [some (.inr (.inr 86)), some (.inl x1), some (.inl x2), some (.inl x3), some (.inl (w32 (Int.tdiv x4 (w32 ((U 90 (U 86 13).toNat) + 1))))), some (.inl (w32 (x5 + 1))), some (.inl (w32 (x6 + (-1)))), some (.inl (Int.tmod x4 (w32 ((U 90 (U 86 13).toNat) + 1))))], [], (am_sh, am_mm (am_upd U 124 (w32 (16 + (U 126 x6.toNat))).toNat (-1))))) 5 (fun _ => rfl) ?_
        exact h2aaaaaa2aa1
      · have h2aaaaaa2aa2 := h2aaaaaa2aa.2 hc
        refine ev_seg (σ1 := ((d + 1), 132, 65, [some (.inr (.inr 86)), some (.inl x1), some (.inl x2), some (.inl x3), some (.inl (w32 (Int.tdiv x4 (w32 ((U 90 (U 86 13).toNat) + 1))))), some (.inl (w32 (x5 + 0))), some (.inl (w32 (x6 + (-1)))), some (.inl (Int.tmod x4 (w32 ((U 90 (U 86 13).toNat) + 1))))], [], (am_sh, am_mm (am_upd U 124 (w32 (16 + (U 126 x6.toNat))).toNat (-1))))) 6 (fun _ => rfl) ?_
        exact h2aaaaaa2aa2
set_option maxRecDepth 8000 in
theorem st132_86_197 (kz : am_Z) (d : Nat) (x1 x2 x3 x4 x5 x6 : Int) (U : Nat → Nat → Int) (R : Option am_V × am_M) (h : ((((U 86 70) ≤ x6 : Prop)) → Ev kz ((d + 1), 132, 46, [some (.inr (.inr 86)), some (.inl x1), some (.inl x2), some (.inl (w32 (x3 + 1))), some (.inl x4), some (.inl x5), some (.inl x6), none], [], (am_sh, am_mm U)) R) ∧ (¬ ((U 86 70) ≤ x6) → (0 ≤ x6 ∧ x6 < 16) ∧ (0 ≤ x6 ∧ x6 < 16) ∧ ∃ (r1 : Int) (U1 : Nat → Nat → Int), Ev kz (d, 200, 0, [some (.inr (.inr 86)), some (.inl 1), some (.inl (U 126 x6.toNat))], [], (am_sh, am_mm U)) (some (.inl r1), (am_sh, am_mm U1)) ∧ (0 ≤ (U 126 x6.toNat) ∧ (U 126 x6.toNat) < 16) ∧ Ev kz ((d + 1), 132, 197, [some (.inr (.inr 86)), some (.inl x1), some (.inl x2), some (.inl x3), some (.inl x4), some (.inl x5), some (.inl (w32 (x6 + 1))), none], [], (am_sh, am_mm (am_upd U1 127 (U 126 x6.toNat).toNat r1))) R)) : Ev kz ((d + 1), 132, 197, [some (.inr (.inr 86)), some (.inl x1), some (.inl x2), some (.inl x3), some (.inl x4), some (.inl x5), some (.inl x6), none], [], (am_sh, am_mm U)) R := by
  refine ev_br (P := (U 86 70) ≤ x6) (σ1 := ((d + 1), 132, 236, [some (.inr (.inr 86)), some (.inl x1), some (.inl x2), some (.inl x3), some (.inl x4), some (.inl x5), some (.inl x6), none], [], (am_sh, am_mm U))) (σ2 := ((d + 1), 132, 206, [some (.inr (.inr 86)), some (.inl x1), some (.inl x2), some (.inl x3), some (.inl x4), some (.inl x5), some (.inl x6), none], [], (am_sh, am_mm U))) 4 (fun _ => rfl) (fun hc => ?_) (fun hc => ?_)
  · have h1 := h.1 hc
    refine ev_seg (σ1 := ((d + 1), 132, 46, [some (.inr (.inr 86)), some (.inl x1), some (.inl x2), some (.inl (w32 (x3 + 1))), some (.inl x4), some (.inl x5), some (.inl x6), none], [], (am_sh, am_mm U))) 2 (fun _ => rfl) ?_
    exact h1
  · have h2 := h.2 hc
    refine ev_seg (σ1 := ((d + 1), 132, 216, [some (.inr (.inr 86)), some (.inl x1), some (.inl x2), some (.inl x3), some (.inl x4), some (.inl x5), some (.inl x6), none], [.inl x6, .inr (.inr 126), .inr (.inr 127)], (am_sh, am_mm U))) 5 (fun _ => rfl) ?_
    refine eu_iald 126 (n := 16) rfl (by decide) rfl (fun _ => rfl) h2.1 ?_
    have h2a := h2.2
    refine ev_seg (σ1 := ((d + 1), 132, 225, [some (.inr (.inr 86)), some (.inl x1), some (.inl x2), some (.inl x3), some (.inl x4), some (.inl x5), some (.inl x6), none], [.inl x6, .inr (.inr 126), .inl 1, .inr (.inr 86), .inl (U 126 x6.toNat), .inr (.inr 127)], (am_sh, am_mm U))) 5 (fun _ => rfl) ?_
    refine eu_iald 126 (n := 16) rfl (by decide) rfl (fun _ => rfl) h2a.1 ?_
    have h2aa := h2a.2
    obtain ⟨r1, U1, h2aac, h2aaa⟩ := h2aa
    refine ev_cal (σc := (d, 200, 0, [some (.inr (.inr 86)), some (.inl 1), some (.inl (U 126 x6.toNat))], [], (am_sh, am_mm U))) (fun _ => rfl) h2aac ?_
    show Ev kz ((d + 1), 132, 229, [some (.inr (.inr 86)), some (.inl x1), some (.inl x2), some (.inl x3), some (.inl x4), some (.inl x5), some (.inl x6), none], [.inl r1, .inl (U 126 x6.toNat), .inr (.inr 127)], (am_sh, am_mm U1)) R
    refine eu_iast 127 (n := 16) rfl (by decide) rfl (fun _ => rfl) h2aaa.1 ?_
    have h2aaaa := h2aaa.2
    refine ev_seg (σ1 := ((d + 1), 132, 197, [some (.inr (.inr 86)), some (.inl x1), some (.inl x2), some (.inl x3), some (.inl x4), some (.inl x5), some (.inl (w32 (x6 + 1))), none], [], (am_sh, am_mm (am_upd U1 127 (U 126 x6.toNat).toNat r1)))) 2 (fun _ => rfl) ?_
    exact h2aaaa
set_option maxRecDepth 8000 in
theorem st133_3_0 (kz : am_Z) (d : Nat) (x1 : Int) (U : Nat → Nat → Int) (R : Option am_V × am_M) (h : (((x1 < 0 : Prop)) → (((¬ x1 = 8 : Prop)) → R = (some (.inl 0), (am_sh, am_mm U))) ∧ (¬ (¬ x1 = 8) → (0 ≤ x1 ∧ x1 < 9) ∧ (0 ≤ x1 ∧ x1 < 9) ∧ ((((U 14 x1.toNat) ≤ (U 13 x1.toNat) : Prop)) → R = (some (.inl 0), (am_sh, am_mm U))) ∧ (¬ ((U 14 x1.toNat) ≤ (U 13 x1.toNat)) → R = (some (.inl 1), (am_sh, am_mm U))))) ∧ (¬ (x1 < 0) → (((x1 < (U 3 4) : Prop)) → R = (some (.inl 1), (am_sh, am_mm U))) ∧ (¬ (x1 < (U 3 4)) → (((¬ x1 = 8 : Prop)) → R = (some (.inl 0), (am_sh, am_mm U))) ∧ (¬ (¬ x1 = 8) → (0 ≤ x1 ∧ x1 < 9) ∧ (0 ≤ x1 ∧ x1 < 9) ∧ ((((U 14 x1.toNat) ≤ (U 13 x1.toNat) : Prop)) → R = (some (.inl 0), (am_sh, am_mm U))) ∧ (¬ ((U 14 x1.toNat) ≤ (U 13 x1.toNat)) → R = (some (.inl 1), (am_sh, am_mm U))))))) : Ev kz (d, 133, 0, [some (.inr (.inr 3)), some (.inl x1)], [], (am_sh, am_mm U)) R := by
  refine ev_br (P := x1 < 0) (σ1 := (d, 133, 12, [some (.inr (.inr 3)), some (.inl x1)], [], (am_sh, am_mm U))) (σ2 := (d, 133, 4, [some (.inr (.inr 3)), some (.inl x1)], [], (am_sh, am_mm U))) 2 (fun _ => rfl) (fun hc => ?_) (fun hc => ?_)
  · have h1 := h.1 hc
    refine ev_br (P := ¬ x1 = 8) (σ1 := (d, 133, 37, [some (.inr (.inr 3)), some (.inl x1)], [], (am_sh, am_mm U))) (σ2 := (d, 133, 18, [some (.inr (.inr 3)), some (.inl x1)], [], (am_sh, am_mm U))) 3 (fun _ => rfl) (fun hc => ?_) (fun hc => ?_)
    · have h11 := h1.1 hc
      subst h11
      exact ev_end 2 (fun _ => rfl)
    · have h12 := h1.2 hc
      refine ev_seg (σ1 := (d, 133, 23, [some (.inr (.inr 3)), some (.inl x1)], [.inl x1, .inr (.inr 13)], (am_sh, am_mm U))) 3 (fun _ => rfl) ?_
      refine eu_iald 13 (n := 9) rfl (by decide) rfl (fun _ => rfl) h12.1 ?_
      have h12a := h12.2
      refine ev_seg (σ1 := (d, 133, 29, [some (.inr (.inr 3)), some (.inl x1)], [.inl x1, .inr (.inr 14), .inl (U 13 x1.toNat)], (am_sh, am_mm U))) 3 (fun _ => rfl) ?_
      refine eu_iald 14 (n := 9) rfl (by decide) rfl (fun _ => rfl) h12a.1 ?_
      have h12aa := h12a.2
      refine ev_br (P := (U 14 x1.toNat) ≤ (U 13 x1.toNat)) (σ1 := (d, 133, 37, [some (.inr (.inr 3)), some (.inl x1)], [], (am_sh, am_mm U))) (σ2 := (d, 133, 33, [some (.inr (.inr 3)), some (.inl x1)], [], (am_sh, am_mm U))) 1 (fun _ => rfl) (fun hc => ?_) (fun hc => ?_)
      · have h12aa1 := h12aa.1 hc
        subst h12aa1
        exact ev_end 2 (fun _ => rfl)
      · have h12aa2 := h12aa.2 hc
        subst h12aa2
        exact ev_end 3 (fun _ => rfl)
  · have h2 := h.2 hc
    refine ev_br (P := x1 < (U 3 4)) (σ1 := (d, 133, 33, [some (.inr (.inr 3)), some (.inl x1)], [], (am_sh, am_mm U))) (σ2 := (d, 133, 12, [some (.inr (.inr 3)), some (.inl x1)], [], (am_sh, am_mm U))) 4 (fun _ => rfl) (fun hc => ?_) (fun hc => ?_)
    · have h21 := h2.1 hc
      subst h21
      exact ev_end 3 (fun _ => rfl)
    · have h22 := h2.2 hc
      refine ev_br (P := ¬ x1 = 8) (σ1 := (d, 133, 37, [some (.inr (.inr 3)), some (.inl x1)], [], (am_sh, am_mm U))) (σ2 := (d, 133, 18, [some (.inr (.inr 3)), some (.inl x1)], [], (am_sh, am_mm U))) 3 (fun _ => rfl) (fun hc => ?_) (fun hc => ?_)
      · have h221 := h22.1 hc
        subst h221
        exact ev_end 2 (fun _ => rfl)
      · have h222 := h22.2 hc
        refine ev_seg (σ1 := (d, 133, 23, [some (.inr (.inr 3)), some (.inl x1)], [.inl x1, .inr (.inr 13)], (am_sh, am_mm U))) 3 (fun _ => rfl) ?_
        refine eu_iald 13 (n := 9) rfl (by decide) rfl (fun _ => rfl) h222.1 ?_
        have h222a := h222.2
        refine ev_seg (σ1 := (d, 133, 29, [some (.inr (.inr 3)), some (.inl x1)], [.inl x1, .inr (.inr 14), .inl (U 13 x1.toNat)], (am_sh, am_mm U))) 3 (fun _ => rfl) ?_
        refine eu_iald 14 (n := 9) rfl (by decide) rfl (fun _ => rfl) h222a.1 ?_
        have h222aa := h222a.2
        refine ev_br (P := (U 14 x1.toNat) ≤ (U 13 x1.toNat)) (σ1 := (d, 133, 37, [some (.inr (.inr 3)), some (.inl x1)], [], (am_sh, am_mm U))) (σ2 := (d, 133, 33, [some (.inr (.inr 3)), some (.inl x1)], [], (am_sh, am_mm U))) 1 (fun _ => rfl) (fun hc => ?_) (fun hc => ?_)
        · have h222aa1 := h222aa.1 hc
          subst h222aa1
          exact ev_end 2 (fun _ => rfl)
        · have h222aa2 := h222aa.2 hc
          subst h222aa2
          exact ev_end 3 (fun _ => rfl)
set_option maxRecDepth 8000 in
theorem st134_45_0 (kz : am_Z) (d : Nat) (x1 x2 x3 : Int) (U : Nat → Nat → Int) (R : Option am_V × am_M) (h : (((x1 < 0 : Prop)) → R = (some (.inl 0), (am_sh, am_mm U))) ∧ (¬ (x1 < 0) → (((x1 ≤ 8 : Prop)) → (0 ≤ x1 ∧ x1 < 9) ∧ (0 ≤ x1 ∧ x1 < 9) ∧ Ev kz ((d + 1), 134, 50, [some (.inr (.inr 45)), some (.inl x1), some (.inl x2), some (.inl x3), some (.inl (if 1600 < ((am_upd U 45 3 0) 14 x1.toNat) then 1600 else ((am_upd U 45 3 0) 14 x1.toNat))), some (.inl ((am_upd U 45 3 0) 13 x1.toNat)), none, none, none], [], (am_sh, am_mm (am_upd U 45 3 0))) R) ∧ (¬ (x1 ≤ 8) → R = (some (.inl 0), (am_sh, am_mm U))))) : Ev kz ((d + 1), 134, 0, [some (.inr (.inr 45)), some (.inl x1), some (.inl x2), some (.inl x3), none, none, none, none, none], [], (am_sh, am_mm U)) R := by
  refine ev_br (P := x1 < 0) (σ1 := ((d + 1), 134, 10, [some (.inr (.inr 45)), some (.inl x1), some (.inl x2), some (.inl x3), none, none, none, none, none], [], (am_sh, am_mm U))) (σ2 := ((d + 1), 134, 4, [some (.inr (.inr 45)), some (.inl x1), some (.inl x2), some (.inl x3), none, none, none, none, none], [], (am_sh, am_mm U))) 2 (fun _ => rfl) (fun hc => ?_) (fun hc => ?_)
  · have h1 := h.1 hc
    subst h1
    exact ev_end 2 (fun _ => rfl)
  · have h2 := h.2 hc
    refine ev_br (P := x1 ≤ 8) (σ1 := ((d + 1), 134, 12, [some (.inr (.inr 45)), some (.inl x1), some (.inl x2), some (.inl x3), none, none, none, none, none], [], (am_sh, am_mm U))) (σ2 := ((d + 1), 134, 10, [some (.inr (.inr 45)), some (.inl x1), some (.inl x2), some (.inl x3), none, none, none, none, none], [], (am_sh, am_mm U))) 3 (fun _ => rfl) (fun hc => ?_) (fun hc => ?_)
    · have h21 := h2.1 hc
      refine ev_seg (σ1 := ((d + 1), 134, 14, [some (.inr (.inr 45)), some (.inl x1), some (.inl x2), some (.inl x3), none, none, none, none, none], [.inl 0, .inr (.inr 45)], (am_sh, am_mm U))) 2 (fun _ => rfl) ?_
      refine eu_puti 45 (n := 6) rfl (by decide) rfl rfl ?_
      refine ev_seg (σ1 := ((d + 1), 134, 25, [some (.inr (.inr 45)), some (.inl x1), some (.inl x2), some (.inl x3), none, none, none, none, none], [.inl x1, .inr (.inr 14)], (am_sh, am_mm (am_upd U 45 3 0)))) 4 (fun _ => rfl) ?_
      refine eu_iald 14 (n := 9) rfl (by decide) rfl (fun _ => rfl) h21.1 ?_
      have h21a := h21.2
      refine ev_seg (σ1 := ((d + 1), 134, 47, [some (.inr (.inr 45)), some (.inl x1), some (.inl x2), some (.inl x3), some (.inl (if 1600 < ((am_upd U 45 3 0) 14 x1.toNat) then 1600 else ((am_upd U 45 3 0) 14 x1.toNat))), none, none, none, none], [.inl x1, .inr (.inr 13)], (am_sh, am_mm (am_upd U 45 3 0)))) 10 (fun _ => rfl) ?_
      refine eu_iald 13 (n := 9) rfl (by decide) rfl (fun _ => rfl) h21a.1 ?_
      have h21aa := h21a.2
      refine ev_seg (σ1 := ((d + 1), 134, 50, [some (.inr (.inr 45)), some (.inl x1), some (.inl x2), some (.inl x3), some (.inl (if 1600 < ((am_upd U 45 3 0) 14 x1.toNat) then 1600 else ((am_upd U 45 3 0) 14 x1.toNat))), some (.inl ((am_upd U 45 3 0) 13 x1.toNat)), none, none, none], [], (am_sh, am_mm (am_upd U 45 3 0)))) 1 (fun _ => rfl) ?_
      exact h21aa
    · have h22 := h2.2 hc
      subst h22
      exact ev_end 2 (fun _ => rfl)
set_option maxRecDepth 8000 in
theorem st134_45_50 (kz : am_Z) (d : Nat) (x1 x2 x3 x4 x5 : Int) (U : Nat → Nat → Int) (R : Option am_V × am_M) (h : (((x4 ≤ x5 : Prop)) → ∃ (r1 : Int) (U1 : Nat → Nat → Int), Ev kz (d, 220, 0, [some (.inr (.inr 45))], [], (am_sh, am_mm U)) (some (.inl r1), (am_sh, am_mm U1)) ∧ (((r1 = 0 : Prop)) → R = (some (.inl 0), (am_sh, am_mm U1))) ∧ (¬ (r1 = 0) → R = (some (.inl 1), (am_sh, am_mm U1)))) ∧ (¬ (x4 ≤ x5) → (0 ≤ x5 ∧ x5 < 1600) ∧ ((((U 15 x5.toNat) < 0 : Prop)) → ((((-100) < (U 15 x5.toNat) : Prop)) → (((16 < (w32 ((-1) - (U 15 x5.toNat))) : Prop)) → ∃ U2 : Nat → Nat → Int, Ev kz (d, 223, 0, [some (.inr (.inr 45)), some (.inl (w32 ((-1) - (U 15 x5.toNat))))], [], (am_sh, am_mm U)) (none, (am_sh, am_mm U2)) ∧ Ev kz ((d + 1), 134, 50, [some (.inr (.inr 45)), some (.inl x1), some (.inl x2), some (.inl x3), some (.inl x4), some (.inl (w32 (x5 + 1))), some (.inl (U 15 x5.toNat)), some (.inl (w32 ((-1) - (U 15 x5.toNat)))), none], [], (am_sh, am_mm U2)) R) ∧ (¬ (16 < (w32 ((-1) - (U 15 x5.toNat)))) → ∃ (r3 : Int) (U3 : Nat → Nat → Int), Ev kz (d, 222, 0, [some (.inr (.inr 45)), some (.inl (w32 ((-1) - (U 15 x5.toNat)))), some (.inl x2), some (.inl x3), none, none], [], (am_sh, am_mm U)) (some (.inl r3), (am_sh, am_mm U3)) ∧ ∃ U4 : Nat → Nat → Int, Ev kz (d, 219, 0, [some (.inr (.inr 45)), some (.inl r3)], [], (am_sh, am_mm U3)) (none, (am_sh, am_mm U4)) ∧ Ev kz ((d + 1), 134, 50, [some (.inr (.inr 45)), some (.inl x1), some (.inl x2), some (.inl x3), some (.inl x4), some (.inl (w32 (x5 + 1))), some (.inl (U 15 x5.toNat)), some (.inl (w32 ((-1) - (U 15 x5.toNat)))), none], [], (am_sh, am_mm U4)) R)) ∧ (¬ ((-100) < (U 15 x5.toNat)) → ∃ (r5 : Int) (U5 : Nat → Nat → Int), Ev kz (d, 220, 0, [some (.inr (.inr 45))], [], (am_sh, am_mm U)) (some (.inl r5), (am_sh, am_mm U5)) ∧ ∃ (r6 : Int) (U6 : Nat → Nat → Int), Ev kz (d, 220, 0, [some (.inr (.inr 45))], [], (am_sh, am_mm U5)) (some (.inl r6), (am_sh, am_mm U6)) ∧ ∃ (r7 : Int) (U7 : Nat → Nat → Int), Ev kz (d, 221, 0, [some (.inl (w32 ((-100) - (U 15 x5.toNat)))), some (.inl r6), some (.inl r5), none, none], [], (am_sh, am_mm U6)) (some (.inl r7), (am_sh, am_mm U7)) ∧ ∃ U8 : Nat → Nat → Int, Ev kz (d, 219, 0, [some (.inr (.inr 45)), some (.inl r7)], [], (am_sh, am_mm U7)) (none, (am_sh, am_mm U8)) ∧ Ev kz ((d + 1), 134, 50, [some (.inr (.inr 45)), some (.inl x1), some (.inl x2), some (.inl x3), some (.inl x4), some (.inl (w32 (x5 + 1))), some (.inl (U 15 x5.toNat)), some (.inl (w32 ((-1) - (U 15 x5.toNat)))), some (.inl r5)], [], (am_sh, am_mm U8)) R)) ∧ (¬ ((U 15 x5.toNat) < 0) → ∃ U9 : Nat → Nat → Int, Ev kz (d, 219, 0, [some (.inr (.inr 45)), some (.inl (U 15 x5.toNat))], [], (am_sh, am_mm U)) (none, (am_sh, am_mm U9)) ∧ Ev kz ((d + 1), 134, 50, [some (.inr (.inr 45)), some (.inl x1), some (.inl x2), some (.inl x3), some (.inl x4), some (.inl (w32 (x5 + 1))), some (.inl (U 15 x5.toNat)), some (.inl (w32 ((-1) - (U 15 x5.toNat)))), none], [], (am_sh, am_mm U9)) R))) : Ev kz ((d + 1), 134, 50, [some (.inr (.inr 45)), some (.inl x1), some (.inl x2), some (.inl x3), some (.inl x4), some (.inl x5), none, none, none], [], (am_sh, am_mm U)) R := by
  refine ev_br (P := x4 ≤ x5) (σ1 := ((d + 1), 134, 157, [some (.inr (.inr 45)), some (.inl x1), some (.inl x2), some (.inl x3), some (.inl x4), some (.inl x5), none, none, none], [], (am_sh, am_mm U))) (σ2 := ((d + 1), 134, 57, [some (.inr (.inr 45)), some (.inl x1), some (.inl x2), some (.inl x3), some (.inl x4), some (.inl x5), none, none, none], [], (am_sh, am_mm U))) 3 (fun _ => rfl) (fun hc => ?_) (fun hc => ?_)
  · have h1 := h.1 hc
    refine ev_seg (σ1 := ((d + 1), 134, 158, [some (.inr (.inr 45)), some (.inl x1), some (.inl x2), some (.inl x3), some (.inl x4), some (.inl x5), none, none, none], [.inr (.inr 45)], (am_sh, am_mm U))) 1 (fun _ => rfl) ?_
    obtain ⟨r1, U1, h1c, h1a⟩ := h1
    refine ev_cal (σc := (d, 220, 0, [some (.inr (.inr 45))], [], (am_sh, am_mm U))) (fun _ => rfl) h1c ?_
    show Ev kz ((d + 1), 134, 161, [some (.inr (.inr 45)), some (.inl x1), some (.inl x2), some (.inl x3), some (.inl x4), some (.inl x5), none, none, none], [.inl r1], (am_sh, am_mm U1)) R
    refine ev_br (P := r1 = 0) (σ1 := ((d + 1), 134, 168, [some (.inr (.inr 45)), some (.inl x1), some (.inl x2), some (.inl x3), some (.inl x4), some (.inl x5), none, none, none], [], (am_sh, am_mm U1))) (σ2 := ((d + 1), 134, 164, [some (.inr (.inr 45)), some (.inl x1), some (.inl x2), some (.inl x3), some (.inl x4), some (.inl x5), none, none, none], [], (am_sh, am_mm U1))) 1 (fun _ => rfl) (fun hc => ?_) (fun hc => ?_)
    · have h1a1 := h1a.1 hc
      subst h1a1
      exact ev_end 2 (fun _ => rfl)
    · have h1a2 := h1a.2 hc
      subst h1a2
      exact ev_end 3 (fun _ => rfl)
  · have h2 := h.2 hc
    refine ev_seg (σ1 := ((d + 1), 134, 66, [some (.inr (.inr 45)), some (.inl x1), some (.inl x2), some (.inl x3), some (.inl x4), some (.inl x5), none, none, none], [.inl x5, .inr (.inr 15)], (am_sh, am_mm U))) 4 (fun _ => rfl) ?_
    refine eu_iald 15 (n := 1600) rfl (by decide) rfl (fun _ => rfl) h2.1 ?_
    have h2a := h2.2
    refine ev_br (P := (U 15 x5.toNat) < 0) (σ1 := ((d + 1), 134, 89, [some (.inr (.inr 45)), some (.inl x1), some (.inl x2), some (.inl x3), some (.inl x4), some (.inl x5), some (.inl (U 15 x5.toNat)), some (.inl (w32 ((-1) - (U 15 x5.toNat)))), none], [], (am_sh, am_mm U))) (σ2 := ((d + 1), 134, 80, [some (.inr (.inr 45)), some (.inl x1), some (.inl x2), some (.inl x3), some (.inl x4), some (.inl x5), some (.inl (U 15 x5.toNat)), some (.inl (w32 ((-1) - (U 15 x5.toNat)))), none], [], (am_sh, am_mm U))) 7 (fun _ => rfl) (fun hc => ?_) (fun hc => ?_)
    · have h2a1 := h2a.1 hc
      refine ev_br (P := (-100) < (U 15 x5.toNat)) (σ1 := ((d + 1), 134, 123, [some (.inr (.inr 45)), some (.inl x1), some (.inl x2), some (.inl x3), some (.inl x4), some (.inl x5), some (.inl (U 15 x5.toNat)), some (.inl (w32 ((-1) - (U 15 x5.toNat)))), none], [], (am_sh, am_mm U))) (σ2 := ((d + 1), 134, 96, [some (.inr (.inr 45)), some (.inl x1), some (.inl x2), some (.inl x3), some (.inl x4), some (.inl x5), some (.inl (U 15 x5.toNat)), some (.inl (w32 ((-1) - (U 15 x5.toNat)))), none], [], (am_sh, am_mm U))) 3 (fun _ => rfl) (fun hc => ?_) (fun hc => ?_)
      · have h2a11 := h2a1.1 hc
        refine ev_br (P := 16 < (w32 ((-1) - (U 15 x5.toNat)))) (σ1 := ((d + 1), 134, 145, [some (.inr (.inr 45)), some (.inl x1), some (.inl x2), some (.inl x3), some (.inl x4), some (.inl x5), some (.inl (U 15 x5.toNat)), some (.inl (w32 ((-1) - (U 15 x5.toNat)))), none], [], (am_sh, am_mm U))) (σ2 := ((d + 1), 134, 130, [some (.inr (.inr 45)), some (.inl x1), some (.inl x2), some (.inl x3), some (.inl x4), some (.inl x5), some (.inl (U 15 x5.toNat)), some (.inl (w32 ((-1) - (U 15 x5.toNat)))), none], [], (am_sh, am_mm U))) 3 (fun _ => rfl) (fun hc => ?_) (fun hc => ?_)
        · have h2a111 := h2a11.1 hc
          refine ev_seg (σ1 := ((d + 1), 134, 148, [some (.inr (.inr 45)), some (.inl x1), some (.inl x2), some (.inl x3), some (.inl x4), some (.inl x5), some (.inl (U 15 x5.toNat)), some (.inl (w32 ((-1) - (U 15 x5.toNat)))), none], [.inl (w32 ((-1) - (U 15 x5.toNat))), .inr (.inr 45)], (am_sh, am_mm U))) 2 (fun _ => rfl) ?_
          obtain ⟨U2, h2a111c, h2a111a⟩ := h2a111
          refine ev_cal (σc := (d, 223, 0, [some (.inr (.inr 45)), some (.inl (w32 ((-1) - (U 15 x5.toNat))))], [], (am_sh, am_mm U))) (fun _ => rfl) h2a111c ?_
          show Ev kz ((d + 1), 134, 151, [some (.inr (.inr 45)), some (.inl x1), some (.inl x2), some (.inl x3), some (.inl x4), some (.inl x5), some (.inl (U 15 x5.toNat)), some (.inl (w32 ((-1) - (U 15 x5.toNat)))), none], [], (am_sh, am_mm U2)) R
          refine ev_seg (σ1 := ((d + 1), 134, 50, [some (.inr (.inr 45)), some (.inl x1), some (.inl x2), some (.inl x3), some (.inl x4), some (.inl (w32 (x5 + 1))), some (.inl (U 15 x5.toNat)), some (.inl (w32 ((-1) - (U 15 x5.toNat)))), none], [], (am_sh, am_mm U2))) 2 (fun _ => rfl) ?_
          exact h2a111a
        · have h2a112 := h2a11.2 hc
          refine ev_seg (σ1 := ((d + 1), 134, 136, [some (.inr (.inr 45)), some (.inl x1), some (.inl x2), some (.inl x3), some (.inl x4), some (.inl x5), some (.inl (U 15 x5.toNat)), some (.inl (w32 ((-1) - (U 15 x5.toNat)))), none], [.inl x3, .inl x2, .inl (w32 ((-1) - (U 15 x5.toNat))), .inr (.inr 45), .inr (.inr 45)], (am_sh, am_mm U))) 5 (fun _ => rfl) ?_
          obtain ⟨r3, U3, h2a112c, h2a112a⟩ := h2a112
          refine ev_cal (σc := (d, 222, 0, [some (.inr (.inr 45)), some (.inl (w32 ((-1) - (U 15 x5.toNat)))), some (.inl x2), some (.inl x3), none, none], [], (am_sh, am_mm U))) (fun _ => rfl) h2a112c ?_
          show Ev kz ((d + 1), 134, 139, [some (.inr (.inr 45)), some (.inl x1), some (.inl x2), some (.inl x3), some (.inl x4), some (.inl x5), some (.inl (U 15 x5.toNat)), some (.inl (w32 ((-1) - (U 15 x5.toNat)))), none], [.inl r3, .inr (.inr 45)], (am_sh, am_mm U3)) R
          obtain ⟨U4, h2a112ac, h2a112aa⟩ := h2a112a
          refine ev_cal (σc := (d, 219, 0, [some (.inr (.inr 45)), some (.inl r3)], [], (am_sh, am_mm U3))) (fun _ => rfl) h2a112ac ?_
          show Ev kz ((d + 1), 134, 142, [some (.inr (.inr 45)), some (.inl x1), some (.inl x2), some (.inl x3), some (.inl x4), some (.inl x5), some (.inl (U 15 x5.toNat)), some (.inl (w32 ((-1) - (U 15 x5.toNat)))), none], [], (am_sh, am_mm U4)) R
          refine ev_seg (σ1 := ((d + 1), 134, 50, [some (.inr (.inr 45)), some (.inl x1), some (.inl x2), some (.inl x3), some (.inl x4), some (.inl (w32 (x5 + 1))), some (.inl (U 15 x5.toNat)), some (.inl (w32 ((-1) - (U 15 x5.toNat)))), none], [], (am_sh, am_mm U4))) 3 (fun _ => rfl) ?_
          exact h2a112aa
      · have h2a12 := h2a1.2 hc
        refine ev_seg (σ1 := ((d + 1), 134, 97, [some (.inr (.inr 45)), some (.inl x1), some (.inl x2), some (.inl x3), some (.inl x4), some (.inl x5), some (.inl (U 15 x5.toNat)), some (.inl (w32 ((-1) - (U 15 x5.toNat)))), none], [.inr (.inr 45)], (am_sh, am_mm U))) 1 (fun _ => rfl) ?_
        obtain ⟨r5, U5, h2a12c, h2a12a⟩ := h2a12
        refine ev_cal (σc := (d, 220, 0, [some (.inr (.inr 45))], [], (am_sh, am_mm U))) (fun _ => rfl) h2a12c ?_
        show Ev kz ((d + 1), 134, 100, [some (.inr (.inr 45)), some (.inl x1), some (.inl x2), some (.inl x3), some (.inl x4), some (.inl x5), some (.inl (U 15 x5.toNat)), some (.inl (w32 ((-1) - (U 15 x5.toNat)))), none], [.inl r5], (am_sh, am_mm U5)) R
        refine ev_seg (σ1 := ((d + 1), 134, 109, [some (.inr (.inr 45)), some (.inl x1), some (.inl x2), some (.inl x3), some (.inl x4), some (.inl x5), some (.inl (U 15 x5.toNat)), some (.inl (w32 ((-1) - (U 15 x5.toNat)))), some (.inl r5)], [.inr (.inr 45), .inl (w32 ((-100) - (U 15 x5.toNat))), .inr (.inr 45)], (am_sh, am_mm U5))) 6 (fun _ => rfl) ?_
        obtain ⟨r6, U6, h2a12ac, h2a12aa⟩ := h2a12a
        refine ev_cal (σc := (d, 220, 0, [some (.inr (.inr 45))], [], (am_sh, am_mm U5))) (fun _ => rfl) h2a12ac ?_
        show Ev kz ((d + 1), 134, 112, [some (.inr (.inr 45)), some (.inl x1), some (.inl x2), some (.inl x3), some (.inl x4), some (.inl x5), some (.inl (U 15 x5.toNat)), some (.inl (w32 ((-1) - (U 15 x5.toNat)))), some (.inl r5)], [.inl r6, .inl (w32 ((-100) - (U 15 x5.toNat))), .inr (.inr 45)], (am_sh, am_mm U6)) R
        refine ev_seg (σ1 := ((d + 1), 134, 114, [some (.inr (.inr 45)), some (.inl x1), some (.inl x2), some (.inl x3), some (.inl x4), some (.inl x5), some (.inl (U 15 x5.toNat)), some (.inl (w32 ((-1) - (U 15 x5.toNat)))), some (.inl r5)], [.inl r5, .inl r6, .inl (w32 ((-100) - (U 15 x5.toNat))), .inr (.inr 45)], (am_sh, am_mm U6))) 1 (fun _ => rfl) ?_
        obtain ⟨r7, U7, h2a12aac, h2a12aaa⟩ := h2a12aa
        refine ev_cal (σc := (d, 221, 0, [some (.inl (w32 ((-100) - (U 15 x5.toNat)))), some (.inl r6), some (.inl r5), none, none], [], (am_sh, am_mm U6))) (fun _ => rfl) h2a12aac ?_
        show Ev kz ((d + 1), 134, 117, [some (.inr (.inr 45)), some (.inl x1), some (.inl x2), some (.inl x3), some (.inl x4), some (.inl x5), some (.inl (U 15 x5.toNat)), some (.inl (w32 ((-1) - (U 15 x5.toNat)))), some (.inl r5)], [.inl r7, .inr (.inr 45)], (am_sh, am_mm U7)) R
        obtain ⟨U8, h2a12aaac, h2a12aaaa⟩ := h2a12aaa
        refine ev_cal (σc := (d, 219, 0, [some (.inr (.inr 45)), some (.inl r7)], [], (am_sh, am_mm U7))) (fun _ => rfl) h2a12aaac ?_
        show Ev kz ((d + 1), 134, 120, [some (.inr (.inr 45)), some (.inl x1), some (.inl x2), some (.inl x3), some (.inl x4), some (.inl x5), some (.inl (U 15 x5.toNat)), some (.inl (w32 ((-1) - (U 15 x5.toNat)))), some (.inl r5)], [], (am_sh, am_mm U8)) R
        refine ev_seg (σ1 := ((d + 1), 134, 50, [some (.inr (.inr 45)), some (.inl x1), some (.inl x2), some (.inl x3), some (.inl x4), some (.inl (w32 (x5 + 1))), some (.inl (U 15 x5.toNat)), some (.inl (w32 ((-1) - (U 15 x5.toNat)))), some (.inl r5)], [], (am_sh, am_mm U8))) 3 (fun _ => rfl) ?_
        exact h2a12aaaa
    · have h2a2 := h2a.2 hc
      refine ev_seg (σ1 := ((d + 1), 134, 83, [some (.inr (.inr 45)), some (.inl x1), some (.inl x2), some (.inl x3), some (.inl x4), some (.inl x5), some (.inl (U 15 x5.toNat)), some (.inl (w32 ((-1) - (U 15 x5.toNat)))), none], [.inl (U 15 x5.toNat), .inr (.inr 45)], (am_sh, am_mm U))) 2 (fun _ => rfl) ?_
      obtain ⟨U9, h2a2c, h2a2a⟩ := h2a2
      refine ev_cal (σc := (d, 219, 0, [some (.inr (.inr 45)), some (.inl (U 15 x5.toNat))], [], (am_sh, am_mm U))) (fun _ => rfl) h2a2c ?_
      show Ev kz ((d + 1), 134, 86, [some (.inr (.inr 45)), some (.inl x1), some (.inl x2), some (.inl x3), some (.inl x4), some (.inl x5), some (.inl (U 15 x5.toNat)), some (.inl (w32 ((-1) - (U 15 x5.toNat)))), none], [], (am_sh, am_mm U9)) R
      refine ev_seg (σ1 := ((d + 1), 134, 50, [some (.inr (.inr 45)), some (.inl x1), some (.inl x2), some (.inl x3), some (.inl x4), some (.inl (w32 (x5 + 1))), some (.inl (U 15 x5.toNat)), some (.inl (w32 ((-1) - (U 15 x5.toNat)))), none], [], (am_sh, am_mm U9))) 3 (fun _ => rfl) ?_
      exact h2a2a
set_option maxRecDepth 8000 in
theorem st136_86_0 (kz : am_Z) (d : Nat) (x1 x2 x3 x4 : Int) (U : Nat → Nat → Int) (R : Option am_V × am_M) (h : (0 ≤ (w32 ((w32 (8 * (U 86 13))) + x2)) ∧ (w32 ((w32 (8 * (U 86 13))) + x2)) < 16) ∧ (0 ≤ (w32 ((w32 (8 * (U 86 13))) + x2)) ∧ (w32 ((w32 (8 * (U 86 13))) + x2)) < 16) ∧ ∃ (r1 : Int) (U1 : Nat → Nat → Int), Ev kz (d, 135, 0, [some (.inr (.inr 86)), some (.inl x1), some (.inl x3), some (.inr (.inl x4)), none, some (.inl (U 102 (w32 ((w32 (8 * (U 86 13))) + x2)).toNat)), some (.inl (U 103 (w32 ((w32 (8 * (U 86 13))) + x2)).toNat))], [], (am_sh, am_mm U)) (some (.inl r1), (am_sh, am_mm U1)) ∧ (r1 = 0 ∨ r1 = 1) ∧ R = (some (.inl r1), (am_sh, am_mm U1))) : Ev kz ((d + 1), 136, 0, [some (.inr (.inr 86)), some (.inl x1), some (.inl x2), some (.inl x3), some (.inr (.inl x4)), none], [], (am_sh, am_mm U)) R := by
  refine ev_seg (σ1 := ((d + 1), 136, 18, [some (.inr (.inr 86)), some (.inl x1), some (.inl x2), some (.inl x3), some (.inr (.inl x4)), none], [.inl (w32 ((w32 (8 * (U 86 13))) + x2)), .inr (.inr 102), .inr (.inl x4), .inl x3, .inl x1, .inr (.inr 86)], (am_sh, am_mm U))) 12 (fun _ => rfl) ?_
  refine eu_iald 102 (n := 16) rfl (by decide) rfl (fun _ => rfl) h.1 ?_
  have ha := h.2
  refine ev_seg (σ1 := ((d + 1), 136, 32, [some (.inr (.inr 86)), some (.inl x1), some (.inl x2), some (.inl x3), some (.inr (.inl x4)), none], [.inl (w32 ((w32 (8 * (U 86 13))) + x2)), .inr (.inr 103), .inl (U 102 (w32 ((w32 (8 * (U 86 13))) + x2)).toNat), .inr (.inl x4), .inl x3, .inl x1, .inr (.inr 86)], (am_sh, am_mm U))) 8 (fun _ => rfl) ?_
  refine eu_iald 103 (n := 16) rfl (by decide) rfl (fun _ => rfl) ha.1 ?_
  have haa := ha.2
  obtain ⟨r1, U1, haac, haaa⟩ := haa
  refine ev_cal (σc := (d, 135, 0, [some (.inr (.inr 86)), some (.inl x1), some (.inl x3), some (.inr (.inl x4)), none, some (.inl (U 102 (w32 ((w32 (8 * (U 86 13))) + x2)).toNat)), some (.inl (U 103 (w32 ((w32 (8 * (U 86 13))) + x2)).toNat))], [], (am_sh, am_mm U))) (fun _ => rfl) haac ?_
  show Ev kz ((d + 1), 136, 36, [some (.inr (.inr 86)), some (.inl x1), some (.inl x2), some (.inl x3), some (.inr (.inl x4)), none], [.inl r1], (am_sh, am_mm U1)) R
  rw [haaa.2]
  exact ev_retz rfl rfl haaa.1
set_option maxRecDepth 8000 in
theorem st135_86_0 (kz : am_Z) (d : Nat) (x1 x2 x3 x5 x6 : Int) (U : Nat → Nat → Int) (R : Option am_V × am_M) (h : ∃ (r1 : Int) (U1 : Nat → Nat → Int), Ev kz (d, 224, 0, [some (.inr (.inr 86)), some (.inl x5), some (.inl x6), none, none, none], [], (am_sh, am_mm (am_upd (am_upd (am_upd U 86 61 x1) 86 62 x2) 86 63 x3))) (some (.inl r1), (am_sh, am_mm U1)) ∧ (r1 = 0 ∨ r1 = 1) ∧ R = (some (.inl r1), (am_sh, am_mm U1))) : Ev kz ((d + 1), 135, 0, [some (.inr (.inr 86)), some (.inl x1), some (.inl x2), some (.inr (.inl x3)), none, some (.inl x5), some (.inl x6)], [], (am_sh, am_mm U)) R := by
  refine ev_seg (σ1 := ((d + 1), 135, 2, [some (.inr (.inr 86)), some (.inl x1), some (.inl x2), some (.inr (.inl x3)), none, some (.inl x5), some (.inl x6)], [.inl x1, .inr (.inr 86)], (am_sh, am_mm U))) 2 (fun _ => rfl) ?_
  refine eu_puti 86 (n := 90) rfl (by decide) rfl rfl ?_
  refine ev_seg (σ1 := ((d + 1), 135, 7, [some (.inr (.inr 86)), some (.inl x1), some (.inl x2), some (.inr (.inl x3)), none, some (.inl x5), some (.inl x6)], [.inl x2, .inr (.inr 86)], (am_sh, am_mm (am_upd U 86 61 x1)))) 2 (fun _ => rfl) ?_
  refine eu_puti 86 (n := 90) rfl (by decide) rfl rfl ?_
  refine ev_seg (σ1 := ((d + 1), 135, 12, [some (.inr (.inr 86)), some (.inl x1), some (.inl x2), some (.inr (.inl x3)), none, some (.inl x5), some (.inl x6)], [.inr (.inl x3), .inr (.inr 86)], (am_sh, am_mm (am_upd (am_upd U 86 61 x1) 86 62 x2)))) 2 (fun _ => rfl) ?_
  refine eu_putj 86 (n := 90) rfl (by decide) rfl rfl ?_
  refine ev_seg (σ1 := ((d + 1), 135, 20, [some (.inr (.inr 86)), some (.inl x1), some (.inl x2), some (.inr (.inl x3)), none, some (.inl x5), some (.inl x6)], [.inl x6, .inl x5, .inr (.inr 86)], (am_sh, am_mm (am_upd (am_upd (am_upd U 86 61 x1) 86 62 x2) 86 63 x3)))) 3 (fun _ => rfl) ?_
  obtain ⟨r1, U1, hc, ha⟩ := h
  refine ev_cal (σc := (d, 224, 0, [some (.inr (.inr 86)), some (.inl x5), some (.inl x6), none, none, none], [], (am_sh, am_mm (am_upd (am_upd (am_upd U 86 61 x1) 86 62 x2) 86 63 x3)))) (fun _ => rfl) hc ?_
  show Ev kz ((d + 1), 135, 23, [some (.inr (.inr 86)), some (.inl x1), some (.inl x2), some (.inr (.inl x3)), none, some (.inl x5), some (.inl x6)], [.inl r1], (am_sh, am_mm U1)) R
  rw [ha.2]
  exact ev_retz rfl rfl ha.1
set_option maxRecDepth 8000 in
theorem st138_16_0 (kz : am_Z) (d : Nat) (x1 x2 : Int) (U : Nat → Nat → Int) (R : Option am_V × am_M) (h : (((x1 < 0 : Prop)) → R = (none, (am_sh, am_mm U))) ∧ (¬ (x1 < 0) → (((x1 < 16 : Prop)) → (0 ≤ x1 ∧ x1 < 16) ∧ ((((U 18 x1.toNat) < 0 : Prop)) → (0 ≤ x1 ∧ x1 < 16) ∧ (((x2 < 0 : Prop)) → R = (none, (am_sh, am_mm (am_upd U 18 x1.toNat (-1))))) ∧ (¬ (x2 < 0) → (((12 ≤ x2 : Prop)) → R = (none, (am_sh, am_mm (am_upd U 18 x1.toNat (-1))))) ∧ (¬ (12 ≤ x2) → (0 ≤ x1 ∧ x1 < 16) ∧ (0 ≤ x2 ∧ x2 < 12) ∧ (0 ≤ x2 ∧ x2 < 12) ∧ R = (none, (am_sh, am_mm (am_upd (am_upd (am_upd U 18 x1.toNat (-1)) 18 x1.toNat x2) 19 x2.toNat (am_or ((am_upd (am_upd U 18 x1.toNat (-1)) 18 x1.toNat x2) 19 x2.toNat) (am_shl 1 x1)))))))) ∧ (¬ ((U 18 x1.toNat) < 0) → (((12 ≤ (U 18 x1.toNat) : Prop)) → (0 ≤ x1 ∧ x1 < 16) ∧ (((x2 < 0 : Prop)) → R = (none, (am_sh, am_mm (am_upd U 18 x1.toNat (-1))))) ∧ (¬ (x2 < 0) → (((12 ≤ x2 : Prop)) → R = (none, (am_sh, am_mm (am_upd U 18 x1.toNat (-1))))) ∧ (¬ (12 ≤ x2) → (0 ≤ x1 ∧ x1 < 16) ∧ (0 ≤ x2 ∧ x2 < 12) ∧ (0 ≤ x2 ∧ x2 < 12) ∧ R = (none, (am_sh, am_mm (am_upd (am_upd (am_upd U 18 x1.toNat (-1)) 18 x1.toNat x2) 19 x2.toNat (am_or ((am_upd (am_upd U 18 x1.toNat (-1)) 18 x1.toNat x2) 19 x2.toNat) (am_shl 1 x1)))))))) ∧ (¬ (12 ≤ (U 18 x1.toNat)) → (0 ≤ (U 18 x1.toNat) ∧ (U 18 x1.toNat) < 12) ∧ (0 ≤ (U 18 x1.toNat) ∧ (U 18 x1.toNat) < 12) ∧ (0 ≤ x1 ∧ x1 < 16) ∧ (((x2 < 0 : Prop)) → R = (none, (am_sh, am_mm (am_upd (am_upd U 19 (U 18 x1.toNat).toNat (am_and (U 19 (U 18 x1.toNat).toNat) (am_xor (am_shl 1 x1) (-1)))) 18 x1.toNat (-1))))) ∧ (¬ (x2 < 0) → (((12 ≤ x2 : Prop)) → R = (none, (am_sh, am_mm (am_upd (am_upd U 19 (U 18 x1.toNat).toNat (am_and (U 19 (U 18 x1.toNat).toNat) (am_xor (am_shl 1 x1) (-1)))) 18 x1.toNat (-1))))) ∧ (¬ (12 ≤ x2) → (0 ≤ x1 ∧ x1 < 16) ∧ (0 ≤ x2 ∧ x2 < 12) ∧ (0 ≤ x2 ∧ x2 < 12) ∧ R = (none, (am_sh, am_mm (am_upd (am_upd (am_upd (am_upd U 19 (U 18 x1.toNat).toNat (am_and (U 19 (U 18 x1.toNat).toNat) (am_xor (am_shl 1 x1) (-1)))) 18 x1.toNat (-1)) 18 x1.toNat x2) 19 x2.toNat (am_or ((am_upd (am_upd (am_upd U 19 (U 18 x1.toNat).toNat (am_and (U 19 (U 18 x1.toNat).toNat) (am_xor (am_shl 1 x1) (-1)))) 18 x1.toNat (-1)) 18 x1.toNat x2) 19 x2.toNat) (am_shl 1 x1)))))))))) ∧ (¬ (x1 < 16) → R = (none, (am_sh, am_mm U))))) : Ev kz (d, 138, 0, [some (.inr (.inr 16)), some (.inl x1), some (.inl x2), none], [], (am_sh, am_mm U)) R := by
  refine ev_br (P := x1 < 0) (σ1 := (d, 138, 10, [some (.inr (.inr 16)), some (.inl x1), some (.inl x2), none], [], (am_sh, am_mm U))) (σ2 := (d, 138, 4, [some (.inr (.inr 16)), some (.inl x1), some (.inl x2), none], [], (am_sh, am_mm U))) 2 (fun _ => rfl) (fun hc => ?_) (fun hc => ?_)
  · have h1 := h.1 hc
    subst h1
    exact ev_end 1 (fun _ => rfl)
  · have h2 := h.2 hc
    refine ev_br (P := x1 < 16) (σ1 := (d, 138, 11, [some (.inr (.inr 16)), some (.inl x1), some (.inl x2), none], [], (am_sh, am_mm U))) (σ2 := (d, 138, 10, [some (.inr (.inr 16)), some (.inl x1), some (.inl x2), none], [], (am_sh, am_mm U))) 3 (fun _ => rfl) (fun hc => ?_) (fun hc => ?_)
    · have h21 := h2.1 hc
      refine ev_seg (σ1 := (d, 138, 16, [some (.inr (.inr 16)), some (.inl x1), some (.inl x2), none], [.inl x1, .inr (.inr 18)], (am_sh, am_mm U))) 3 (fun _ => rfl) ?_
      refine eu_iald 18 (n := 16) rfl (by decide) rfl (fun _ => rfl) h21.1 ?_
      have h21a := h21.2
      refine ev_br (P := (U 18 x1.toNat) < 0) (σ1 := (d, 138, 42, [some (.inr (.inr 16)), some (.inl x1), some (.inl x2), some (.inl (U 18 x1.toNat))], [], (am_sh, am_mm U))) (σ2 := (d, 138, 22, [some (.inr (.inr 16)), some (.inl x1), some (.inl x2), some (.inl (U 18 x1.toNat))], [], (am_sh, am_mm U))) 3 (fun _ => rfl) (fun hc => ?_) (fun hc => ?_)
      · have h21a1 := h21a.1 hc
        refine ev_seg (σ1 := (d, 138, 48, [some (.inr (.inr 16)), some (.inl x1), some (.inl x2), some (.inl (U 18 x1.toNat))], [.inl (-1), .inl x1, .inr (.inr 18)], (am_sh, am_mm U))) 4 (fun _ => rfl) ?_
        refine eu_iast 18 (n := 16) rfl (by decide) rfl (fun _ => rfl) h21a1.1 ?_
        have h21a1a := h21a1.2
        refine ev_br (P := x2 < 0) (σ1 := (d, 138, 78, [some (.inr (.inr 16)), some (.inl x1), some (.inl x2), some (.inl (U 18 x1.toNat))], [], (am_sh, am_mm (am_upd U 18 x1.toNat (-1))))) (σ2 := (d, 138, 53, [some (.inr (.inr 16)), some (.inl x1), some (.inl x2), some (.inl (U 18 x1.toNat))], [], (am_sh, am_mm (am_upd U 18 x1.toNat (-1))))) 2 (fun _ => rfl) (fun hc => ?_) (fun hc => ?_)
        · have h21a1a1 := h21a1a.1 hc
          subst h21a1a1
          exact ev_end 1 (fun _ => rfl)
        · have h21a1a2 := h21a1a.2 hc
          refine ev_br (P := 12 ≤ x2) (σ1 := (d, 138, 78, [some (.inr (.inr 16)), some (.inl x1), some (.inl x2), some (.inl (U 18 x1.toNat))], [], (am_sh, am_mm (am_upd U 18 x1.toNat (-1))))) (σ2 := (d, 138, 59, [some (.inr (.inr 16)), some (.inl x1), some (.inl x2), some (.inl (U 18 x1.toNat))], [], (am_sh, am_mm (am_upd U 18 x1.toNat (-1))))) 3 (fun _ => rfl) (fun hc => ?_) (fun hc => ?_)
          · have h21a1a21 := h21a1a2.1 hc
            subst h21a1a21
            exact ev_end 1 (fun _ => rfl)
          · have h21a1a22 := h21a1a2.2 hc
            refine ev_seg (σ1 := (d, 138, 65, [some (.inr (.inr 16)), some (.inl x1), some (.inl x2), some (.inl (U 18 x1.toNat))], [.inl x2, .inl x1, .inr (.inr 18)], (am_sh, am_mm (am_upd U 18 x1.toNat (-1))))) 4 (fun _ => rfl) ?_
            refine eu_iast 18 (n := 16) rfl (by decide) rfl (fun _ => rfl) h21a1a22.1 ?_
            have h21a1a22a := h21a1a22.2
            refine ev_seg (σ1 := (d, 138, 72, [some (.inr (.inr 16)), some (.inl x1), some (.inl x2), some (.inl (U 18 x1.toNat))], [.inl x2, .inr (.inr 19), .inl x2, .inr (.inr 19)], (am_sh, am_mm (am_upd (am_upd U 18 x1.toNat (-1)) 18 x1.toNat x2)))) 4 (fun _ => rfl) ?_
            refine eu_iald 19 (n := 12) rfl (by decide) rfl (fun _ => rfl) h21a1a22a.1 ?_
            have h21a1a22aa := h21a1a22a.2
            refine ev_seg (σ1 := (d, 138, 77, [some (.inr (.inr 16)), some (.inl x1), some (.inl x2), some (.inl (U 18 x1.toNat))], [.inl (am_or ((am_upd (am_upd U 18 x1.toNat (-1)) 18 x1.toNat x2) 19 x2.toNat) (am_shl 1 x1)), .inl x2, .inr (.inr 19)], (am_sh, am_mm (am_upd (am_upd U 18 x1.toNat (-1)) 18 x1.toNat x2)))) 4 (fun _ => rfl) ?_
            refine eu_iast 19 (n := 12) rfl (by decide) rfl (fun _ => rfl) h21a1a22aa.1 ?_
            have h21a1a22aaa := h21a1a22aa.2
            subst h21a1a22aaa
            exact ev_end 1 (fun _ => rfl)
      · have h21a2 := h21a.2 hc
        refine ev_br (P := 12 ≤ (U 18 x1.toNat)) (σ1 := (d, 138, 42, [some (.inr (.inr 16)), some (.inl x1), some (.inl x2), some (.inl (U 18 x1.toNat))], [], (am_sh, am_mm U))) (σ2 := (d, 138, 28, [some (.inr (.inr 16)), some (.inl x1), some (.inl x2), some (.inl (U 18 x1.toNat))], [], (am_sh, am_mm U))) 3 (fun _ => rfl) (fun hc => ?_) (fun hc => ?_)
        · have h21a21 := h21a2.1 hc
          refine ev_seg (σ1 := (d, 138, 48, [some (.inr (.inr 16)), some (.inl x1), some (.inl x2), some (.inl (U 18 x1.toNat))], [.inl (-1), .inl x1, .inr (.inr 18)], (am_sh, am_mm U))) 4 (fun _ => rfl) ?_
          refine eu_iast 18 (n := 16) rfl (by decide) rfl (fun _ => rfl) h21a21.1 ?_
          have h21a21a := h21a21.2
          refine ev_br (P := x2 < 0) (σ1 := (d, 138, 78, [some (.inr (.inr 16)), some (.inl x1), some (.inl x2), some (.inl (U 18 x1.toNat))], [], (am_sh, am_mm (am_upd U 18 x1.toNat (-1))))) (σ2 := (d, 138, 53, [some (.inr (.inr 16)), some (.inl x1), some (.inl x2), some (.inl (U 18 x1.toNat))], [], (am_sh, am_mm (am_upd U 18 x1.toNat (-1))))) 2 (fun _ => rfl) (fun hc => ?_) (fun hc => ?_)
          · have h21a21a1 := h21a21a.1 hc
            subst h21a21a1
            exact ev_end 1 (fun _ => rfl)
          · have h21a21a2 := h21a21a.2 hc
            refine ev_br (P := 12 ≤ x2) (σ1 := (d, 138, 78, [some (.inr (.inr 16)), some (.inl x1), some (.inl x2), some (.inl (U 18 x1.toNat))], [], (am_sh, am_mm (am_upd U 18 x1.toNat (-1))))) (σ2 := (d, 138, 59, [some (.inr (.inr 16)), some (.inl x1), some (.inl x2), some (.inl (U 18 x1.toNat))], [], (am_sh, am_mm (am_upd U 18 x1.toNat (-1))))) 3 (fun _ => rfl) (fun hc => ?_) (fun hc => ?_)
            · have h21a21a21 := h21a21a2.1 hc
              subst h21a21a21
              exact ev_end 1 (fun _ => rfl)
            · have h21a21a22 := h21a21a2.2 hc
              refine ev_seg (σ1 := (d, 138, 65, [some (.inr (.inr 16)), some (.inl x1), some (.inl x2), some (.inl (U 18 x1.toNat))], [.inl x2, .inl x1, .inr (.inr 18)], (am_sh, am_mm (am_upd U 18 x1.toNat (-1))))) 4 (fun _ => rfl) ?_
              refine eu_iast 18 (n := 16) rfl (by decide) rfl (fun _ => rfl) h21a21a22.1 ?_
              have h21a21a22a := h21a21a22.2
              refine ev_seg (σ1 := (d, 138, 72, [some (.inr (.inr 16)), some (.inl x1), some (.inl x2), some (.inl (U 18 x1.toNat))], [.inl x2, .inr (.inr 19), .inl x2, .inr (.inr 19)], (am_sh, am_mm (am_upd (am_upd U 18 x1.toNat (-1)) 18 x1.toNat x2)))) 4 (fun _ => rfl) ?_
              refine eu_iald 19 (n := 12) rfl (by decide) rfl (fun _ => rfl) h21a21a22a.1 ?_
              have h21a21a22aa := h21a21a22a.2
              refine ev_seg (σ1 := (d, 138, 77, [some (.inr (.inr 16)), some (.inl x1), some (.inl x2), some (.inl (U 18 x1.toNat))], [.inl (am_or ((am_upd (am_upd U 18 x1.toNat (-1)) 18 x1.toNat x2) 19 x2.toNat) (am_shl 1 x1)), .inl x2, .inr (.inr 19)], (am_sh, am_mm (am_upd (am_upd U 18 x1.toNat (-1)) 18 x1.toNat x2)))) 4 (fun _ => rfl) ?_
              refine eu_iast 19 (n := 12) rfl (by decide) rfl (fun _ => rfl) h21a21a22aa.1 ?_
              have h21a21a22aaa := h21a21a22aa.2
              subst h21a21a22aaa
              exact ev_end 1 (fun _ => rfl)
        · have h21a22 := h21a2.2 hc
          refine ev_seg (σ1 := (d, 138, 34, [some (.inr (.inr 16)), some (.inl x1), some (.inl x2), some (.inl (U 18 x1.toNat))], [.inl (U 18 x1.toNat), .inr (.inr 19), .inl (U 18 x1.toNat), .inr (.inr 19)], (am_sh, am_mm U))) 4 (fun _ => rfl) ?_
          refine eu_iald 19 (n := 12) rfl (by decide) rfl (fun _ => rfl) h21a22.1 ?_
          have h21a22a := h21a22.2
          refine ev_seg (σ1 := (d, 138, 41, [some (.inr (.inr 16)), some (.inl x1), some (.inl x2), some (.inl (U 18 x1.toNat))], [.inl (am_and (U 19 (U 18 x1.toNat).toNat) (am_xor (am_shl 1 x1) (-1))), .inl (U 18 x1.toNat), .inr (.inr 19)], (am_sh, am_mm U))) 6 (fun _ => rfl) ?_
          refine eu_iast 19 (n := 12) rfl (by decide) rfl (fun _ => rfl) h21a22a.1 ?_
          have h21a22aa := h21a22a.2
          refine ev_seg (σ1 := (d, 138, 48, [some (.inr (.inr 16)), some (.inl x1), some (.inl x2), some (.inl (U 18 x1.toNat))], [.inl (-1), .inl x1, .inr (.inr 18)], (am_sh, am_mm (am_upd U 19 (U 18 x1.toNat).toNat (am_and (U 19 (U 18 x1.toNat).toNat) (am_xor (am_shl 1 x1) (-1))))))) 4 (fun _ => rfl) ?_
          refine eu_iast 18 (n := 16) rfl (by decide) rfl (fun _ => rfl) h21a22aa.1 ?_
          have h21a22aaa := h21a22aa.2
          refine ev_br (P := x2 < 0) (σ1 := (d, 138, 78, [some (.inr (.inr 16)), some (.inl x1), some (.inl x2), some (.inl (U 18 x1.toNat))], [], (am_sh, am_mm (am_upd (am_upd U 19 (U 18 x1.toNat).toNat (am_and (U 19 (U 18 x1.toNat).toNat) (am_xor (am_shl 1 x1) (-1)))) 18 x1.toNat (-1))))) (σ2 := (d, 138, 53, [some (.inr (.inr 16)), some (.inl x1), some (.inl x2), some (.inl (U 18 x1.toNat))], [], (am_sh, am_mm (am_upd (am_upd U 19 (U 18 x1.toNat).toNat (am_and (U 19 (U 18 x1.toNat).toNat) (am_xor (am_shl 1 x1) (-1)))) 18 x1.toNat (-1))))) 2 (fun _ => rfl) (fun hc => ?_) (fun hc => ?_)
          · have h21a22aaa1 := h21a22aaa.1 hc
            subst h21a22aaa1
            exact ev_end 1 (fun _ => rfl)
          · have h21a22aaa2 := h21a22aaa.2 hc
            refine ev_br (P := 12 ≤ x2) (σ1 := (d, 138, 78, [some (.inr (.inr 16)), some (.inl x1), some (.inl x2), some (.inl (U 18 x1.toNat))], [], (am_sh, am_mm (am_upd (am_upd U 19 (U 18 x1.toNat).toNat (am_and (U 19 (U 18 x1.toNat).toNat) (am_xor (am_shl 1 x1) (-1)))) 18 x1.toNat (-1))))) (σ2 := (d, 138, 59, [some (.inr (.inr 16)), some (.inl x1), some (.inl x2), some (.inl (U 18 x1.toNat))], [], (am_sh, am_mm (am_upd (am_upd U 19 (U 18 x1.toNat).toNat (am_and (U 19 (U 18 x1.toNat).toNat) (am_xor (am_shl 1 x1) (-1)))) 18 x1.toNat (-1))))) 3 (fun _ => rfl) (fun hc => ?_) (fun hc => ?_)
            · have h21a22aaa21 := h21a22aaa2.1 hc
              subst h21a22aaa21
              exact ev_end 1 (fun _ => rfl)
            · have h21a22aaa22 := h21a22aaa2.2 hc
              refine ev_seg (σ1 := (d, 138, 65, [some (.inr (.inr 16)), some (.inl x1), some (.inl x2), some (.inl (U 18 x1.toNat))], [.inl x2, .inl x1, .inr (.inr 18)], (am_sh, am_mm (am_upd (am_upd U 19 (U 18 x1.toNat).toNat (am_and (U 19 (U 18 x1.toNat).toNat) (am_xor (am_shl 1 x1) (-1)))) 18 x1.toNat (-1))))) 4 (fun _ => rfl) ?_
              refine eu_iast 18 (n := 16) rfl (by decide) rfl (fun _ => rfl) h21a22aaa22.1 ?_
              have h21a22aaa22a := h21a22aaa22.2
              refine ev_seg (σ1 := (d, 138, 72, [some (.inr (.inr 16)), some (.inl x1), some (.inl x2), some (.inl (U 18 x1.toNat))], [.inl x2, .inr (.inr 19), .inl x2, .inr (.inr 19)], (am_sh, am_mm (am_upd (am_upd (am_upd U 19 (U 18 x1.toNat).toNat (am_and (U 19 (U 18 x1.toNat).toNat) (am_xor (am_shl 1 x1) (-1)))) 18 x1.toNat (-1)) 18 x1.toNat x2)))) 4 (fun _ => rfl) ?_
              refine eu_iald 19 (n := 12) rfl (by decide) rfl (fun _ => rfl) h21a22aaa22a.1 ?_
              have h21a22aaa22aa := h21a22aaa22a.2
              refine ev_seg (σ1 := (d, 138, 77, [some (.inr (.inr 16)), some (.inl x1), some (.inl x2), some (.inl (U 18 x1.toNat))], [.inl (am_or ((am_upd (am_upd (am_upd U 19 (U 18 x1.toNat).toNat (am_and (U 19 (U 18 x1.toNat).toNat) (am_xor (am_shl 1 x1) (-1)))) 18 x1.toNat (-1)) 18 x1.toNat x2) 19 x2.toNat) (am_shl 1 x1)), .inl x2, .inr (.inr 19)], (am_sh, am_mm (am_upd (am_upd (am_upd U 19 (U 18 x1.toNat).toNat (am_and (U 19 (U 18 x1.toNat).toNat) (am_xor (am_shl 1 x1) (-1)))) 18 x1.toNat (-1)) 18 x1.toNat x2)))) 4 (fun _ => rfl) ?_
              refine eu_iast 19 (n := 12) rfl (by decide) rfl (fun _ => rfl) h21a22aaa22aa.1 ?_
              have h21a22aaa22aaa := h21a22aaa22aa.2
              subst h21a22aaa22aaa
              exact ev_end 1 (fun _ => rfl)
    · have h22 := h2.2 hc
      subst h22
      exact ev_end 1 (fun _ => rfl)
set_option maxRecDepth 8000 in
theorem st106_16_0 (kz : am_Z) (d : Nat) (x1 : Int) (U : Nat → Nat → Int) (R : Option am_V × am_M) (h : (0 ≤ x1 ∧ x1 < 12) ∧ ∃ (r1 : Int) (U1 : Nat → Nat → Int), Ev kz (d, 98, 0, [some (.inl (U 19 x1.toNat))], [], (am_sh, am_mm U)) (some (.inl r1), (am_sh, am_mm U1)) ∧ R = (some (.inl r1), (am_sh, am_mm U1))) : Ev kz ((d + 1), 106, 0, [some (.inr (.inr 16)), some (.inl x1)], [], (am_sh, am_mm U)) R := by
  refine ev_seg (σ1 := ((d + 1), 106, 5, [some (.inr (.inr 16)), some (.inl x1)], [.inl x1, .inr (.inr 19)], (am_sh, am_mm U))) 3 (fun _ => rfl) ?_
  refine eu_iald 19 (n := 12) rfl (by decide) rfl (fun _ => rfl) h.1 ?_
  have ha := h.2
  obtain ⟨r1, U1, hac, haa⟩ := ha
  refine ev_cal (σc := (d, 98, 0, [some (.inl (U 19 x1.toNat))], [], (am_sh, am_mm U))) (fun _ => rfl) hac ?_
  show Ev kz ((d + 1), 106, 9, [some (.inr (.inr 16)), some (.inl x1)], [.inl r1], (am_sh, am_mm U1)) R
  subst haa
  exact ev_end 1 (fun _ => rfl)
set_option maxRecDepth 8000 in
theorem st139_86_0 (kz : am_Z) (d : Nat) (U : Nat → Nat → Int) (R : Option am_V × am_M) (h : (((¬ (U 86 58) = 20 : Prop)) → ∃ (r1 : Int) (U1 : Nat → Nat → Int), Ev kz (d, 143, 0, [some (.inr (.inr 86)), some (.inl (U 86 58))], [], (am_sh, am_mm U)) (some (.inl r1), (am_sh, am_mm U1)) ∧ ∃ U2 : Nat → Nat → Int, Ev kz (d, 144, 0, [some (.inr (.inr 86)), some (.inl r1), some (.inl 0), none], [], (am_sh, am_mm U1)) (none, (am_sh, am_mm U2)) ∧ R = (none, (am_sh, am_mm (am_upd U2 86 58 (w32 ((U2 86 58) + 1)))))) ∧ (¬ (¬ (U 86 58) = 20) → ∃ (r3 : Int) (U3 : Nat → Nat → Int), Ev kz (d, 143, 0, [some (.inr (.inr 86)), some (.inl ((am_upd (am_upd U 86 57 (Int.tmod (w32 ((U 86 57) + 1)) 20)) 86 58 (w32 (((am_upd U 86 57 (Int.tmod (w32 ((U 86 57) + 1)) 20)) 86 58) - 1))) 86 58))], [], (am_sh, am_mm (am_upd (am_upd U 86 57 (Int.tmod (w32 ((U 86 57) + 1)) 20)) 86 58 (w32 (((am_upd U 86 57 (Int.tmod (w32 ((U 86 57) + 1)) 20)) 86 58) - 1))))) (some (.inl r3), (am_sh, am_mm U3)) ∧ ∃ U4 : Nat → Nat → Int, Ev kz (d, 144, 0, [some (.inr (.inr 86)), some (.inl r3), some (.inl 0), none], [], (am_sh, am_mm U3)) (none, (am_sh, am_mm U4)) ∧ R = (none, (am_sh, am_mm (am_upd U4 86 58 (w32 ((U4 86 58) + 1))))))) : Ev kz ((d + 1), 139, 0, [some (.inr (.inr 86))], [], (am_sh, am_mm U)) R := by
  refine ev_br (P := ¬ (U 86 58) = 20) (σ1 := ((d + 1), 139, 32, [some (.inr (.inr 86))], [], (am_sh, am_mm U))) (σ2 := ((d + 1), 139, 9, [some (.inr (.inr 86))], [], (am_sh, am_mm U))) 4 (fun _ => rfl) (fun hc => ?_) (fun hc => ?_)
  · have h1 := h.1 hc
    refine ev_seg (σ1 := ((d + 1), 139, 38, [some (.inr (.inr 86))], [.inl (U 86 58), .inr (.inr 86), .inr (.inr 86)], (am_sh, am_mm U))) 4 (fun _ => rfl) ?_
    obtain ⟨r1, U1, h1c, h1a⟩ := h1
    refine ev_cal (σc := (d, 143, 0, [some (.inr (.inr 86)), some (.inl (U 86 58))], [], (am_sh, am_mm U))) (fun _ => rfl) h1c ?_
    show Ev kz ((d + 1), 139, 41, [some (.inr (.inr 86))], [.inl r1, .inr (.inr 86)], (am_sh, am_mm U1)) R
    refine ev_seg (σ1 := ((d + 1), 139, 42, [some (.inr (.inr 86))], [.inl 0, .inl r1, .inr (.inr 86)], (am_sh, am_mm U1))) 1 (fun _ => rfl) ?_
    obtain ⟨U2, h1ac, h1aa⟩ := h1a
    refine ev_cal (σc := (d, 144, 0, [some (.inr (.inr 86)), some (.inl r1), some (.inl 0), none], [], (am_sh, am_mm U1))) (fun _ => rfl) h1ac ?_
    show Ev kz ((d + 1), 139, 45, [some (.inr (.inr 86))], [], (am_sh, am_mm U2)) R
    refine ev_seg (σ1 := ((d + 1), 139, 52, [some (.inr (.inr 86))], [.inl (w32 ((U2 86 58) + 1)), .inr (.inr 86)], (am_sh, am_mm U2))) 5 (fun _ => rfl) ?_
    refine eu_puti 86 (n := 90) rfl (by decide) rfl rfl ?_
    subst h1aa
    exact ev_end 1 (fun _ => rfl)
  · have h2 := h.2 hc
    refine ev_seg (σ1 := ((d + 1), 139, 18, [some (.inr (.inr 86))], [.inl 20, .inl (w32 ((U 86 57) + 1)), .inr (.inr 86)], (am_sh, am_mm U))) 6 (fun _ => rfl) ?_
    refine ev_irem rfl (by decide) ?_
    refine eu_puti 86 (n := 90) rfl (by decide) rfl rfl ?_
    refine ev_seg (σ1 := ((d + 1), 139, 29, [some (.inr (.inr 86))], [.inl (w32 (((am_upd U 86 57 (Int.tmod (w32 ((U 86 57) + 1)) 20)) 86 58) - 1)), .inr (.inr 86)], (am_sh, am_mm (am_upd U 86 57 (Int.tmod (w32 ((U 86 57) + 1)) 20))))) 5 (fun _ => rfl) ?_
    refine eu_puti 86 (n := 90) rfl (by decide) rfl rfl ?_
    refine ev_seg (σ1 := ((d + 1), 139, 38, [some (.inr (.inr 86))], [.inl ((am_upd (am_upd U 86 57 (Int.tmod (w32 ((U 86 57) + 1)) 20)) 86 58 (w32 (((am_upd U 86 57 (Int.tmod (w32 ((U 86 57) + 1)) 20)) 86 58) - 1))) 86 58), .inr (.inr 86), .inr (.inr 86)], (am_sh, am_mm (am_upd (am_upd U 86 57 (Int.tmod (w32 ((U 86 57) + 1)) 20)) 86 58 (w32 (((am_upd U 86 57 (Int.tmod (w32 ((U 86 57) + 1)) 20)) 86 58) - 1)))))) 4 (fun _ => rfl) ?_
    obtain ⟨r3, U3, h2c, h2a⟩ := h2
    refine ev_cal (σc := (d, 143, 0, [some (.inr (.inr 86)), some (.inl ((am_upd (am_upd U 86 57 (Int.tmod (w32 ((U 86 57) + 1)) 20)) 86 58 (w32 (((am_upd U 86 57 (Int.tmod (w32 ((U 86 57) + 1)) 20)) 86 58) - 1))) 86 58))], [], (am_sh, am_mm (am_upd (am_upd U 86 57 (Int.tmod (w32 ((U 86 57) + 1)) 20)) 86 58 (w32 (((am_upd U 86 57 (Int.tmod (w32 ((U 86 57) + 1)) 20)) 86 58) - 1)))))) (fun _ => rfl) h2c ?_
    show Ev kz ((d + 1), 139, 41, [some (.inr (.inr 86))], [.inl r3, .inr (.inr 86)], (am_sh, am_mm U3)) R
    refine ev_seg (σ1 := ((d + 1), 139, 42, [some (.inr (.inr 86))], [.inl 0, .inl r3, .inr (.inr 86)], (am_sh, am_mm U3))) 1 (fun _ => rfl) ?_
    obtain ⟨U4, h2ac, h2aa⟩ := h2a
    refine ev_cal (σc := (d, 144, 0, [some (.inr (.inr 86)), some (.inl r3), some (.inl 0), none], [], (am_sh, am_mm U3))) (fun _ => rfl) h2ac ?_
    show Ev kz ((d + 1), 139, 45, [some (.inr (.inr 86))], [], (am_sh, am_mm U4)) R
    refine ev_seg (σ1 := ((d + 1), 139, 52, [some (.inr (.inr 86))], [.inl (w32 ((U4 86 58) + 1)), .inr (.inr 86)], (am_sh, am_mm U4))) 5 (fun _ => rfl) ?_
    refine eu_puti 86 (n := 90) rfl (by decide) rfl rfl ?_
    subst h2aa
    exact ev_end 1 (fun _ => rfl)
set_option maxRecDepth 8000 in
theorem st110_86_0 (kz : am_Z) (d : Nat) (x1 : Int) (U : Nat → Nat → Int) (R : Option am_V × am_M) (h : (0 ≤ (w32 ((w32 (12 * (U 86 13))) + x1)) ∧ (w32 ((w32 (12 * (U 86 13))) + x1)) < 24) ∧ R = (some (.inl (U 93 (w32 ((w32 (12 * (U 86 13))) + x1)).toNat)), (am_sh, am_mm U))) : Ev kz (d, 110, 0, [some (.inr (.inr 86)), some (.inl x1)], [], (am_sh, am_mm U)) R := by
  refine ev_seg (σ1 := (d, 110, 13, [some (.inr (.inr 86)), some (.inl x1)], [.inl (w32 ((w32 (12 * (U 86 13))) + x1)), .inr (.inr 93)], (am_sh, am_mm U))) 8 (fun _ => rfl) ?_
  refine eu_iald 93 (n := 24) rfl (by decide) rfl (fun _ => rfl) h.1 ?_
  have ha := h.2
  subst ha
  exact ev_end 1 (fun _ => rfl)
set_option maxRecDepth 8000 in
theorem st111_86_0 (kz : am_Z) (d : Nat) (x1 x2 : Int) (U : Nat → Nat → Int) (R : Option am_V × am_M) (h : Ev kz ((d + 1), 111, 5, [some (.inr (.inr 86)), some (.inl x1), some (.inl x2), some (.inl 0), some (.inl 0)], [], (am_sh, am_mm U)) R) : Ev kz ((d + 1), 111, 0, [some (.inr (.inr 86)), some (.inl x1), some (.inl x2), none, none], [], (am_sh, am_mm U)) R := by
  refine ev_seg (σ1 := ((d + 1), 111, 5, [some (.inr (.inr 86)), some (.inl x1), some (.inl x2), some (.inl 0), some (.inl 0)], [], (am_sh, am_mm U))) 4 (fun _ => rfl) ?_
  exact h
set_option maxRecDepth 8000 in
theorem st111_86_5 (kz : am_Z) (d : Nat) (x1 x2 x3 x4 : Int) (U : Nat → Nat → Int) (R : Option am_V × am_M) (h : (0 ≤ x1 ∧ x1 < 22) ∧ ((((U 122 x1.toNat) ≤ x4 : Prop)) → R = (some (.inl x3), (am_sh, am_mm U))) ∧ (¬ ((U 122 x1.toNat) ≤ x4) → ∃ (r1 : Int) (U1 : Nat → Nat → Int), Ev kz (d, 200, 0, [some (.inr (.inr 86)), some (.inl x1), some (.inl x4)], [], (am_sh, am_mm U)) (some (.inl r1), (am_sh, am_mm U1)) ∧ (((¬ r1 = x2 : Prop)) → Ev kz ((d + 1), 111, 5, [some (.inr (.inr 86)), some (.inl x1), some (.inl x2), some (.inl (w32 (x3 + 0))), some (.inl (w32 (x4 + 1)))], [], (am_sh, am_mm U1)) R) ∧ (¬ (¬ r1 = x2) → Ev kz ((d + 1), 111, 5, [some (.inr (.inr 86)), some (.inl x1), some (.inl x2), some (.inl (w32 (x3 + 1))), some (.inl (w32 (x4 + 1)))], [], (am_sh, am_mm U1)) R))) : Ev kz ((d + 1), 111, 5, [some (.inr (.inr 86)), some (.inl x1), some (.inl x2), some (.inl x3), some (.inl x4)], [], (am_sh, am_mm U)) R := by
  refine ev_seg (σ1 := ((d + 1), 111, 12, [some (.inr (.inr 86)), some (.inl x1), some (.inl x2), some (.inl x3), some (.inl x4)], [.inl x1, .inr (.inr 122), .inl x4], (am_sh, am_mm U))) 4 (fun _ => rfl) ?_
  refine eu_iald 122 (n := 22) rfl (by decide) rfl (fun _ => rfl) h.1 ?_
  have ha := h.2
  refine ev_br (P := (U 122 x1.toNat) ≤ x4) (σ1 := ((d + 1), 111, 41, [some (.inr (.inr 86)), some (.inl x1), some (.inl x2), some (.inl x3), some (.inl x4)], [], (am_sh, am_mm U))) (σ2 := ((d + 1), 111, 16, [some (.inr (.inr 86)), some (.inl x1), some (.inl x2), some (.inl x3), some (.inl x4)], [], (am_sh, am_mm U))) 1 (fun _ => rfl) (fun hc => ?_) (fun hc => ?_)
  · have ha1 := ha.1 hc
    subst ha1
    exact ev_end 2 (fun _ => rfl)
  · have ha2 := ha.2 hc
    refine ev_seg (σ1 := ((d + 1), 111, 21, [some (.inr (.inr 86)), some (.inl x1), some (.inl x2), some (.inl x3), some (.inl x4)], [.inl x4, .inl x1, .inr (.inr 86), .inl x3], (am_sh, am_mm U))) 4 (fun _ => rfl) ?_
    obtain ⟨r1, U1, ha2c, ha2a⟩ := ha2
    refine ev_cal (σc := (d, 200, 0, [some (.inr (.inr 86)), some (.inl x1), some (.inl x4)], [], (am_sh, am_mm U))) (fun _ => rfl) ha2c ?_
    show Ev kz ((d + 1), 111, 24, [some (.inr (.inr 86)), some (.inl x1), some (.inl x2), some (.inl x3), some (.inl x4)], [.inl r1, .inl x3], (am_sh, am_mm U1)) R
    refine ev_br (P := ¬ r1 = x2) (σ1 := ((d + 1), 111, 32, [some (.inr (.inr 86)), some (.inl x1), some (.inl x2), some (.inl x3), some (.inl x4)], [.inl x3], (am_sh, am_mm U1))) (σ2 := ((d + 1), 111, 28, [some (.inr (.inr 86)), some (.inl x1), some (.inl x2), some (.inl x3), some (.inl x4)], [.inl x3], (am_sh, am_mm U1))) 2 (fun _ => rfl) (fun hc => ?_) (fun hc => ?_)
    · have ha2a1 := ha2a.1 hc
      refine ev_seg (σ1 := ((d + 1), 111, 5, [some (.inr (.inr 86)), some (.inl x1), some (.inl x2), some (.inl (w32 (x3 + 0))), some (.inl (w32 (x4 + 1)))], [], (am_sh, am_mm U1))) 5 (fun _ => rfl) ?_
      exact ha2a1
    · have ha2a2 := ha2a.2 hc
      refine ev_seg (σ1 := ((d + 1), 111, 5, [some (.inr (.inr 86)), some (.inl x1), some (.inl x2), some (.inl (w32 (x3 + 1))), some (.inl (w32 (x4 + 1)))], [], (am_sh, am_mm U1))) 6 (fun _ => rfl) ?_
      exact ha2a2
set_option maxRecDepth 8000 in
theorem st140_1_0 (kz : am_Z) (d : Nat) (U : Nat → Nat → Int) (R : Option am_V × am_M) (h : ((((U 3 1) ≤ 0 : Prop)) → ∃ (r1 : Int) (U1 : Nat → Nat → Int), Ev kz (d, 228, 0, [some (.inr (.inr 1)), some (.inl 1000)], [], (am_sh, am_mm U)) (some (.inl r1), (am_sh, am_mm U1)) ∧ ∃ (r2 : Int) (U2 : Nat → Nat → Int), Ev kz (d, 229, 0, [some (.inr (.inr 1)), some (.inl (w32 (r1 + 1))), some (.inl (-1))], [], (am_sh, am_mm U1)) (some (.inl r2), (am_sh, am_mm U2)) ∧ R = (some (.inl (w32 (0 + r2))), (am_sh, am_mm (am_upd U2 16 1 (w32 ((U2 16 1) + 1)))))) ∧ (¬ ((U 3 1) ≤ 0) → ∃ U3 : Nat → Nat → Int, Ev kz (d, 226, 0, [some (.inr (.inr 1)), none, none], [], (am_sh, am_mm U)) (none, (am_sh, am_mm U3)) ∧ ∃ (r4 : Int) (U4 : Nat → Nat → Int), Ev kz (d, 227, 0, [some (.inr (.inr 1)), none, none, none], [], (am_sh, am_mm U3)) (some (.inl r4), (am_sh, am_mm U4)) ∧ ∃ (r5 : Int) (U5 : Nat → Nat → Int), Ev kz (d, 228, 0, [some (.inr (.inr 1)), some (.inl 1000)], [], (am_sh, am_mm U4)) (some (.inl r5), (am_sh, am_mm U5)) ∧ ∃ (r6 : Int) (U6 : Nat → Nat → Int), Ev kz (d, 229, 0, [some (.inr (.inr 1)), some (.inl (w32 (r5 + 1))), some (.inl (-1))], [], (am_sh, am_mm U5)) (some (.inl r6), (am_sh, am_mm U6)) ∧ R = (some (.inl (w32 (r4 + r6))), (am_sh, am_mm (am_upd U6 16 1 (w32 ((U6 16 1) + 1))))))) : Ev kz ((d + 1), 140, 0, [some (.inr (.inr 1)), none], [], (am_sh, am_mm U)) R := by
  refine ev_br (P := (U 3 1) ≤ 0) (σ1 := ((d + 1), 140, 21, [some (.inr (.inr 1)), some (.inl 0)], [], (am_sh, am_mm U))) (σ2 := ((d + 1), 140, 12, [some (.inr (.inr 1)), some (.inl 0)], [], (am_sh, am_mm U))) 6 (fun _ => rfl) (fun hc => ?_) (fun hc => ?_)
  · have h1 := h.1 hc
    refine ev_seg (σ1 := ((d + 1), 140, 27, [some (.inr (.inr 1)), some (.inl 0)], [.inl 1000, .inr (.inr 1), .inr (.inr 1), .inl 0], (am_sh, am_mm U))) 4 (fun _ => rfl) ?_
    obtain ⟨r1, U1, h1c, h1a⟩ := h1
    refine ev_cal (σc := (d, 228, 0, [some (.inr (.inr 1)), some (.inl 1000)], [], (am_sh, am_mm U))) (fun _ => rfl) h1c ?_
    show Ev kz ((d + 1), 140, 30, [some (.inr (.inr 1)), some (.inl 0)], [.inl r1, .inr (.inr 1), .inl 0], (am_sh, am_mm U1)) R
    refine ev_seg (σ1 := ((d + 1), 140, 33, [some (.inr (.inr 1)), some (.inl 0)], [.inl (-1), .inl (w32 (r1 + 1)), .inr (.inr 1), .inl 0], (am_sh, am_mm U1))) 3 (fun _ => rfl) ?_
    obtain ⟨r2, U2, h1ac, h1aa⟩ := h1a
    refine ev_cal (σc := (d, 229, 0, [some (.inr (.inr 1)), some (.inl (w32 (r1 + 1))), some (.inl (-1))], [], (am_sh, am_mm U1))) (fun _ => rfl) h1ac ?_
    show Ev kz ((d + 1), 140, 36, [some (.inr (.inr 1)), some (.inl 0)], [.inl r2, .inl 0], (am_sh, am_mm U2)) R
    refine ev_seg (σ1 := ((d + 1), 140, 48, [some (.inr (.inr 1)), some (.inl (w32 (0 + r2)))], [.inl (w32 ((U2 16 1) + 1)), .inr (.inr 16)], (am_sh, am_mm U2))) 8 (fun _ => rfl) ?_
    refine eu_puti 16 (n := 7) rfl (by decide) rfl rfl ?_
    subst h1aa
    exact ev_end 2 (fun _ => rfl)
  · have h2 := h.2 hc
    refine ev_seg (σ1 := ((d + 1), 140, 13, [some (.inr (.inr 1)), some (.inl 0)], [.inr (.inr 1)], (am_sh, am_mm U))) 1 (fun _ => rfl) ?_
    obtain ⟨U3, h2c, h2a⟩ := h2
    refine ev_cal (σc := (d, 226, 0, [some (.inr (.inr 1)), none, none], [], (am_sh, am_mm U))) (fun _ => rfl) h2c ?_
    show Ev kz ((d + 1), 140, 16, [some (.inr (.inr 1)), some (.inl 0)], [], (am_sh, am_mm U3)) R
    refine ev_seg (σ1 := ((d + 1), 140, 17, [some (.inr (.inr 1)), some (.inl 0)], [.inr (.inr 1)], (am_sh, am_mm U3))) 1 (fun _ => rfl) ?_
    obtain ⟨r4, U4, h2ac, h2aa⟩ := h2a
    refine ev_cal (σc := (d, 227, 0, [some (.inr (.inr 1)), none, none, none], [], (am_sh, am_mm U3))) (fun _ => rfl) h2ac ?_
    show Ev kz ((d + 1), 140, 20, [some (.inr (.inr 1)), some (.inl 0)], [.inl r4], (am_sh, am_mm U4)) R
    refine ev_seg (σ1 := ((d + 1), 140, 27, [some (.inr (.inr 1)), some (.inl r4)], [.inl 1000, .inr (.inr 1), .inr (.inr 1), .inl r4], (am_sh, am_mm U4))) 5 (fun _ => rfl) ?_
    obtain ⟨r5, U5, h2aac, h2aaa⟩ := h2aa
    refine ev_cal (σc := (d, 228, 0, [some (.inr (.inr 1)), some (.inl 1000)], [], (am_sh, am_mm U4))) (fun _ => rfl) h2aac ?_
    show Ev kz ((d + 1), 140, 30, [some (.inr (.inr 1)), some (.inl r4)], [.inl r5, .inr (.inr 1), .inl r4], (am_sh, am_mm U5)) R
    refine ev_seg (σ1 := ((d + 1), 140, 33, [some (.inr (.inr 1)), some (.inl r4)], [.inl (-1), .inl (w32 (r5 + 1)), .inr (.inr 1), .inl r4], (am_sh, am_mm U5))) 3 (fun _ => rfl) ?_
    obtain ⟨r6, U6, h2aaac, h2aaaa⟩ := h2aaa
    refine ev_cal (σc := (d, 229, 0, [some (.inr (.inr 1)), some (.inl (w32 (r5 + 1))), some (.inl (-1))], [], (am_sh, am_mm U5))) (fun _ => rfl) h2aaac ?_
    show Ev kz ((d + 1), 140, 36, [some (.inr (.inr 1)), some (.inl r4)], [.inl r6, .inl r4], (am_sh, am_mm U6)) R
    refine ev_seg (σ1 := ((d + 1), 140, 48, [some (.inr (.inr 1)), some (.inl (w32 (r4 + r6)))], [.inl (w32 ((U6 16 1) + 1)), .inr (.inr 16)], (am_sh, am_mm U6))) 8 (fun _ => rfl) ?_
    refine eu_puti 16 (n := 7) rfl (by decide) rfl rfl ?_
    subst h2aaaa
    exact ev_end 2 (fun _ => rfl)
set_option maxRecDepth 8000 in
theorem st141_86_0 (kz : am_Z) (d : Nat) (U : Nat → Nat → Int) (R : Option am_V × am_M) (h : (0 ≤ (U 86 13) ∧ (U 86 13) < 2) ∧ ((((U 90 (U 86 13).toNat) ≤ 0 : Prop)) → ∃ (r1 : Int) (U1 : Nat → Nat → Int), Ev kz (d, 230, 0, [some (.inr (.inr 86)), some (.inl 1000)], [], (am_sh, am_mm U)) (some (.inl r1), (am_sh, am_mm U1)) ∧ ∃ (r2 : Int) (U2 : Nat → Nat → Int), Ev kz (d, 233, 0, [some (.inr (.inr 86)), some (.inl (w32 (r1 + 1))), some (.inl (-1)), none, none], [], (am_sh, am_mm U1)) (some (.inl r2), (am_sh, am_mm U2)) ∧ R = (some (.inl (w32 (0 + r2))), (am_sh, am_mm (am_upd U2 120 0 (w32 ((U2 120 0) + 1)))))) ∧ (¬ ((U 90 (U 86 13).toNat) ≤ 0) → (0 ≤ (U 86 13) ∧ (U 86 13) < 2) ∧ ∃ (r3 : Int) (U3 : Nat → Nat → Int), Ev kz (d, 230, 0, [some (.inr (.inr 86)), some (.inl (U 90 (U 86 13).toNat))], [], (am_sh, am_mm U)) (some (.inl r3), (am_sh, am_mm U3)) ∧ ∃ (r4 : Int) (U4 : Nat → Nat → Int), Ev kz (d, 230, 0, [some (.inr (.inr 86)), some (.inl 100)], [], (am_sh, am_mm U3)) (some (.inl r4), (am_sh, am_mm U4)) ∧ (0 ≤ (U4 86 13) ∧ (U4 86 13) < 2) ∧ ((((U4 110 (U4 86 13).toNat) ≤ r4 : Prop)) → (0 ≤ (U4 86 13) ∧ (U4 86 13) < 2) ∧ ∃ (r5 : Int) (U5 : Nat → Nat → Int), Ev kz (d, 230, 0, [some (.inr (.inr 86)), some (.inl (U4 90 (U4 86 13).toNat))], [], (am_sh, am_mm U4)) (some (.inl r5), (am_sh, am_mm U5)) ∧ ∃ (r6 : Int) (U6 : Nat → Nat → Int), Ev kz (d, 232, 0, [some (.inr (.inr 86)), some (.inl r5), none, none], [], (am_sh, am_mm U5)) (some (.inl r6), (am_sh, am_mm U6)) ∧ ∃ (r7 : Int) (U7 : Nat → Nat → Int), Ev kz (d, 230, 0, [some (.inr (.inr 86)), some (.inl 1000)], [], (am_sh, am_mm U6)) (some (.inl r7), (am_sh, am_mm U7)) ∧ ∃ (r8 : Int) (U8 : Nat → Nat → Int), Ev kz (d, 233, 0, [some (.inr (.inr 86)), some (.inl (w32 (r7 + 1))), some (.inl (-1)), none, none], [], (am_sh, am_mm U7)) (some (.inl r8), (am_sh, am_mm U8)) ∧ R = (some (.inl (w32 ((w32 (0 + r6)) + r8))), (am_sh, am_mm (am_upd U8 120 0 (w32 ((U8 120 0) + 1)))))) ∧ (¬ ((U4 110 (U4 86 13).toNat) ≤ r4) → ∃ U9 : Nat → Nat → Int, Ev kz (d, 231, 0, [some (.inr (.inr 86)), some (.inl r3), none], [], (am_sh, am_mm U4)) (none, (am_sh, am_mm U9)) ∧ (0 ≤ (U9 86 13) ∧ (U9 86 13) < 2) ∧ ∃ (r10 : Int) (U10 : Nat → Nat → Int), Ev kz (d, 230, 0, [some (.inr (.inr 86)), some (.inl (U9 90 (U9 86 13).toNat))], [], (am_sh, am_mm U9)) (some (.inl r10), (am_sh, am_mm U10)) ∧ ∃ (r11 : Int) (U11 : Nat → Nat → Int), Ev kz (d, 232, 0, [some (.inr (.inr 86)), some (.inl r10), none, none], [], (am_sh, am_mm U10)) (some (.inl r11), (am_sh, am_mm U11)) ∧ ∃ (r12 : Int) (U12 : Nat → Nat → Int), Ev kz (d, 230, 0, [some (.inr (.inr 86)), some (.inl 1000)], [], (am_sh, am_mm U11)) (some (.inl r12), (am_sh, am_mm U12)) ∧ ∃ (r13 : Int) (U13 : Nat → Nat → Int), Ev kz (d, 233, 0, [some (.inr (.inr 86)), some (.inl (w32 (r12 + 1))), some (.inl (-1)), none, none], [], (am_sh, am_mm U12)) (some (.inl r13), (am_sh, am_mm U13)) ∧ R = (some (.inl (w32 ((w32 (0 + r11)) + r13))), (am_sh, am_mm (am_upd U13 120 0 (w32 ((U13 120 0) + 1)))))))) : Ev kz ((d + 1), 141, 0, [some (.inr (.inr 86)), none, none], [], (am_sh, am_mm U)) R := by
  refine ev_seg (σ1 := ((d + 1), 141, 10, [some (.inr (.inr 86)), some (.inl 0), none], [.inl (U 86 13), .inr (.inr 90)], (am_sh, am_mm U))) 6 (fun _ => rfl) ?_
  refine eu_iald 90 (n := 2) rfl (by decide) rfl (fun _ => rfl) h.1 ?_
  have ha := h.2
  refine ev_br (P := (U 90 (U 86 13).toNat) ≤ 0) (σ1 := ((d + 1), 141, 71, [some (.inr (.inr 86)), some (.inl 0), none], [], (am_sh, am_mm U))) (σ2 := ((d + 1), 141, 14, [some (.inr (.inr 86)), some (.inl 0), none], [], (am_sh, am_mm U))) 1 (fun _ => rfl) (fun hc => ?_) (fun hc => ?_)
  · have ha1 := ha.1 hc
    refine ev_seg (σ1 := ((d + 1), 141, 77, [some (.inr (.inr 86)), some (.inl 0), none], [.inl 1000, .inr (.inr 86), .inr (.inr 86), .inl 0], (am_sh, am_mm U))) 4 (fun _ => rfl) ?_
    obtain ⟨r1, U1, ha1c, ha1a⟩ := ha1
    refine ev_cal (σc := (d, 230, 0, [some (.inr (.inr 86)), some (.inl 1000)], [], (am_sh, am_mm U))) (fun _ => rfl) ha1c ?_
    show Ev kz ((d + 1), 141, 80, [some (.inr (.inr 86)), some (.inl 0), none], [.inl r1, .inr (.inr 86), .inl 0], (am_sh, am_mm U1)) R
    refine ev_seg (σ1 := ((d + 1), 141, 83, [some (.inr (.inr 86)), some (.inl 0), none], [.inl (-1), .inl (w32 (r1 + 1)), .inr (.inr 86), .inl 0], (am_sh, am_mm U1))) 3 (fun _ => rfl) ?_
    obtain ⟨r2, U2, ha1ac, ha1aa⟩ := ha1a
    refine ev_cal (σc := (d, 233, 0, [some (.inr (.inr 86)), some (.inl (w32 (r1 + 1))), some (.inl (-1)), none, none], [], (am_sh, am_mm U1))) (fun _ => rfl) ha1ac ?_
    show Ev kz ((d + 1), 141, 86, [some (.inr (.inr 86)), some (.inl 0), none], [.inl r2, .inl 0], (am_sh, am_mm U2)) R
    refine ev_seg (σ1 := ((d + 1), 141, 94, [some (.inr (.inr 86)), some (.inl (w32 (0 + r2))), none], [.inl 0, .inr (.inr 120), .inl 0, .inr (.inr 120)], (am_sh, am_mm U2))) 6 (fun _ => rfl) ?_
    refine eu_iald 120 (n := 22) rfl (by decide) rfl (fun _ => rfl) (by decide) ?_
    show Ev kz ((d + 1), 141, 95, [some (.inr (.inr 86)), some (.inl (w32 (0 + r2))), none], [.inl (U2 120 0), .inl 0, .inr (.inr 120)], (am_sh, am_mm U2)) R
    refine ev_seg (σ1 := ((d + 1), 141, 97, [some (.inr (.inr 86)), some (.inl (w32 (0 + r2))), none], [.inl (w32 ((U2 120 0) + 1)), .inl 0, .inr (.inr 120)], (am_sh, am_mm U2))) 2 (fun _ => rfl) ?_
    refine eu_iast 120 (n := 22) rfl (by decide) rfl (fun _ => rfl) (by decide) ?_
    show Ev kz ((d + 1), 141, 98, [some (.inr (.inr 86)), some (.inl (w32 (0 + r2))), none], [], (am_sh, am_mm (am_upd U2 120 0 (w32 ((U2 120 0) + 1))))) R
    subst ha1aa
    exact ev_end 2 (fun _ => rfl)
  · have ha2 := ha.2 hc
    refine ev_seg (σ1 := ((d + 1), 141, 23, [some (.inr (.inr 86)), some (.inl 0), none], [.inl (U 86 13), .inr (.inr 90), .inr (.inr 86)], (am_sh, am_mm U))) 5 (fun _ => rfl) ?_
    refine eu_iald 90 (n := 2) rfl (by decide) rfl (fun _ => rfl) ha2.1 ?_
    have ha2a := ha2.2
    obtain ⟨r3, U3, ha2ac, ha2aa⟩ := ha2a
    refine ev_cal (σc := (d, 230, 0, [some (.inr (.inr 86)), some (.inl (U 90 (U 86 13).toNat))], [], (am_sh, am_mm U))) (fun _ => rfl) ha2ac ?_
    show Ev kz ((d + 1), 141, 27, [some (.inr (.inr 86)), some (.inl 0), none], [.inl r3], (am_sh, am_mm U3)) R
    refine ev_seg (σ1 := ((d + 1), 141, 31, [some (.inr (.inr 86)), some (.inl 0), some (.inl r3)], [.inl 100, .inr (.inr 86)], (am_sh, am_mm U3))) 3 (fun _ => rfl) ?_
    obtain ⟨r4, U4, ha2aac, ha2aaa⟩ := ha2aa
    refine ev_cal (σc := (d, 230, 0, [some (.inr (.inr 86)), some (.inl 100)], [], (am_sh, am_mm U3))) (fun _ => rfl) ha2aac ?_
    show Ev kz ((d + 1), 141, 34, [some (.inr (.inr 86)), some (.inl 0), some (.inl r3)], [.inl r4], (am_sh, am_mm U4)) R
    refine ev_seg (σ1 := ((d + 1), 141, 42, [some (.inr (.inr 86)), some (.inl 0), some (.inl r3)], [.inl (U4 86 13), .inr (.inr 110), .inl r4], (am_sh, am_mm U4))) 4 (fun _ => rfl) ?_
    refine eu_iald 110 (n := 2) rfl (by decide) rfl (fun _ => rfl) ha2aaa.1 ?_
    have ha2aaaa := ha2aaa.2
    refine ev_br (P := (U4 110 (U4 86 13).toNat) ≤ r4) (σ1 := ((d + 1), 141, 51, [some (.inr (.inr 86)), some (.inl 0), some (.inl r3)], [], (am_sh, am_mm U4))) (σ2 := ((d + 1), 141, 46, [some (.inr (.inr 86)), some (.inl 0), some (.inl r3)], [], (am_sh, am_mm U4))) 1 (fun _ => rfl) (fun hc => ?_) (fun hc => ?_)
    · have ha2aaaa1 := ha2aaaa.1 hc
      refine ev_seg (σ1 := ((d + 1), 141, 62, [some (.inr (.inr 86)), some (.inl 0), some (.inl r3)], [.inl (U4 86 13), .inr (.inr 90), .inr (.inr 86), .inr (.inr 86), .inl 0], (am_sh, am_mm U4))) 7 (fun _ => rfl) ?_
      refine eu_iald 90 (n := 2) rfl (by decide) rfl (fun _ => rfl) ha2aaaa1.1 ?_
      have ha2aaaa1a := ha2aaaa1.2
      obtain ⟨r5, U5, ha2aaaa1ac, ha2aaaa1aa⟩ := ha2aaaa1a
      refine ev_cal (σc := (d, 230, 0, [some (.inr (.inr 86)), some (.inl (U4 90 (U4 86 13).toNat))], [], (am_sh, am_mm U4))) (fun _ => rfl) ha2aaaa1ac ?_
      show Ev kz ((d + 1), 141, 66, [some (.inr (.inr 86)), some (.inl 0), some (.inl r3)], [.inl r5, .inr (.inr 86), .inl 0], (am_sh, am_mm U5)) R
      obtain ⟨r6, U6, ha2aaaa1aac, ha2aaaa1aaa⟩ := ha2aaaa1aa
      refine ev_cal (σc := (d, 232, 0, [some (.inr (.inr 86)), some (.inl r5), none, none], [], (am_sh, am_mm U5))) (fun _ => rfl) ha2aaaa1aac ?_
      show Ev kz ((d + 1), 141, 69, [some (.inr (.inr 86)), some (.inl 0), some (.inl r3)], [.inl r6, .inl 0], (am_sh, am_mm U6)) R
      refine ev_seg (σ1 := ((d + 1), 141, 77, [some (.inr (.inr 86)), some (.inl (w32 (0 + r6))), some (.inl r3)], [.inl 1000, .inr (.inr 86), .inr (.inr 86), .inl (w32 (0 + r6))], (am_sh, am_mm U6))) 6 (fun _ => rfl) ?_
      obtain ⟨r7, U7, ha2aaaa1aaac, ha2aaaa1aaaa⟩ := ha2aaaa1aaa
      refine ev_cal (σc := (d, 230, 0, [some (.inr (.inr 86)), some (.inl 1000)], [], (am_sh, am_mm U6))) (fun _ => rfl) ha2aaaa1aaac ?_
      show Ev kz ((d + 1), 141, 80, [some (.inr (.inr 86)), some (.inl (w32 (0 + r6))), some (.inl r3)], [.inl r7, .inr (.inr 86), .inl (w32 (0 + r6))], (am_sh, am_mm U7)) R
      refine ev_seg (σ1 := ((d + 1), 141, 83, [some (.inr (.inr 86)), some (.inl (w32 (0 + r6))), some (.inl r3)], [.inl (-1), .inl (w32 (r7 + 1)), .inr (.inr 86), .inl (w32 (0 + r6))], (am_sh, am_mm U7))) 3 (fun _ => rfl) ?_
      obtain ⟨r8, U8, ha2aaaa1aaaac, ha2aaaa1aaaaa⟩ := ha2aaaa1aaaa
      refine ev_cal (σc := (d, 233, 0, [some (.inr (.inr 86)), some (.inl (w32 (r7 + 1))), some (.inl (-1)), none, none], [], (am_sh, am_mm U7))) (fun _ => rfl) ha2aaaa1aaaac ?_
      show Ev kz ((d + 1), 141, 86, [some (.inr (.inr 86)), some (.inl (w32 (0 + r6))), some (.inl r3)], [.inl r8, .inl (w32 (0 + r6))], (am_sh, am_mm U8)) R
      refine ev_seg (σ1 := ((d + 1), 141, 94, [some (.inr (.inr 86)), some (.inl (w32 ((w32 (0 + r6)) + r8))), some (.inl r3)], [.inl 0, .inr (.inr 120), .inl 0, .inr (.inr 120)], (am_sh, am_mm U8))) 6 (fun _ => rfl) ?_
      refine eu_iald 120 (n := 22) rfl (by decide) rfl (fun _ => rfl) (by decide) ?_
      show Ev kz ((d + 1), 141, 95, [some (.inr (.inr 86)), some (.inl (w32 ((w32 (0 + r6)) + r8))), some (.inl r3)], [.inl (U8 120 0), .inl 0, .inr (.inr 120)], (am_sh, am_mm U8)) R
      refine ev_seg (σ1 := ((d + 1), 141, 97, [some (.inr (.inr 86)), some (.inl (w32 ((w32 (0 + r6)) + r8))), some (.inl r3)], [.inl (w32 ((U8 120 0) + 1)), .inl 0, .inr (.inr 120)], (am_sh, am_mm U8))) 2 (fun _ => rfl) ?_
      refine eu_iast 120 (n := 22) rfl (by decide) rfl (fun _ => rfl) (by decide) ?_
      show Ev kz ((d + 1), 141, 98, [some (.inr (.inr 86)), some (.inl (w32 ((w32 (0 + r6)) + r8))), some (.inl r3)], [], (am_sh, am_mm (am_upd U8 120 0 (w32 ((U8 120 0) + 1))))) R
      subst ha2aaaa1aaaaa
      exact ev_end 2 (fun _ => rfl)
    · have ha2aaaa2 := ha2aaaa.2 hc
      refine ev_seg (σ1 := ((d + 1), 141, 48, [some (.inr (.inr 86)), some (.inl 0), some (.inl r3)], [.inl r3, .inr (.inr 86)], (am_sh, am_mm U4))) 2 (fun _ => rfl) ?_
      obtain ⟨U9, ha2aaaa2c, ha2aaaa2a⟩ := ha2aaaa2
      refine ev_cal (σc := (d, 231, 0, [some (.inr (.inr 86)), some (.inl r3), none], [], (am_sh, am_mm U4))) (fun _ => rfl) ha2aaaa2c ?_
      show Ev kz ((d + 1), 141, 51, [some (.inr (.inr 86)), some (.inl 0), some (.inl r3)], [], (am_sh, am_mm U9)) R
      refine ev_seg (σ1 := ((d + 1), 141, 62, [some (.inr (.inr 86)), some (.inl 0), some (.inl r3)], [.inl (U9 86 13), .inr (.inr 90), .inr (.inr 86), .inr (.inr 86), .inl 0], (am_sh, am_mm U9))) 7 (fun _ => rfl) ?_
      refine eu_iald 90 (n := 2) rfl (by decide) rfl (fun _ => rfl) ha2aaaa2a.1 ?_
      have ha2aaaa2aa := ha2aaaa2a.2
      obtain ⟨r10, U10, ha2aaaa2aac, ha2aaaa2aaa⟩ := ha2aaaa2aa
      refine ev_cal (σc := (d, 230, 0, [some (.inr (.inr 86)), some (.inl (U9 90 (U9 86 13).toNat))], [], (am_sh, am_mm U9))) (fun _ => rfl) ha2aaaa2aac ?_
      show Ev kz ((d + 1), 141, 66, [some (.inr (.inr 86)), some (.inl 0), some (.inl r3)], [.inl r10, .inr (.inr 86), .inl 0], (am_sh, am_mm U10)) R
      obtain ⟨r11, U11, ha2aaaa2aaac, ha2aaaa2aaaa⟩ := ha2aaaa2aaa
      refine ev_cal (σc := (d, 232, 0, [some (.inr (.inr 86)), some (.inl r10), none, none], [], (am_sh, am_mm U10))) (fun _ => rfl) ha2aaaa2aaac ?_
      show Ev kz ((d + 1), 141, 69, [some (.inr (.inr 86)), some (.inl 0), some (.inl r3)], [.inl r11, .inl 0], (am_sh, am_mm U11)) R
      refine ev_seg (σ1 := ((d + 1), 141, 77, [some (.inr (.inr 86)), some (.inl (w32 (0 + r11))), some (.inl r3)], [.inl 1000, .inr (.inr 86), .inr (.inr 86), .inl (w32 (0 + r11))], (am_sh, am_mm U11))) 6 (fun _ => rfl) ?_
      obtain ⟨r12, U12, ha2aaaa2aaaac, ha2aaaa2aaaaa⟩ := ha2aaaa2aaaa
      refine ev_cal (σc := (d, 230, 0, [some (.inr (.inr 86)), some (.inl 1000)], [], (am_sh, am_mm U11))) (fun _ => rfl) ha2aaaa2aaaac ?_
      show Ev kz ((d + 1), 141, 80, [some (.inr (.inr 86)), some (.inl (w32 (0 + r11))), some (.inl r3)], [.inl r12, .inr (.inr 86), .inl (w32 (0 + r11))], (am_sh, am_mm U12)) R
      refine ev_seg (σ1 := ((d + 1), 141, 83, [some (.inr (.inr 86)), some (.inl (w32 (0 + r11))), some (.inl r3)], [.inl (-1), .inl (w32 (r12 + 1)), .inr (.inr 86), .inl (w32 (0 + r11))], (am_sh, am_mm U12))) 3 (fun _ => rfl) ?_
      obtain ⟨r13, U13, ha2aaaa2aaaaac, ha2aaaa2aaaaaa⟩ := ha2aaaa2aaaaa
      refine ev_cal (σc := (d, 233, 0, [some (.inr (.inr 86)), some (.inl (w32 (r12 + 1))), some (.inl (-1)), none, none], [], (am_sh, am_mm U12))) (fun _ => rfl) ha2aaaa2aaaaac ?_
      show Ev kz ((d + 1), 141, 86, [some (.inr (.inr 86)), some (.inl (w32 (0 + r11))), some (.inl r3)], [.inl r13, .inl (w32 (0 + r11))], (am_sh, am_mm U13)) R
      refine ev_seg (σ1 := ((d + 1), 141, 94, [some (.inr (.inr 86)), some (.inl (w32 ((w32 (0 + r11)) + r13))), some (.inl r3)], [.inl 0, .inr (.inr 120), .inl 0, .inr (.inr 120)], (am_sh, am_mm U13))) 6 (fun _ => rfl) ?_
      refine eu_iald 120 (n := 22) rfl (by decide) rfl (fun _ => rfl) (by decide) ?_
      show Ev kz ((d + 1), 141, 95, [some (.inr (.inr 86)), some (.inl (w32 ((w32 (0 + r11)) + r13))), some (.inl r3)], [.inl (U13 120 0), .inl 0, .inr (.inr 120)], (am_sh, am_mm U13)) R
      refine ev_seg (σ1 := ((d + 1), 141, 97, [some (.inr (.inr 86)), some (.inl (w32 ((w32 (0 + r11)) + r13))), some (.inl r3)], [.inl (w32 ((U13 120 0) + 1)), .inl 0, .inr (.inr 120)], (am_sh, am_mm U13))) 2 (fun _ => rfl) ?_
      refine eu_iast 120 (n := 22) rfl (by decide) rfl (fun _ => rfl) (by decide) ?_
      show Ev kz ((d + 1), 141, 98, [some (.inr (.inr 86)), some (.inl (w32 ((w32 (0 + r11)) + r13))), some (.inl r3)], [], (am_sh, am_mm (am_upd U13 120 0 (w32 ((U13 120 0) + 1))))) R
      subst ha2aaaa2aaaaaa
      exact ev_end 2 (fun _ => rfl)
set_option maxRecDepth 8000 in
theorem st144_86_0 (kz : am_Z) (d : Nat) (x1 x2 : Int) (U : Nat → Nat → Int) (R : Option am_V × am_M) (h : (0 ≤ x2 ∧ x2 < 22) ∧ (0 ≤ x1 ∧ x1 < 22) ∧ (0 ≤ x2 ∧ x2 < 22) ∧ (0 ≤ x1 ∧ x1 < 22) ∧ (0 ≤ x2 ∧ x2 < 22) ∧ (0 ≤ x1 ∧ x1 < 22) ∧ Ev kz (d, 144, 38, [some (.inr (.inr 86)), some (.inl x1), some (.inl x2), some (.inl 0)], [], (am_sh, am_mm (am_upd (am_upd (am_upd U 120 x1.toNat (U 120 x2.toNat)) 121 x1.toNat ((am_upd U 120 x1.toNat (U 120 x2.toNat)) 121 x2.toNat)) 122 x1.toNat ((am_upd (am_upd U 120 x1.toNat (U 120 x2.toNat)) 121 x1.toNat ((am_upd U 120 x1.toNat (U 120 x2.toNat)) 121 x2.toNat)) 122 x2.toNat)))) R) : Ev kz (d, 144, 0, [some (.inr (.inr 86)), some (.inl x1), some (.inl x2), none], [], (am_sh, am_mm U)) R := by
  refine ev_seg (σ1 := (d, 144, 10, [some (.inr (.inr 86)), some (.inl x1), some (.inl x2), none], [.inl x2, .inr (.inr 120), .inl x1, .inr (.inr 120)], (am_sh, am_mm U))) 6 (fun _ => rfl) ?_
  refine eu_iald 120 (n := 22) rfl (by decide) rfl (fun _ => rfl) h.1 ?_
  have ha := h.2
  refine eu_iast 120 (n := 22) rfl (by decide) rfl (fun _ => rfl) ha.1 ?_
  have haa := ha.2
  refine ev_seg (σ1 := (d, 144, 22, [some (.inr (.inr 86)), some (.inl x1), some (.inl x2), none], [.inl x2, .inr (.inr 121), .inl x1, .inr (.inr 121)], (am_sh, am_mm (am_upd U 120 x1.toNat (U 120 x2.toNat))))) 6 (fun _ => rfl) ?_
  refine eu_iald 121 (n := 22) rfl (by decide) rfl (fun _ => rfl) haa.1 ?_
  have haaa := haa.2
  refine eu_iast 121 (n := 22) rfl (by decide) rfl (fun _ => rfl) haaa.1 ?_
  have haaaa := haaa.2
  refine ev_seg (σ1 := (d, 144, 34, [some (.inr (.inr 86)), some (.inl x1), some (.inl x2), none], [.inl x2, .inr (.inr 122), .inl x1, .inr (.inr 122)], (am_sh, am_mm (am_upd (am_upd U 120 x1.toNat (U 120 x2.toNat)) 121 x1.toNat ((am_upd U 120 x1.toNat (U 120 x2.toNat)) 121 x2.toNat))))) 6 (fun _ => rfl) ?_
  refine eu_iald 122 (n := 22) rfl (by decide) rfl (fun _ => rfl) haaaa.1 ?_
  have haaaaa := haaaa.2
  refine eu_iast 122 (n := 22) rfl (by decide) rfl (fun _ => rfl) haaaaa.1 ?_
  have haaaaaa := haaaaa.2
  refine ev_seg (σ1 := (d, 144, 38, [some (.inr (.inr 86)), some (.inl x1), some (.inl x2), some (.inl 0)], [], (am_sh, am_mm (am_upd (am_upd (am_upd U 120 x1.toNat (U 120 x2.toNat)) 121 x1.toNat ((am_upd U 120 x1.toNat (U 120 x2.toNat)) 121 x2.toNat)) 122 x1.toNat ((am_upd (am_upd U 120 x1.toNat (U 120 x2.toNat)) 121 x1.toNat ((am_upd U 120 x1.toNat (U 120 x2.toNat)) 121 x2.toNat)) 122 x2.toNat))))) 2 (fun _ => rfl) ?_
  exact haaaaaa
set_option maxRecDepth 8000 in
theorem st144_86_38 (kz : am_Z) (d : Nat) (x1 x2 x3 : Int) (U : Nat → Nat → Int) (R : Option am_V × am_M) (h : (((16 ≤ x3 : Prop)) → R = (none, (am_sh, am_mm U))) ∧ (¬ (16 ≤ x3) → (0 ≤ (w32 ((w32 (16 * x2)) + x3)) ∧ (w32 ((w32 (16 * x2)) + x3)) < 352) ∧ (0 ≤ (w32 ((w32 (16 * x1)) + x3)) ∧ (w32 ((w32 (16 * x1)) + x3)) < 352) ∧ (0 ≤ (w32 ((w32 (16 * x2)) + x3)) ∧ (w32 ((w32 (16 * x2)) + x3)) < 352) ∧ (0 ≤ (w32 ((w32 (16 * x1)) + x3)) ∧ (w32 ((w32 (16 * x1)) + x3)) < 352) ∧ Ev kz (d, 144, 38, [some (.inr (.inr 86)), some (.inl x1), some (.inl x2), some (.inl (w32 (x3 + 1)))], [], (am_sh, am_mm (am_upd (am_upd U 123 (w32 ((w32 (16 * x1)) + x3)).toNat (U 123 (w32 ((w32 (16 * x2)) + x3)).toNat)) 124 (w32 ((w32 (16 * x1)) + x3)).toNat ((am_upd U 123 (w32 ((w32 (16 * x1)) + x3)).toNat (U 123 (w32 ((w32 (16 * x2)) + x3)).toNat)) 124 (w32 ((w32 (16 * x2)) + x3)).toNat)))) R)) : Ev kz (d, 144, 38, [some (.inr (.inr 86)), some (.inl x1), some (.inl x2), some (.inl x3)], [], (am_sh, am_mm U)) R := by
  refine ev_br (P := 16 ≤ x3) (σ1 := (d, 144, 94, [some (.inr (.inr 86)), some (.inl x1), some (.inl x2), some (.inl x3)], [], (am_sh, am_mm U))) (σ2 := (d, 144, 44, [some (.inr (.inr 86)), some (.inl x1), some (.inl x2), some (.inl x3)], [], (am_sh, am_mm U))) 3 (fun _ => rfl) (fun hc => ?_) (fun hc => ?_)
  · have h1 := h.1 hc
    subst h1
    exact ev_end 1 (fun _ => rfl)
  · have h2 := h.2 hc
    refine ev_seg (σ1 := (d, 144, 64, [some (.inr (.inr 86)), some (.inl x1), some (.inl x2), some (.inl x3)], [.inl (w32 ((w32 (16 * x2)) + x3)), .inr (.inr 123), .inl (w32 ((w32 (16 * x1)) + x3)), .inr (.inr 123)], (am_sh, am_mm U))) 14 (fun _ => rfl) ?_
    refine eu_iald 123 (n := 352) rfl (by decide) rfl (fun _ => rfl) h2.1 ?_
    have h2a := h2.2
    refine eu_iast 123 (n := 352) rfl (by decide) rfl (fun _ => rfl) h2a.1 ?_
    have h2aa := h2a.2
    refine ev_seg (σ1 := (d, 144, 86, [some (.inr (.inr 86)), some (.inl x1), some (.inl x2), some (.inl x3)], [.inl (w32 ((w32 (16 * x2)) + x3)), .inr (.inr 124), .inl (w32 ((w32 (16 * x1)) + x3)), .inr (.inr 124)], (am_sh, am_mm (am_upd U 123 (w32 ((w32 (16 * x1)) + x3)).toNat (U 123 (w32 ((w32 (16 * x2)) + x3)).toNat))))) 14 (fun _ => rfl) ?_
    refine eu_iald 124 (n := 352) rfl (by decide) rfl (fun _ => rfl) h2aa.1 ?_
    have h2aaa := h2aa.2
    refine eu_iast 124 (n := 352) rfl (by decide) rfl (fun _ => rfl) h2aaa.1 ?_
    have h2aaaa := h2aaa.2
    refine ev_seg (σ1 := (d, 144, 38, [some (.inr (.inr 86)), some (.inl x1), some (.inl x2), some (.inl (w32 (x3 + 1)))], [], (am_sh, am_mm (am_upd (am_upd U 123 (w32 ((w32 (16 * x1)) + x3)).toNat (U 123 (w32 ((w32 (16 * x2)) + x3)).toNat)) 124 (w32 ((w32 (16 * x1)) + x3)).toNat ((am_upd U 123 (w32 ((w32 (16 * x1)) + x3)).toNat (U 123 (w32 ((w32 (16 * x2)) + x3)).toNat)) 124 (w32 ((w32 (16 * x2)) + x3)).toNat))))) 2 (fun _ => rfl) ?_
    exact h2aaaa
set_option maxRecDepth 8000 in
theorem st143_86_0 (kz : am_Z) (d : Nat) (x1 : Int) (U : Nat → Nat → Int) (R : Option am_V × am_M) (h : R = (some (.inl (w32 (2 + (Int.tmod (w32 ((U 86 57) + x1)) 20)))), (am_sh, am_mm U))) : Ev kz (d, 143, 0, [some (.inr (.inr 86)), some (.inl x1)], [], (am_sh, am_mm U)) R := by
  refine ev_seg (σ1 := (d, 143, 9, [some (.inr (.inr 86)), some (.inl x1)], [.inl 20, .inl (w32 ((U 86 57) + x1)), .inl 2], (am_sh, am_mm U))) 6 (fun _ => rfl) ?_
  refine ev_irem rfl (by decide) ?_
  subst h
  exact ev_end 2 (fun _ => rfl)
set_option maxRecDepth 8000 in
theorem st145_52_0 (kz : am_Z) (d : Nat) (x1 : Int) (U : Nat → Nat → Int) (R : Option am_V × am_M) (h : (((x1 = (-1) : Prop)) → ∃ U1 : Nat → Nat → Int, Ev kz (d, 235, 0, [some (.inr (.inr 52))], [], (am_sh, am_mm U)) (none, (am_sh, am_mm U1)) ∧ (((¬ x1 = (-1) : Prop)) → (0 ≤ x1 ∧ x1 < 16) ∧ R = (some (.inl (U1 55 x1.toNat)), (am_sh, am_mm U1))) ∧ (¬ (¬ x1 = (-1)) → R = (some (.inl (U1 52 7)), (am_sh, am_mm U1)))) ∧ (¬ (x1 = (-1)) → (((x1 < 0 : Prop)) → R = (some (.inl (-1)), (am_sh, am_mm U))) ∧ (¬ (x1 < 0) → (((x1 < (U 16 0) : Prop)) → ∃ U2 : Nat → Nat → Int, Ev kz (d, 235, 0, [some (.inr (.inr 52))], [], (am_sh, am_mm U)) (none, (am_sh, am_mm U2)) ∧ (((¬ x1 = (-1) : Prop)) → (0 ≤ x1 ∧ x1 < 16) ∧ R = (some (.inl (U2 55 x1.toNat)), (am_sh, am_mm U2))) ∧ (¬ (¬ x1 = (-1)) → R = (some (.inl (U2 52 7)), (am_sh, am_mm U2)))) ∧ (¬ (x1 < (U 16 0)) → R = (some (.inl (-1)), (am_sh, am_mm U)))))) : Ev kz ((d + 1), 145, 0, [some (.inr (.inr 52)), some (.inl x1)], [], (am_sh, am_mm U)) R := by
  refine ev_br (P := x1 = (-1)) (σ1 := ((d + 1), 145, 22, [some (.inr (.inr 52)), some (.inl x1)], [], (am_sh, am_mm U))) (σ2 := ((d + 1), 145, 5, [some (.inr (.inr 52)), some (.inl x1)], [], (am_sh, am_mm U))) 3 (fun _ => rfl) (fun hc => ?_) (fun hc => ?_)
  · have h1 := h.1 hc
    refine ev_seg (σ1 := ((d + 1), 145, 23, [some (.inr (.inr 52)), some (.inl x1)], [.inr (.inr 52)], (am_sh, am_mm U))) 1 (fun _ => rfl) ?_
    obtain ⟨U1, h1c, h1a⟩ := h1
    refine ev_cal (σc := (d, 235, 0, [some (.inr (.inr 52))], [], (am_sh, am_mm U))) (fun _ => rfl) h1c ?_
    show Ev kz ((d + 1), 145, 26, [some (.inr (.inr 52)), some (.inl x1)], [], (am_sh, am_mm U1)) R
    refine ev_br (P := ¬ x1 = (-1)) (σ1 := ((d + 1), 145, 38, [some (.inr (.inr 52)), some (.inl x1)], [], (am_sh, am_mm U1))) (σ2 := ((d + 1), 145, 31, [some (.inr (.inr 52)), some (.inl x1)], [], (am_sh, am_mm U1))) 3 (fun _ => rfl) (fun hc => ?_) (fun hc => ?_)
    · have h1a1 := h1a.1 hc
      refine ev_seg (σ1 := ((d + 1), 145, 43, [some (.inr (.inr 52)), some (.inl x1)], [.inl x1, .inr (.inr 55)], (am_sh, am_mm U1))) 3 (fun _ => rfl) ?_
      refine eu_iald 55 (n := 16) rfl (by decide) rfl (fun _ => rfl) h1a1.1 ?_
      have h1a1a := h1a1.2
      subst h1a1a
      exact ev_end 1 (fun _ => rfl)
    · have h1a2 := h1a.2 hc
      subst h1a2
      exact ev_end 4 (fun _ => rfl)
  · have h2 := h.2 hc
    refine ev_br (P := x1 < 0) (σ1 := ((d + 1), 145, 20, [some (.inr (.inr 52)), some (.inl x1)], [], (am_sh, am_mm U))) (σ2 := ((d + 1), 145, 9, [some (.inr (.inr 52)), some (.inl x1)], [], (am_sh, am_mm U))) 2 (fun _ => rfl) (fun hc => ?_) (fun hc => ?_)
    · have h21 := h2.1 hc
      subst h21
      exact ev_end 2 (fun _ => rfl)
    · have h22 := h2.2 hc
      refine ev_br (P := x1 < (U 16 0)) (σ1 := ((d + 1), 145, 22, [some (.inr (.inr 52)), some (.inl x1)], [], (am_sh, am_mm U))) (σ2 := ((d + 1), 145, 20, [some (.inr (.inr 52)), some (.inl x1)], [], (am_sh, am_mm U))) 5 (fun _ => rfl) (fun hc => ?_) (fun hc => ?_)
      · have h221 := h22.1 hc
        refine ev_seg (σ1 := ((d + 1), 145, 23, [some (.inr (.inr 52)), some (.inl x1)], [.inr (.inr 52)], (am_sh, am_mm U))) 1 (fun _ => rfl) ?_
        obtain ⟨U2, h221c, h221a⟩ := h221
        refine ev_cal (σc := (d, 235, 0, [some (.inr (.inr 52))], [], (am_sh, am_mm U))) (fun _ => rfl) h221c ?_
        show Ev kz ((d + 1), 145, 26, [some (.inr (.inr 52)), some (.inl x1)], [], (am_sh, am_mm U2)) R
        refine ev_br (P := ¬ x1 = (-1)) (σ1 := ((d + 1), 145, 38, [some (.inr (.inr 52)), some (.inl x1)], [], (am_sh, am_mm U2))) (σ2 := ((d + 1), 145, 31, [some (.inr (.inr 52)), some (.inl x1)], [], (am_sh, am_mm U2))) 3 (fun _ => rfl) (fun hc => ?_) (fun hc => ?_)
        · have h221a1 := h221a.1 hc
          refine ev_seg (σ1 := ((d + 1), 145, 43, [some (.inr (.inr 52)), some (.inl x1)], [.inl x1, .inr (.inr 55)], (am_sh, am_mm U2))) 3 (fun _ => rfl) ?_
          refine eu_iald 55 (n := 16) rfl (by decide) rfl (fun _ => rfl) h221a1.1 ?_
          have h221a1a := h221a1.2
          subst h221a1a
          exact ev_end 1 (fun _ => rfl)
        · have h221a2 := h221a.2 hc
          subst h221a2
          exact ev_end 4 (fun _ => rfl)
      · have h222 := h22.2 hc
        subst h222
        exact ev_end 2 (fun _ => rfl)
set_option maxRecDepth 8000 in
theorem st146_86_0 (kz : am_Z) (d : Nat) (U : Nat → Nat → Int) (R : Option am_V × am_M) (h : Ev kz ((d + 1), 146, 9, [some (.inr (.inr 86)), some (.inl (U 122 0)), some (.inl 0), none, none, none, none, none], [], (am_sh, am_mm U)) R) : Ev kz ((d + 1), 146, 0, [some (.inr (.inr 86)), none, none, none, none, none, none, none], [], (am_sh, am_mm U)) R := by
  refine ev_seg (σ1 := ((d + 1), 146, 5, [some (.inr (.inr 86)), none, none, none, none, none, none, none], [.inl 0, .inr (.inr 122)], (am_sh, am_mm U))) 3 (fun _ => rfl) ?_
  refine eu_iald 122 (n := 22) rfl (by decide) rfl (fun _ => rfl) (by decide) ?_
  show Ev kz ((d + 1), 146, 6, [some (.inr (.inr 86)), none, none, none, none, none, none, none], [.inl (U 122 0)], (am_sh, am_mm U)) R
  refine ev_seg (σ1 := ((d + 1), 146, 9, [some (.inr (.inr 86)), some (.inl (U 122 0)), some (.inl 0), none, none, none, none, none], [], (am_sh, am_mm U))) 3 (fun _ => rfl) ?_
  exact h
set_option maxRecDepth 8000 in
theorem st146_86_9 (kz : am_Z) (d : Nat) (x1 x2 : Int) (U : Nat → Nat → Int) (R : Option am_V × am_M) (h : (((x1 ≤ x2 : Prop)) → Ev kz ((d + 1), 146, 92, [some (.inr (.inr 86)), some (.inl x1), some (.inl 1), none, none, none, none, none], [], (am_sh, am_mm U)) R) ∧ (¬ (x1 ≤ x2) → (0 ≤ x2 ∧ x2 < 16) ∧ Ev kz ((d + 1), 146, 23, [some (.inr (.inr 86)), some (.inl x1), some (.inl x2), some (.inl 0), none, none, none, none], [], (am_sh, am_mm (am_upd U 130 x2.toNat 0))) R)) : Ev kz ((d + 1), 146, 9, [some (.inr (.inr 86)), some (.inl x1), some (.inl x2), none, none, none, none, none], [], (am_sh, am_mm U)) R := by
  refine ev_br (P := x1 ≤ x2) (σ1 := ((d + 1), 146, 90, [some (.inr (.inr 86)), some (.inl x1), some (.inl x2), none, none, none, none, none], [], (am_sh, am_mm U))) (σ2 := ((d + 1), 146, 14, [some (.inr (.inr 86)), some (.inl x1), some (.inl x2), none, none, none, none, none], [], (am_sh, am_mm U))) 3 (fun _ => rfl) (fun hc => ?_) (fun hc => ?_)
  · have h1 := h.1 hc
    refine ev_seg (σ1 := ((d + 1), 146, 92, [some (.inr (.inr 86)), some (.inl x1), some (.inl 1), none, none, none, none, none], [], (am_sh, am_mm U))) 2 (fun _ => rfl) ?_
    exact h1
  · have h2 := h.2 hc
    refine ev_seg (σ1 := ((d + 1), 146, 20, [some (.inr (.inr 86)), some (.inl x1), some (.inl x2), none, none, none, none, none], [.inl 0, .inl x2, .inr (.inr 130)], (am_sh, am_mm U))) 4 (fun _ => rfl) ?_
    refine eu_iast 130 (n := 16) rfl (by decide) rfl (fun _ => rfl) h2.1 ?_
    have h2a := h2.2
    refine ev_seg (σ1 := ((d + 1), 146, 23, [some (.inr (.inr 86)), some (.inl x1), some (.inl x2), some (.inl 0), none, none, none, none], [], (am_sh, am_mm (am_upd U 130 x2.toNat 0)))) 2 (fun _ => rfl) ?_
    exact h2a
set_option maxRecDepth 8000 in
theorem st146_86_92 (kz : am_Z) (d : Nat) (x1 x2 : Int) (U : Nat → Nat → Int) (R : Option am_V × am_M) (h : ((((am_shl 1 x1) ≤ x2 : Prop)) → Ev kz ((d + 1), 146, 213, [some (.inr (.inr 86)), some (.inl x1), some (.inl (w32 ((am_shl 1 x1) - 1))), none, none, none, none, none], [], (am_sh, am_mm U)) R) ∧ (¬ ((am_shl 1 x1) ≤ x2) → ∃ (r1 : Int) (U1 : Nat → Nat → Int), Ev kz (d, 237, 0, [some (.inl x2), none], [], (am_sh, am_mm U)) (some (.inl r1), (am_sh, am_mm U1)) ∧ (0 ≤ (am_and x2 (am_xor (am_shl 1 r1) (-1))) ∧ (am_and x2 (am_xor (am_shl 1 r1) (-1))) < 65536) ∧ Ev kz ((d + 1), 146, 127, [some (.inr (.inr 86)), some (.inl x1), some (.inl x2), some (.inl r1), some (.inl (am_and x2 (am_xor (am_shl 1 r1) (-1)))), some (.inl (U1 131 (am_and x2 (am_xor (am_shl 1 r1) (-1))).toNat)), some (.inl (w32 (r1 + 1))), none], [], (am_sh, am_mm U1)) R)) : Ev kz ((d + 1), 146, 92, [some (.inr (.inr 86)), some (.inl x1), some (.inl x2), none, none, none, none, none], [], (am_sh, am_mm U)) R := by
  refine ev_br (P := (am_shl 1 x1) ≤ x2) (σ1 := ((d + 1), 146, 207, [some (.inr (.inr 86)), some (.inl x1), some (.inl x2), none, none, none, none, none], [], (am_sh, am_mm U))) (σ2 := ((d + 1), 146, 99, [some (.inr (.inr 86)), some (.inl x1), some (.inl x2), none, none, none, none, none], [], (am_sh, am_mm U))) 5 (fun _ => rfl) (fun hc => ?_) (fun hc => ?_)
  · have h1 := h.1 hc
    refine ev_seg (σ1 := ((d + 1), 146, 213, [some (.inr (.inr 86)), some (.inl x1), some (.inl (w32 ((am_shl 1 x1) - 1))), none, none, none, none, none], [], (am_sh, am_mm U))) 6 (fun _ => rfl) ?_
    exact h1
  · have h2 := h.2 hc
    refine ev_seg (σ1 := ((d + 1), 146, 100, [some (.inr (.inr 86)), some (.inl x1), some (.inl x2), none, none, none, none, none], [.inl x2], (am_sh, am_mm U))) 1 (fun _ => rfl) ?_
    obtain ⟨r1, U1, h2c, h2a⟩ := h2
    refine ev_cal (σc := (d, 237, 0, [some (.inl x2), none], [], (am_sh, am_mm U))) (fun _ => rfl) h2c ?_
    show Ev kz ((d + 1), 146, 103, [some (.inr (.inr 86)), some (.inl x1), some (.inl x2), none, none, none, none, none], [.inl r1], (am_sh, am_mm U1)) R
    refine ev_seg (σ1 := ((d + 1), 146, 119, [some (.inr (.inr 86)), some (.inl x1), some (.inl x2), some (.inl r1), some (.inl (am_and x2 (am_xor (am_shl 1 r1) (-1)))), none, none, none], [.inl (am_and x2 (am_xor (am_shl 1 r1) (-1))), .inr (.inr 131)], (am_sh, am_mm U1))) 12 (fun _ => rfl) ?_
    refine eu_iald 131 (n := 65536) rfl (by decide) rfl (fun _ => rfl) h2a.1 ?_
    have h2aa := h2a.2
    refine ev_seg (σ1 := ((d + 1), 146, 127, [some (.inr (.inr 86)), some (.inl x1), some (.inl x2), some (.inl r1), some (.inl (am_and x2 (am_xor (am_shl 1 r1) (-1)))), some (.inl (U1 131 (am_and x2 (am_xor (am_shl 1 r1) (-1))).toNat)), some (.inl (w32 (r1 + 1))), none], [], (am_sh, am_mm U1))) 5 (fun _ => rfl) ?_
    exact h2aa
set_option maxRecDepth 8000 in
theorem st146_86_23 (kz : am_Z) (d : Nat) (x1 x2 x3 : Int) (U : Nat → Nat → Int) (R : Option am_V × am_M) (h : (((x1 ≤ x3 : Prop)) → (0 ≤ x2 ∧ x2 < 16) ∧ Ev kz ((d + 1), 146, 9, [some (.inr (.inr 86)), some (.inl x1), some (.inl (w32 (x2 + 1))), some (.inl x3), none, none, none, none], [], (am_sh, am_mm (am_upd U 132 x2.toNat (-1)))) R) ∧ (¬ (x1 ≤ x3) → (0 ≤ x2 ∧ x2 < 16) ∧ (((x2 = x3 : Prop)) → (0 ≤ x2 ∧ x2 < 16) ∧ Ev kz ((d + 1), 146, 23, [some (.inr (.inr 86)), some (.inl x1), some (.inl x2), some (.inl (w32 (x3 + 1))), none, none, none, none], [], (am_sh, am_mm (am_upd U 130 x2.toNat (am_or (U 130 x2.toNat) 0)))) R) ∧ (¬ (x2 = x3) → (0 ≤ (U 86 13) ∧ (U 86 13) < 2) ∧ ((((U 104 (U 86 13).toNat) = (-1) : Prop)) → (0 ≤ x2 ∧ x2 < 16) ∧ Ev kz ((d + 1), 146, 23, [some (.inr (.inr 86)), some (.inl x1), some (.inl x2), some (.inl (w32 (x3 + 1))), none, none, none, none], [], (am_sh, am_mm (am_upd U 130 x2.toNat (am_or (U 130 x2.toNat) 0)))) R) ∧ (¬ ((U 104 (U 86 13).toNat) = (-1)) → ∃ (r1 : Int) (U1 : Nat → Nat → Int), Ev kz (d, 236, 0, [some (.inr (.inr 86)), some (.inl x2), some (.inl x3)], [], (am_sh, am_mm U)) (some (.inl r1), (am_sh, am_mm U1)) ∧ (((r1 = 0 : Prop)) → (0 ≤ x2 ∧ x2 < 16) ∧ Ev kz ((d + 1), 146, 23, [some (.inr (.inr 86)), some (.inl x1), some (.inl x2), some (.inl (w32 (x3 + 1))), none, none, none, none], [], (am_sh, am_mm (am_upd U1 130 x2.toNat (am_or (U 130 x2.toNat) 0)))) R) ∧ (¬ (r1 = 0) → (0 ≤ x2 ∧ x2 < 16) ∧ Ev kz ((d + 1), 146, 23, [some (.inr (.inr 86)), some (.inl x1), some (.inl x2), some (.inl (w32 (x3 + 1))), none, none, none, none], [], (am_sh, am_mm (am_upd U1 130 x2.toNat (am_or (U 130 x2.toNat) (am_shl 1 x3))))) R))))) : Ev kz ((d + 1), 146, 23, [some (.inr (.inr 86)), some (.inl x1), some (.inl x2), some (.inl x3), none, none, none, none], [], (am_sh, am_mm U)) R := by
  refine ev_br (P := x1 ≤ x3) (σ1 := ((d + 1), 146, 77, [some (.inr (.inr 86)), some (.inl x1), some (.inl x2), some (.inl x3), none, none, none, none], [], (am_sh, am_mm U))) (σ2 := ((d + 1), 146, 28, [some (.inr (.inr 86)), some (.inl x1), some (.inl x2), some (.inl x3), none, none, none, none], [], (am_sh, am_mm U))) 3 (fun _ => rfl) (fun hc => ?_) (fun hc => ?_)
  · have h1 := h.1 hc
    refine ev_seg (σ1 := ((d + 1), 146, 83, [some (.inr (.inr 86)), some (.inl x1), some (.inl x2), some (.inl x3), none, none, none, none], [.inl (-1), .inl x2, .inr (.inr 132)], (am_sh, am_mm U))) 4 (fun _ => rfl) ?_
    refine eu_iast 132 (n := 16) rfl (by decide) rfl (fun _ => rfl) h1.1 ?_
    have h1a := h1.2
    refine ev_seg (σ1 := ((d + 1), 146, 9, [some (.inr (.inr 86)), some (.inl x1), some (.inl (w32 (x2 + 1))), some (.inl x3), none, none, none, none], [], (am_sh, am_mm (am_upd U 132 x2.toNat (-1))))) 2 (fun _ => rfl) ?_
    exact h1a
  · have h2 := h.2 hc
    refine ev_seg (σ1 := ((d + 1), 146, 34, [some (.inr (.inr 86)), some (.inl x1), some (.inl x2), some (.inl x3), none, none, none, none], [.inl x2, .inr (.inr 130), .inl x2, .inr (.inr 130)], (am_sh, am_mm U))) 4 (fun _ => rfl) ?_
    refine eu_iald 130 (n := 16) rfl (by decide) rfl (fun _ => rfl) h2.1 ?_
    have h2a := h2.2
    refine ev_br (P := x2 = x3) (σ1 := ((d + 1), 146, 68, [some (.inr (.inr 86)), some (.inl x1), some (.inl x2), some (.inl x3), none, none, none, none], [.inl (U 130 x2.toNat), .inl x2, .inr (.inr 130)], (am_sh, am_mm U))) (σ2 := ((d + 1), 146, 40, [some (.inr (.inr 86)), some (.inl x1), some (.inl x2), some (.inl x3), none, none, none, none], [.inl (U 130 x2.toNat), .inl x2, .inr (.inr 130)], (am_sh, am_mm U))) 3 (fun _ => rfl) (fun hc => ?_) (fun hc => ?_)
    · have h2a1 := h2a.1 hc
      refine ev_seg (σ1 := ((d + 1), 146, 70, [some (.inr (.inr 86)), some (.inl x1), some (.inl x2), some (.inl x3), none, none, none, none], [.inl (am_or (U 130 x2.toNat) 0), .inl x2, .inr (.inr 130)], (am_sh, am_mm U))) 2 (fun _ => rfl) ?_
      refine eu_iast 130 (n := 16) rfl (by decide) rfl (fun _ => rfl) h2a1.1 ?_
      have h2a1a := h2a1.2
      refine ev_seg (σ1 := ((d + 1), 146, 23, [some (.inr (.inr 86)), some (.inl x1), some (.inl x2), some (.inl (w32 (x3 + 1))), none, none, none, none], [], (am_sh, am_mm (am_upd U 130 x2.toNat (am_or (U 130 x2.toNat) 0))))) 2 (fun _ => rfl) ?_
      exact h2a1a
    · have h2a2 := h2a.2 hc
      refine ev_seg (σ1 := ((d + 1), 146, 48, [some (.inr (.inr 86)), some (.inl x1), some (.inl x2), some (.inl x3), none, none, none, none], [.inl (U 86 13), .inr (.inr 104), .inl (U 130 x2.toNat), .inl x2, .inr (.inr 130)], (am_sh, am_mm U))) 4 (fun _ => rfl) ?_
      refine eu_iald 104 (n := 2) rfl (by decide) rfl (fun _ => rfl) h2a2.1 ?_
      have h2a2a := h2a2.2
      refine ev_br (P := (U 104 (U 86 13).toNat) = (-1)) (σ1 := ((d + 1), 146, 68, [some (.inr (.inr 86)), some (.inl x1), some (.inl x2), some (.inl x3), none, none, none, none], [.inl (U 130 x2.toNat), .inl x2, .inr (.inr 130)], (am_sh, am_mm U))) (σ2 := ((d + 1), 146, 53, [some (.inr (.inr 86)), some (.inl x1), some (.inl x2), some (.inl x3), none, none, none, none], [.inl (U 130 x2.toNat), .inl x2, .inr (.inr 130)], (am_sh, am_mm U))) 2 (fun _ => rfl) (fun hc => ?_) (fun hc => ?_)
      · have h2a2a1 := h2a2a.1 hc
        refine ev_seg (σ1 := ((d + 1), 146, 70, [some (.inr (.inr 86)), some (.inl x1), some (.inl x2), some (.inl x3), none, none, none, none], [.inl (am_or (U 130 x2.toNat) 0), .inl x2, .inr (.inr 130)], (am_sh, am_mm U))) 2 (fun _ => rfl) ?_
        refine eu_iast 130 (n := 16) rfl (by decide) rfl (fun _ => rfl) h2a2a1.1 ?_
        have h2a2a1a := h2a2a1.2
        refine ev_seg (σ1 := ((d + 1), 146, 23, [some (.inr (.inr 86)), some (.inl x1), some (.inl x2), some (.inl (w32 (x3 + 1))), none, none, none, none], [], (am_sh, am_mm (am_upd U 130 x2.toNat (am_or (U 130 x2.toNat) 0))))) 2 (fun _ => rfl) ?_
        exact h2a2a1a
      · have h2a2a2 := h2a2a.2 hc
        refine ev_seg (σ1 := ((d + 1), 146, 56, [some (.inr (.inr 86)), some (.inl x1), some (.inl x2), some (.inl x3), none, none, none, none], [.inl x3, .inl x2, .inr (.inr 86), .inl (U 130 x2.toNat), .inl x2, .inr (.inr 130)], (am_sh, am_mm U))) 3 (fun _ => rfl) ?_
        obtain ⟨r1, U1, h2a2a2c, h2a2a2a⟩ := h2a2a2
        refine ev_cal (σc := (d, 236, 0, [some (.inr (.inr 86)), some (.inl x2), some (.inl x3)], [], (am_sh, am_mm U))) (fun _ => rfl) h2a2a2c ?_
        show Ev kz ((d + 1), 146, 59, [some (.inr (.inr 86)), some (.inl x1), some (.inl x2), some (.inl x3), none, none, none, none], [.inl r1, .inl (U 130 x2.toNat), .inl x2, .inr (.inr 130)], (am_sh, am_mm U1)) R
        refine ev_br (P := r1 = 0) (σ1 := ((d + 1), 146, 68, [some (.inr (.inr 86)), some (.inl x1), some (.inl x2), some (.inl x3), none, none, none, none], [.inl (U 130 x2.toNat), .inl x2, .inr (.inr 130)], (am_sh, am_mm U1))) (σ2 := ((d + 1), 146, 62, [some (.inr (.inr 86)), some (.inl x1), some (.inl x2), some (.inl x3), none, none, none, none], [.inl (U 130 x2.toNat), .inl x2, .inr (.inr 130)], (am_sh, am_mm U1))) 1 (fun _ => rfl) (fun hc => ?_) (fun hc => ?_)
        · have h2a2a2a1 := h2a2a2a.1 hc
          refine ev_seg (σ1 := ((d + 1), 146, 70, [some (.inr (.inr 86)), some (.inl x1), some (.inl x2), some (.inl x3), none, none, none, none], [.inl (am_or (U 130 x2.toNat) 0), .inl x2, .inr (.inr 130)], (am_sh, am_mm U1))) 2 (fun _ => rfl) ?_
          refine eu_iast 130 (n := 16) rfl (by decide) rfl (fun _ => rfl) h2a2a2a1.1 ?_
          have h2a2a2a1a := h2a2a2a1.2
          refine ev_seg (σ1 := ((d + 1), 146, 23, [some (.inr (.inr 86)), some (.inl x1), some (.inl x2), some (.inl (w32 (x3 + 1))), none, none, none, none], [], (am_sh, am_mm (am_upd U1 130 x2.toNat (am_or (U 130 x2.toNat) 0))))) 2 (fun _ => rfl) ?_
          exact h2a2a2a1a
        · have h2a2a2a2 := h2a2a2a.2 hc
          refine ev_seg (σ1 := ((d + 1), 146, 70, [some (.inr (.inr 86)), some (.inl x1), some (.inl x2), some (.inl x3), none, none, none, none], [.inl (am_or (U 130 x2.toNat) (am_shl 1 x3)), .inl x2, .inr (.inr 130)], (am_sh, am_mm U1))) 5 (fun _ => rfl) ?_
          refine eu_iast 130 (n := 16) rfl (by decide) rfl (fun _ => rfl) h2a2a2a2.1 ?_
          have h2a2a2a2a := h2a2a2a2.2
          refine ev_seg (σ1 := ((d + 1), 146, 23, [some (.inr (.inr 86)), some (.inl x1), some (.inl x2), some (.inl (w32 (x3 + 1))), none, none, none, none], [], (am_sh, am_mm (am_upd U1 130 x2.toNat (am_or (U 130 x2.toNat) (am_shl 1 x3)))))) 2 (fun _ => rfl) ?_
          exact h2a2a2a2a
set_option maxRecDepth 8000 in
theorem st146_86_213 (kz : am_Z) (d : Nat) (x1 x2 : Int) (U : Nat → Nat → Int) (R : Option am_V × am_M) (h : (((x2 = 0 : Prop)) → R = (none, (am_sh, am_mm U))) ∧ (¬ (x2 = 0) → ∃ (r1 : Int) (U1 : Nat → Nat → Int), Ev kz (d, 237, 0, [some (.inl x2), none], [], (am_sh, am_mm U)) (some (.inl r1), (am_sh, am_mm U1)) ∧ Ev kz ((d + 1), 146, 239, [some (.inr (.inr 86)), some (.inl x1), some (.inl x2), some (.inl r1), some (.inl (am_and x2 (am_xor (am_shl 1 r1) (-1)))), some (.inl (-1)), some (.inl (w32 (r1 + 1))), none], [], (am_sh, am_mm U1)) R)) : Ev kz ((d + 1), 146, 213, [some (.inr (.inr 86)), some (.inl x1), some (.inl x2), none, none, none, none, none], [], (am_sh, am_mm U)) R := by
  refine ev_br (P := x2 = 0) (σ1 := ((d + 1), 146, 342, [some (.inr (.inr 86)), some (.inl x1), some (.inl x2), none, none, none, none, none], [], (am_sh, am_mm U))) (σ2 := ((d + 1), 146, 217, [some (.inr (.inr 86)), some (.inl x1), some (.inl x2), none, none, none, none, none], [], (am_sh, am_mm U))) 2 (fun _ => rfl) (fun hc => ?_) (fun hc => ?_)
  · have h1 := h.1 hc
    subst h1
    exact ev_end 1 (fun _ => rfl)
  · have h2 := h.2 hc
    refine ev_seg (σ1 := ((d + 1), 146, 218, [some (.inr (.inr 86)), some (.inl x1), some (.inl x2), none, none, none, none, none], [.inl x2], (am_sh, am_mm U))) 1 (fun _ => rfl) ?_
    obtain ⟨r1, U1, h2c, h2a⟩ := h2
    refine ev_cal (σc := (d, 237, 0, [some (.inl x2), none], [], (am_sh, am_mm U))) (fun _ => rfl) h2c ?_
    show Ev kz ((d + 1), 146, 221, [some (.inr (.inr 86)), some (.inl x1), some (.inl x2), none, none, none, none, none], [.inl r1], (am_sh, am_mm U1)) R
    refine ev_seg (σ1 := ((d + 1), 146, 239, [some (.inr (.inr 86)), some (.inl x1), some (.inl x2), some (.inl r1), some (.inl (am_and x2 (am_xor (am_shl 1 r1) (-1)))), some (.inl (-1)), some (.inl (w32 (r1 + 1))), none], [], (am_sh, am_mm U1))) 15 (fun _ => rfl) ?_
    exact h2a
set_option maxRecDepth 8000 in
theorem st146_86_127 (kz : am_Z) (d : Nat) (x1 x2 x3 x4 x5 x6 : Int) (U : Nat → Nat → Int) (R : Option am_V × am_M) (h : (((x1 ≤ x6 : Prop)) → (0 ≤ x2 ∧ x2 < 65536) ∧ Ev kz ((d + 1), 146, 92, [some (.inr (.inr 86)), some (.inl x1), some (.inl (w32 (x2 + 1))), some (.inl x3), some (.inl x4), some (.inl x5), some (.inl x6), none], [], (am_sh, am_mm (am_upd U 131 x2.toNat x5))) R) ∧ (¬ (x1 ≤ x6) → (0 ≤ x3 ∧ x3 < 16) ∧ (((¬ (am_and (am_and x4 (U 130 x3.toNat)) (am_shl 1 x6)) = 0 : Prop)) → (0 ≤ (am_and x4 (am_xor (am_shl 1 x6) (-1))) ∧ (am_and x4 (am_xor (am_shl 1 x6) (-1))) < 65536) ∧ ((((w32 (1 + (U 131 (am_and x4 (am_xor (am_shl 1 x6) (-1))).toNat))) ≤ x5 : Prop)) → Ev kz ((d + 1), 146, 127, [some (.inr (.inr 86)), some (.inl x1), some (.inl x2), some (.inl x3), some (.inl x4), some (.inl x5), some (.inl (w32 (x6 + 1))), some (.inl (w32 (1 + (U 131 (am_and x4 (am_xor (am_shl 1 x6) (-1))).toNat))))], [], (am_sh, am_mm U)) R) ∧ (¬ ((w32 (1 + (U 131 (am_and x4 (am_xor (am_shl 1 x6) (-1))).toNat))) ≤ x5) → Ev kz ((d + 1), 146, 127, [some (.inr (.inr 86)), some (.inl x1), some (.inl x2), some (.inl x3), some (.inl x4), some (.inl (w32 (1 + (U 131 (am_and x4 (am_xor (am_shl 1 x6) (-1))).toNat)))), some (.inl (w32 (x6 + 1))), some (.inl (w32 (1 + (U 131 (am_and x4 (am_xor (am_shl 1 x6) (-1))).toNat))))], [], (am_sh, am_mm U)) R)) ∧ (¬ (¬ (am_and (am_and x4 (U 130 x3.toNat)) (am_shl 1 x6)) = 0) → Ev kz ((d + 1), 146, 127, [some (.inr (.inr 86)), some (.inl x1), some (.inl x2), some (.inl x3), some (.inl x4), some (.inl x5), some (.inl (w32 (x6 + 1))), none], [], (am_sh, am_mm U)) R))) : Ev kz ((d + 1), 146, 127, [some (.inr (.inr 86)), some (.inl x1), some (.inl x2), some (.inl x3), some (.inl x4), some (.inl x5), some (.inl x6), none], [], (am_sh, am_mm U)) R := by
  refine ev_br (P := x1 ≤ x6) (σ1 := ((d + 1), 146, 193, [some (.inr (.inr 86)), some (.inl x1), some (.inl x2), some (.inl x3), some (.inl x4), some (.inl x5), some (.inl x6), none], [], (am_sh, am_mm U))) (σ2 := ((d + 1), 146, 133, [some (.inr (.inr 86)), some (.inl x1), some (.inl x2), some (.inl x3), some (.inl x4), some (.inl x5), some (.inl x6), none], [], (am_sh, am_mm U))) 3 (fun _ => rfl) (fun hc => ?_) (fun hc => ?_)
  · have h1 := h.1 hc
    refine ev_seg (σ1 := ((d + 1), 146, 200, [some (.inr (.inr 86)), some (.inl x1), some (.inl x2), some (.inl x3), some (.inl x4), some (.inl x5), some (.inl x6), none], [.inl x5, .inl x2, .inr (.inr 131)], (am_sh, am_mm U))) 4 (fun _ => rfl) ?_
    refine eu_iast 131 (n := 65536) rfl (by decide) rfl (fun _ => rfl) h1.1 ?_
    have h1a := h1.2
    refine ev_seg (σ1 := ((d + 1), 146, 92, [some (.inr (.inr 86)), some (.inl x1), some (.inl (w32 (x2 + 1))), some (.inl x3), some (.inl x4), some (.inl x5), some (.inl x6), none], [], (am_sh, am_mm (am_upd U 131 x2.toNat x5)))) 2 (fun _ => rfl) ?_
    exact h1a
  · have h2 := h.2 hc
    refine ev_seg (σ1 := ((d + 1), 146, 140, [some (.inr (.inr 86)), some (.inl x1), some (.inl x2), some (.inl x3), some (.inl x4), some (.inl x5), some (.inl x6), none], [.inl x3, .inr (.inr 130), .inl x4], (am_sh, am_mm U))) 4 (fun _ => rfl) ?_
    refine eu_iald 130 (n := 16) rfl (by decide) rfl (fun _ => rfl) h2.1 ?_
    have h2a := h2.2
    refine ev_br (P := ¬ (am_and (am_and x4 (U 130 x3.toNat)) (am_shl 1 x6)) = 0) (σ1 := ((d + 1), 146, 153, [some (.inr (.inr 86)), some (.inl x1), some (.inl x2), some (.inl x3), some (.inl x4), some (.inl x5), some (.inl x6), none], [], (am_sh, am_mm U))) (σ2 := ((d + 1), 146, 150, [some (.inr (.inr 86)), some (.inl x1), some (.inl x2), some (.inl x3), some (.inl x4), some (.inl x5), some (.inl x6), none], [], (am_sh, am_mm U))) 6 (fun _ => rfl) (fun hc => ?_) (fun hc => ?_)
    · have h2a1 := h2a.1 hc
      refine ev_seg (σ1 := ((d + 1), 146, 167, [some (.inr (.inr 86)), some (.inl x1), some (.inl x2), some (.inl x3), some (.inl x4), some (.inl x5), some (.inl x6), none], [.inl (am_and x4 (am_xor (am_shl 1 x6) (-1))), .inr (.inr 131), .inl 1], (am_sh, am_mm U))) 10 (fun _ => rfl) ?_
      refine eu_iald 131 (n := 65536) rfl (by decide) rfl (fun _ => rfl) h2a1.1 ?_
      have h2a1a := h2a1.2
      refine ev_br (P := (w32 (1 + (U 131 (am_and x4 (am_xor (am_shl 1 x6) (-1))).toNat))) ≤ x5) (σ1 := ((d + 1), 146, 183, [some (.inr (.inr 86)), some (.inl x1), some (.inl x2), some (.inl x3), some (.inl x4), some (.inl x5), some (.inl x6), some (.inl (w32 (1 + (U 131 (am_and x4 (am_xor (am_shl 1 x6) (-1))).toNat))))], [], (am_sh, am_mm U))) (σ2 := ((d + 1), 146, 178, [some (.inr (.inr 86)), some (.inl x1), some (.inl x2), some (.inl x3), some (.inl x4), some (.inl x5), some (.inl x6), some (.inl (w32 (1 + (U 131 (am_and x4 (am_xor (am_shl 1 x6) (-1))).toNat))))], [], (am_sh, am_mm U))) 5 (fun _ => rfl) (fun hc => ?_) (fun hc => ?_)
      · have h2a1a1 := h2a1a.1 hc
        refine ev_seg (σ1 := ((d + 1), 146, 127, [some (.inr (.inr 86)), some (.inl x1), some (.inl x2), some (.inl x3), some (.inl x4), some (.inl x5), some (.inl (w32 (x6 + 1))), some (.inl (w32 (1 + (U 131 (am_and x4 (am_xor (am_shl 1 x6) (-1))).toNat))))], [], (am_sh, am_mm U))) 4 (fun _ => rfl) ?_
        exact h2a1a1
      · have h2a1a2 := h2a1a.2 hc
        refine ev_seg (σ1 := ((d + 1), 146, 127, [some (.inr (.inr 86)), some (.inl x1), some (.inl x2), some (.inl x3), some (.inl x4), some (.inl (w32 (1 + (U 131 (am_and x4 (am_xor (am_shl 1 x6) (-1))).toNat)))), some (.inl (w32 (x6 + 1))), some (.inl (w32 (1 + (U 131 (am_and x4 (am_xor (am_shl 1 x6) (-1))).toNat))))], [], (am_sh, am_mm U))) 5 (fun _ => rfl) ?_
        exact h2a1a2
    · have h2a2 := h2a.2 hc
      refine ev_seg (σ1 := ((d + 1), 146, 127, [some (.inr (.inr 86)), some (.inl x1), some (.inl x2), some (.inl x3), some (.inl x4), some (.inl x5), some (.inl (w32 (x6 + 1))), none], [], (am_sh, am_mm U))) 3 (fun _ => rfl) ?_
      exact h2a2
set_option maxRecDepth 8000 in
theorem st146_86_239 (kz : am_Z) (d : Nat) (x1 x2 x3 x4 x5 x6 : Int) (U : Nat → Nat → Int) (R : Option am_V × am_M) (h : (((x1 ≤ x6 : Prop)) → (((x5 = (-1) : Prop)) → Ev kz ((d + 1), 146, 213, [some (.inr (.inr 86)), some (.inl x1), some (.inl x4), some (.inl x3), some (.inl x4), some (.inl x5), some (.inl x6), none], [], (am_sh, am_mm U)) R) ∧ (¬ (x5 = (-1)) → (0 ≤ x3 ∧ x3 < 16) ∧ (0 ≤ x5 ∧ x5 < 16) ∧ Ev kz ((d + 1), 146, 213, [some (.inr (.inr 86)), some (.inl x1), some (.inl (am_and x4 (am_xor (am_shl 1 x5) (-1)))), some (.inl x3), some (.inl (am_and x4 (am_xor (am_shl 1 x5) (-1)))), some (.inl x5), some (.inl x6), none], [], (am_sh, am_mm (am_upd (am_upd U 132 x3.toNat x5) 132 x5.toNat x3))) R)) ∧ (¬ (x1 ≤ x6) → (((¬ x5 = (-1) : Prop)) → (((x5 = (-1) : Prop)) → Ev kz ((d + 1), 146, 213, [some (.inr (.inr 86)), some (.inl x1), some (.inl x4), some (.inl x3), some (.inl x4), some (.inl x5), some (.inl x6), none], [], (am_sh, am_mm U)) R) ∧ (¬ (x5 = (-1)) → (0 ≤ x3 ∧ x3 < 16) ∧ (0 ≤ x5 ∧ x5 < 16) ∧ Ev kz ((d + 1), 146, 213, [some (.inr (.inr 86)), some (.inl x1), some (.inl (am_and x4 (am_xor (am_shl 1 x5) (-1)))), some (.inl x3), some (.inl (am_and x4 (am_xor (am_shl 1 x5) (-1)))), some (.inl x5), some (.inl x6), none], [], (am_sh, am_mm (am_upd (am_upd U 132 x3.toNat x5) 132 x5.toNat x3))) R)) ∧ (¬ (¬ x5 = (-1)) → (0 ≤ x3 ∧ x3 < 16) ∧ ((((am_and (am_and x4 (U 130 x3.toNat)) (am_shl 1 x6)) = 0 : Prop)) → Ev kz ((d + 1), 146, 239, [some (.inr (.inr 86)), some (.inl x1), some (.inl x2), some (.inl x3), some (.inl x4), some (.inl x5), some (.inl (w32 (x6 + 1))), none], [], (am_sh, am_mm U)) R) ∧ (¬ ((am_and (am_and x4 (U 130 x3.toNat)) (am_shl 1 x6)) = 0) → (0 ≤ (am_and x4 (am_xor (am_shl 1 x6) (-1))) ∧ (am_and x4 (am_xor (am_shl 1 x6) (-1))) < 65536) ∧ (0 ≤ x2 ∧ x2 < 65536) ∧ (((¬ (w32 (1 + (U 131 (am_and x4 (am_xor (am_shl 1 x6) (-1))).toNat))) = (U 131 x2.toNat) : Prop)) → Ev kz ((d + 1), 146, 239, [some (.inr (.inr 86)), some (.inl x1), some (.inl x2), some (.inl x3), some (.inl x4), some (.inl x5), some (.inl (w32 (x6 + 1))), none], [], (am_sh, am_mm U)) R) ∧ (¬ (¬ (w32 (1 + (U 131 (am_and x4 (am_xor (am_shl 1 x6) (-1))).toNat))) = (U 131 x2.toNat)) → Ev kz ((d + 1), 146, 239, [some (.inr (.inr 86)), some (.inl x1), some (.inl x2), some (.inl x3), some (.inl x4), some (.inl x6), some (.inl (w32 (x6 + 1))), none], [], (am_sh, am_mm U)) R))))) : Ev kz ((d + 1), 146, 239, [some (.inr (.inr 86)), some (.inl x1), some (.inl x2), some (.inl x3), some (.inl x4), some (.inl x5), some (.inl x6), none], [], (am_sh, am_mm U)) R := by
  refine ev_br (P := x1 ≤ x6) (σ1 := ((d + 1), 146, 303, [some (.inr (.inr 86)), some (.inl x1), some (.inl x2), some (.inl x3), some (.inl x4), some (.inl x5), some (.inl x6), none], [], (am_sh, am_mm U))) (σ2 := ((d + 1), 146, 245, [some (.inr (.inr 86)), some (.inl x1), some (.inl x2), some (.inl x3), some (.inl x4), some (.inl x5), some (.inl x6), none], [], (am_sh, am_mm U))) 3 (fun _ => rfl) (fun hc => ?_) (fun hc => ?_)
  · have h1 := h.1 hc
    refine ev_br (P := x5 = (-1)) (σ1 := ((d + 1), 146, 336, [some (.inr (.inr 86)), some (.inl x1), some (.inl x2), some (.inl x3), some (.inl x4), some (.inl x5), some (.inl x6), none], [], (am_sh, am_mm U))) (σ2 := ((d + 1), 146, 309, [some (.inr (.inr 86)), some (.inl x1), some (.inl x2), some (.inl x3), some (.inl x4), some (.inl x5), some (.inl x6), none], [], (am_sh, am_mm U))) 3 (fun _ => rfl) (fun hc => ?_) (fun hc => ?_)
    · have h11 := h1.1 hc
      refine ev_seg (σ1 := ((d + 1), 146, 213, [some (.inr (.inr 86)), some (.inl x1), some (.inl x4), some (.inl x3), some (.inl x4), some (.inl x5), some (.inl x6), none], [], (am_sh, am_mm U))) 3 (fun _ => rfl) ?_
      exact h11
    · have h12 := h1.2 hc
      refine ev_seg (σ1 := ((d + 1), 146, 316, [some (.inr (.inr 86)), some (.inl x1), some (.inl x2), some (.inl x3), some (.inl x4), some (.inl x5), some (.inl x6), none], [.inl x5, .inl x3, .inr (.inr 132)], (am_sh, am_mm U))) 4 (fun _ => rfl) ?_
      refine eu_iast 132 (n := 16) rfl (by decide) rfl (fun _ => rfl) h12.1 ?_
      have h12a := h12.2
      refine ev_seg (σ1 := ((d + 1), 146, 324, [some (.inr (.inr 86)), some (.inl x1), some (.inl x2), some (.inl x3), some (.inl x4), some (.inl x5), some (.inl x6), none], [.inl x3, .inl x5, .inr (.inr 132)], (am_sh, am_mm (am_upd U 132 x3.toNat x5)))) 4 (fun _ => rfl) ?_
      refine eu_iast 132 (n := 16) rfl (by decide) rfl (fun _ => rfl) h12a.1 ?_
      have h12aa := h12a.2
      refine ev_seg (σ1 := ((d + 1), 146, 213, [some (.inr (.inr 86)), some (.inl x1), some (.inl (am_and x4 (am_xor (am_shl 1 x5) (-1)))), some (.inl x3), some (.inl (am_and x4 (am_xor (am_shl 1 x5) (-1)))), some (.inl x5), some (.inl x6), none], [], (am_sh, am_mm (am_upd (am_upd U 132 x3.toNat x5) 132 x5.toNat x3)))) 11 (fun _ => rfl) ?_
      exact h12aa
  · have h2 := h.2 hc
    refine ev_br (P := ¬ x5 = (-1)) (σ1 := ((d + 1), 146, 303, [some (.inr (.inr 86)), some (.inl x1), some (.inl x2), some (.inl x3), some (.inl x4), some (.inl x5), some (.inl x6), none], [], (am_sh, am_mm U))) (σ2 := ((d + 1), 146, 251, [some (.inr (.inr 86)), some (.inl x1), some (.inl x2), some (.inl x3), some (.inl x4), some (.inl x5), some (.inl x6), none], [], (am_sh, am_mm U))) 3 (fun _ => rfl) (fun hc => ?_) (fun hc => ?_)
    · have h21 := h2.1 hc
      refine ev_br (P := x5 = (-1)) (σ1 := ((d + 1), 146, 336, [some (.inr (.inr 86)), some (.inl x1), some (.inl x2), some (.inl x3), some (.inl x4), some (.inl x5), some (.inl x6), none], [], (am_sh, am_mm U))) (σ2 := ((d + 1), 146, 309, [some (.inr (.inr 86)), some (.inl x1), some (.inl x2), some (.inl x3), some (.inl x4), some (.inl x5), some (.inl x6), none], [], (am_sh, am_mm U))) 3 (fun _ => rfl) (fun hc => ?_) (fun hc => ?_)
      · have h211 := h21.1 hc
        refine ev_seg (σ1 := ((d + 1), 146, 213, [some (.inr (.inr 86)), some (.inl x1), some (.inl x4), some (.inl x3), some (.inl x4), some (.inl x5), some (.inl x6), none], [], (am_sh, am_mm U))) 3 (fun _ => rfl) ?_
        exact h211
      · have h212 := h21.2 hc
        refine ev_seg (σ1 := ((d + 1), 146, 316, [some (.inr (.inr 86)), some (.inl x1), some (.inl x2), some (.inl x3), some (.inl x4), some (.inl x5), some (.inl x6), none], [.inl x5, .inl x3, .inr (.inr 132)], (am_sh, am_mm U))) 4 (fun _ => rfl) ?_
        refine eu_iast 132 (n := 16) rfl (by decide) rfl (fun _ => rfl) h212.1 ?_
        have h212a := h212.2
        refine ev_seg (σ1 := ((d + 1), 146, 324, [some (.inr (.inr 86)), some (.inl x1), some (.inl x2), some (.inl x3), some (.inl x4), some (.inl x5), some (.inl x6), none], [.inl x3, .inl x5, .inr (.inr 132)], (am_sh, am_mm (am_upd U 132 x3.toNat x5)))) 4 (fun _ => rfl) ?_
        refine eu_iast 132 (n := 16) rfl (by decide) rfl (fun _ => rfl) h212a.1 ?_
        have h212aa := h212a.2
        refine ev_seg (σ1 := ((d + 1), 146, 213, [some (.inr (.inr 86)), some (.inl x1), some (.inl (am_and x4 (am_xor (am_shl 1 x5) (-1)))), some (.inl x3), some (.inl (am_and x4 (am_xor (am_shl 1 x5) (-1)))), some (.inl x5), some (.inl x6), none], [], (am_sh, am_mm (am_upd (am_upd U 132 x3.toNat x5) 132 x5.toNat x3)))) 11 (fun _ => rfl) ?_
        exact h212aa
    · have h22 := h2.2 hc
      refine ev_seg (σ1 := ((d + 1), 146, 258, [some (.inr (.inr 86)), some (.inl x1), some (.inl x2), some (.inl x3), some (.inl x4), some (.inl x5), some (.inl x6), none], [.inl x3, .inr (.inr 130), .inl x4], (am_sh, am_mm U))) 4 (fun _ => rfl) ?_
      refine eu_iald 130 (n := 16) rfl (by decide) rfl (fun _ => rfl) h22.1 ?_
      have h22a := h22.2
      refine ev_br (P := (am_and (am_and x4 (U 130 x3.toNat)) (am_shl 1 x6)) = 0) (σ1 := ((d + 1), 146, 297, [some (.inr (.inr 86)), some (.inl x1), some (.inl x2), some (.inl x3), some (.inl x4), some (.inl x5), some (.inl x6), none], [], (am_sh, am_mm U))) (σ2 := ((d + 1), 146, 268, [some (.inr (.inr 86)), some (.inl x1), some (.inl x2), some (.inl x3), some (.inl x4), some (.inl x5), some (.inl x6), none], [], (am_sh, am_mm U))) 6 (fun _ => rfl) (fun hc => ?_) (fun hc => ?_)
      · have h22a1 := h22a.1 hc
        refine ev_seg (σ1 := ((d + 1), 146, 239, [some (.inr (.inr 86)), some (.inl x1), some (.inl x2), some (.inl x3), some (.inl x4), some (.inl x5), some (.inl (w32 (x6 + 1))), none], [], (am_sh, am_mm U))) 2 (fun _ => rfl) ?_
        exact h22a1
      · have h22a2 := h22a.2 hc
        refine ev_seg (σ1 := ((d + 1), 146, 282, [some (.inr (.inr 86)), some (.inl x1), some (.inl x2), some (.inl x3), some (.inl x4), some (.inl x5), some (.inl x6), none], [.inl (am_and x4 (am_xor (am_shl 1 x6) (-1))), .inr (.inr 131), .inl 1], (am_sh, am_mm U))) 10 (fun _ => rfl) ?_
        refine eu_iald 131 (n := 65536) rfl (by decide) rfl (fun _ => rfl) h22a2.1 ?_
        have h22a2a := h22a2.2
        refine ev_seg (σ1 := ((d + 1), 146, 289, [some (.inr (.inr 86)), some (.inl x1), some (.inl x2), some (.inl x3), some (.inl x4), some (.inl x5), some (.inl x6), none], [.inl x2, .inr (.inr 131), .inl (w32 (1 + (U 131 (am_and x4 (am_xor (am_shl 1 x6) (-1))).toNat)))], (am_sh, am_mm U))) 4 (fun _ => rfl) ?_
        refine eu_iald 131 (n := 65536) rfl (by decide) rfl (fun _ => rfl) h22a2a.1 ?_
        have h22a2aa := h22a2a.2
        refine ev_br (P := ¬ (w32 (1 + (U 131 (am_and x4 (am_xor (am_shl 1 x6) (-1))).toNat))) = (U 131 x2.toNat)) (σ1 := ((d + 1), 146, 297, [some (.inr (.inr 86)), some (.inl x1), some (.inl x2), some (.inl x3), some (.inl x4), some (.inl x5), some (.inl x6), none], [], (am_sh, am_mm U))) (σ2 := ((d + 1), 146, 293, [some (.inr (.inr 86)), some (.inl x1), some (.inl x2), some (.inl x3), some (.inl x4), some (.inl x5), some (.inl x6), none], [], (am_sh, am_mm U))) 1 (fun _ => rfl) (fun hc => ?_) (fun hc => ?_)
        · have h22a2aa1 := h22a2aa.1 hc
          refine ev_seg (σ1 := ((d + 1), 146, 239, [some (.inr (.inr 86)), some (.inl x1), some (.inl x2), some (.inl x3), some (.inl x4), some (.inl x5), some (.inl (w32 (x6 + 1))), none], [], (am_sh, am_mm U))) 2 (fun _ => rfl) ?_
          exact h22a2aa1
        · have h22a2aa2 := h22a2aa.2 hc
          refine ev_seg (σ1 := ((d + 1), 146, 239, [some (.inr (.inr 86)), some (.inl x1), some (.inl x2), some (.inl x3), some (.inl x4), some (.inl x6), some (.inl (w32 (x6 + 1))), none], [], (am_sh, am_mm U))) 4 (fun _ => rfl) ?_
          exact h22a2aa2
set_option maxRecDepth 8000 in
theorem st119_16_0 (kz : am_Z) (d : Nat) (x1 : Int) (U : Nat → Nat → Int) (R : Option am_V × am_M) (h : (0 ≤ x1 ∧ x1 < 16) ∧ (((0 ≤ (am_lcmp (U 20 x1.toNat) 0) : Prop)) → (0 ≤ x1 ∧ x1 < 16) ∧ R = (some (.inr (.inl (U 20 x1.toNat))), (am_sh, am_mm U))) ∧ (¬ (0 ≤ (am_lcmp (U 20 x1.toNat) 0)) → (0 ≤ x1 ∧ x1 < 16) ∧ ∃ (r1 : Int) (U1 : Nat → Nat → Int), Ev kz (d, 206, 0, [some (.inl (if 0 ≤ (U 17 x1.toNat) then (U 17 x1.toNat) else w32 (-(U 17 x1.toNat)))), none, none, none, none, none, none, none, none], [], (am_sh, am_mm U)) (some (.inr (.inl r1)), (am_sh, am_mm U1)) ∧ (0 ≤ x1 ∧ x1 < 16) ∧ (0 ≤ x1 ∧ x1 < 16) ∧ R = (some (.inr (.inl ((am_upd U1 20 x1.toNat r1) 20 x1.toNat))), (am_sh, am_mm (am_upd U1 20 x1.toNat r1))))) : Ev kz ((d + 1), 119, 0, [some (.inr (.inr 16)), some (.inl x1)], [], (am_sh, am_mm U)) R := by
  refine ev_seg (σ1 := ((d + 1), 119, 5, [some (.inr (.inr 16)), some (.inl x1)], [.inl x1, .inr (.inr 20)], (am_sh, am_mm U))) 3 (fun _ => rfl) ?_
  refine eu_lald 20 (n := 16) rfl (by decide) rfl (fun _ => rfl) h.1 ?_
  have ha := h.2
  refine ev_br (P := 0 ≤ (am_lcmp (U 20 x1.toNat) 0)) (σ1 := ((d + 1), 119, 29, [some (.inr (.inr 16)), some (.inl x1)], [], (am_sh, am_mm U))) (σ2 := ((d + 1), 119, 11, [some (.inr (.inr 16)), some (.inl x1)], [], (am_sh, am_mm U))) 3 (fun _ => rfl) (fun hc => ?_) (fun hc => ?_)
  · have ha1 := ha.1 hc
    refine ev_seg (σ1 := ((d + 1), 119, 34, [some (.inr (.inr 16)), some (.inl x1)], [.inl x1, .inr (.inr 20)], (am_sh, am_mm U))) 3 (fun _ => rfl) ?_
    refine eu_lald 20 (n := 16) rfl (by decide) rfl (fun _ => rfl) ha1.1 ?_
    have ha1a := ha1.2
    subst ha1a
    exact ev_end 1 (fun _ => rfl)
  · have ha2 := ha.2 hc
    refine ev_seg (σ1 := ((d + 1), 119, 21, [some (.inr (.inr 16)), some (.inl x1)], [.inl x1, .inr (.inr 17), .inl x1, .inr (.inr 20)], (am_sh, am_mm U))) 6 (fun _ => rfl) ?_
    refine eu_iald 17 (n := 16) rfl (by decide) rfl (fun _ => rfl) ha2.1 ?_
    have ha2a := ha2.2
    refine ev_seg (σ1 := ((d + 1), 119, 25, [some (.inr (.inr 16)), some (.inl x1)], [.inl (if 0 ≤ (U 17 x1.toNat) then (U 17 x1.toNat) else w32 (-(U 17 x1.toNat))), .inl x1, .inr (.inr 20)], (am_sh, am_mm U))) 1 (fun _ => rfl) ?_
    obtain ⟨r1, U1, ha2ac, ha2aa⟩ := ha2a
    refine ev_cal (σc := (d, 206, 0, [some (.inl (if 0 ≤ (U 17 x1.toNat) then (U 17 x1.toNat) else w32 (-(U 17 x1.toNat)))), none, none, none, none, none, none, none, none], [], (am_sh, am_mm U))) (fun _ => rfl) ha2ac ?_
    show Ev kz ((d + 1), 119, 28, [some (.inr (.inr 16)), some (.inl x1)], [.inr (.inl r1), .inl x1, .inr (.inr 20)], (am_sh, am_mm U1)) R
    refine eu_last 20 (n := 16) rfl (by decide) rfl (fun _ => rfl) ha2aa.1 ?_
    have ha2aaa := ha2aa.2
    refine ev_seg (σ1 := ((d + 1), 119, 34, [some (.inr (.inr 16)), some (.inl x1)], [.inl x1, .inr (.inr 20)], (am_sh, am_mm (am_upd U1 20 x1.toNat r1)))) 3 (fun _ => rfl) ?_
    refine eu_lald 20 (n := 16) rfl (by decide) rfl (fun _ => rfl) ha2aaa.1 ?_
    have ha2aaaa := ha2aaa.2
    subst ha2aaaa
    exact ev_end 1 (fun _ => rfl)
set_option maxRecDepth 8000 in
theorem st147_82_0 (kz : am_Z) (d : Nat) (x1 : Int) (U : Nat → Nat → Int) (R : Option am_V × am_M) (h : ∃ U1 : Nat → Nat → Int, Ev kz (d, 211, 0, [some (.inr (.inr 83)), some (.inl 0), none, none], [], (am_sh, am_mm U)) (none, (am_sh, am_mm U1)) ∧ Ev kz ((d + 1), 147, 28, [some (.inr (.inr 82)), some (.inr (.inl x1)), none, some (.inr (.inl x1)), none, some (.inl 0)], [], (am_sh, am_mm (am_upd (am_upd (am_upd U1 82 2 0) 82 3 0) 82 1 1))) R) : Ev kz ((d + 1), 147, 0, [some (.inr (.inr 82)), some (.inr (.inl x1)), none, none, none, none], [], (am_sh, am_mm U)) R := by
  refine ev_seg (σ1 := ((d + 1), 147, 5, [some (.inr (.inr 82)), some (.inr (.inl x1)), none, none, none, none], [.inl 0, .inr (.inr 83)], (am_sh, am_mm U))) 3 (fun _ => rfl) ?_
  obtain ⟨U1, hc, ha⟩ := h
  refine ev_cal (σc := (d, 211, 0, [some (.inr (.inr 83)), some (.inl 0), none, none], [], (am_sh, am_mm U))) (fun _ => rfl) hc ?_
  show Ev kz ((d + 1), 147, 8, [some (.inr (.inr 82)), some (.inr (.inl x1)), none, none, none, none], [], (am_sh, am_mm U1)) R
  refine ev_seg (σ1 := ((d + 1), 147, 10, [some (.inr (.inr 82)), some (.inr (.inl x1)), none, none, none, none], [.inl 0, .inr (.inr 82)], (am_sh, am_mm U1))) 2 (fun _ => rfl) ?_
  refine eu_puti 82 (n := 4) rfl (by decide) rfl rfl ?_
  refine ev_seg (σ1 := ((d + 1), 147, 15, [some (.inr (.inr 82)), some (.inr (.inl x1)), none, none, none, none], [.inl 0, .inr (.inr 82)], (am_sh, am_mm (am_upd U1 82 2 0)))) 2 (fun _ => rfl) ?_
  refine eu_puti 82 (n := 4) rfl (by decide) rfl rfl ?_
  refine ev_seg (σ1 := ((d + 1), 147, 20, [some (.inr (.inr 82)), some (.inr (.inl x1)), none, none, none, none], [.inl 1, .inr (.inr 82)], (am_sh, am_mm (am_upd (am_upd U1 82 2 0) 82 3 0)))) 2 (fun _ => rfl) ?_
  refine eu_puti 82 (n := 4) rfl (by decide) rfl rfl ?_
  refine ev_seg (σ1 := ((d + 1), 147, 28, [some (.inr (.inr 82)), some (.inr (.inl x1)), none, some (.inr (.inl x1)), none, some (.inl 0)], [], (am_sh, am_mm (am_upd (am_upd (am_upd U1 82 2 0) 82 3 0) 82 1 1)))) 4 (fun _ => rfl) ?_
  exact ha
set_option maxRecDepth 8000 in
theorem st147_82_28 (kz : am_Z) (d : Nat) (x1 x3 x5 : Int) (U : Nat → Nat → Int) (R : Option am_V × am_M) (h : (((64 ≤ x5 : Prop)) → R = (none, (am_sh, am_mm U))) ∧ (¬ (64 ≤ x5) → ((((am_lcmp x3 0) ≤ 0 : Prop)) → R = (none, (am_sh, am_mm U))) ∧ (¬ ((am_lcmp x3 0) ≤ 0) → (0 ≤ x5 ∧ x5 < 64) ∧ Ev kz ((d + 1), 147, 28, [some (.inr (.inr 82)), some (.inr (.inl x1)), none, some (.inr (.inl (w64 (Int.tdiv x3 10)))), none, some (.inl (w32 (x5 + 1)))], [], (am_sh, am_mm (am_upd (am_upd U 83 x5.toNat (w32 (Int.tmod x3 10))) 82 1 (w32 (x5 + 1))))) R))) : Ev kz ((d + 1), 147, 28, [some (.inr (.inr 82)), some (.inr (.inl x1)), none, some (.inr (.inl x3)), none, some (.inl x5)], [], (am_sh, am_mm U)) R := by
  refine ev_br (P := 64 ≤ x5) (σ1 := ((d + 1), 147, 74, [some (.inr (.inr 82)), some (.inr (.inl x1)), none, some (.inr (.inl x3)), none, some (.inl x5)], [], (am_sh, am_mm U))) (σ2 := ((d + 1), 147, 35, [some (.inr (.inr 82)), some (.inr (.inl x1)), none, some (.inr (.inl x3)), none, some (.inl x5)], [], (am_sh, am_mm U))) 3 (fun _ => rfl) (fun hc => ?_) (fun hc => ?_)
  · have h1 := h.1 hc
    subst h1
    exact ev_end 1 (fun _ => rfl)
  · have h2 := h.2 hc
    refine ev_br (P := (am_lcmp x3 0) ≤ 0) (σ1 := ((d + 1), 147, 74, [some (.inr (.inr 82)), some (.inr (.inl x1)), none, some (.inr (.inl x3)), none, some (.inl x5)], [], (am_sh, am_mm U))) (σ2 := ((d + 1), 147, 41, [some (.inr (.inr 82)), some (.inr (.inl x1)), none, some (.inr (.inl x3)), none, some (.inl x5)], [], (am_sh, am_mm U))) 4 (fun _ => rfl) (fun hc => ?_) (fun hc => ?_)
    · have h21 := h2.1 hc
      subst h21
      exact ev_end 1 (fun _ => rfl)
    · have h22 := h2.2 hc
      refine ev_seg (σ1 := ((d + 1), 147, 51, [some (.inr (.inr 82)), some (.inr (.inl x1)), none, some (.inr (.inl x3)), none, some (.inl x5)], [.inr (.inl 10), .inr (.inl x3), .inl x5, .inr (.inr 83)], (am_sh, am_mm U))) 5 (fun _ => rfl) ?_
      refine ev_lrem rfl (by decide) ?_
      refine ev_seg (σ1 := ((d + 1), 147, 53, [some (.inr (.inr 82)), some (.inr (.inl x1)), none, some (.inr (.inl x3)), none, some (.inl x5)], [.inl (w32 (Int.tmod x3 10)), .inl x5, .inr (.inr 83)], (am_sh, am_mm U))) 1 (fun _ => rfl) ?_
      refine eu_iast 83 (n := 64) rfl (by decide) rfl (fun _ => rfl) h22.1 ?_
      have h22a := h22.2
      refine ev_seg (σ1 := ((d + 1), 147, 58, [some (.inr (.inr 82)), some (.inr (.inl x1)), none, some (.inr (.inl x3)), none, some (.inl x5)], [.inr (.inl 10), .inr (.inl x3)], (am_sh, am_mm (am_upd U 83 x5.toNat (w32 (Int.tmod x3 10)))))) 2 (fun _ => rfl) ?_
      refine ev_ldiv rfl (by decide) ?_
      refine ev_seg (σ1 := ((d + 1), 147, 65, [some (.inr (.inr 82)), some (.inr (.inl x1)), none, some (.inr (.inl (w64 (Int.tdiv x3 10)))), none, some (.inl x5)], [.inl (w32 (x5 + 1)), .inr (.inr 82)], (am_sh, am_mm (am_upd U 83 x5.toNat (w32 (Int.tmod x3 10)))))) 5 (fun _ => rfl) ?_
      refine eu_puti 82 (n := 4) rfl (by decide) rfl rfl ?_
      refine ev_seg (σ1 := ((d + 1), 147, 28, [some (.inr (.inr 82)), some (.inr (.inl x1)), none, some (.inr (.inl (w64 (Int.tdiv x3 10)))), none, some (.inl (w32 (x5 + 1)))], [], (am_sh, am_mm (am_upd (am_upd U 83 x5.toNat (w32 (Int.tmod x3 10))) 82 1 (w32 (x5 + 1)))))) 2 (fun _ => rfl) ?_
      exact h22a
set_option maxRecDepth 8000 in
theorem st148_82_0 (kz : am_Z) (d : Nat) (x1 : Int) (U : Nat → Nat → Int) (R : Option am_V × am_M) (h : (((¬ x1 = (-1) : Prop)) → (((x1 < 0 : Prop)) → R = (some (.inl (-1)), (am_sh, am_mm U))) ∧ (¬ (x1 < 0) → ((((U 82 1) ≤ x1 : Prop)) → R = (some (.inl (-1)), (am_sh, am_mm U))) ∧ (¬ ((U 82 1) ≤ x1) → (0 ≤ x1 ∧ x1 < 64) ∧ R = (some (.inl (U 83 x1.toNat)), (am_sh, am_mm U))))) ∧ (¬ (¬ x1 = (-1)) → R = (some (.inl (U 82 1)), (am_sh, am_mm U)))) : Ev kz (d, 148, 0, [some (.inr (.inr 82)), some (.inl x1)], [], (am_sh, am_mm U)) R := by
  refine ev_br (P := ¬ x1 = (-1)) (σ1 := (d, 148, 10, [some (.inr (.inr 82)), some (.inl x1)], [], (am_sh, am_mm U))) (σ2 := (d, 148, 5, [some (.inr (.inr 82)), some (.inl x1)], [], (am_sh, am_mm U))) 3 (fun _ => rfl) (fun hc => ?_) (fun hc => ?_)
  · have h1 := h.1 hc
    refine ev_br (P := x1 < 0) (σ1 := (d, 148, 31, [some (.inr (.inr 82)), some (.inl x1)], [], (am_sh, am_mm U))) (σ2 := (d, 148, 14, [some (.inr (.inr 82)), some (.inl x1)], [], (am_sh, am_mm U))) 2 (fun _ => rfl) (fun hc => ?_) (fun hc => ?_)
    · have h11 := h1.1 hc
      subst h11
      exact ev_end 2 (fun _ => rfl)
    · have h12 := h1.2 hc
      refine ev_br (P := (U 82 1) ≤ x1) (σ1 := (d, 148, 31, [some (.inr (.inr 82)), some (.inl x1)], [], (am_sh, am_mm U))) (σ2 := (d, 148, 22, [some (.inr (.inr 82)), some (.inl x1)], [], (am_sh, am_mm U))) 4 (fun _ => rfl) (fun hc => ?_) (fun hc => ?_)
      · have h121 := h12.1 hc
        subst h121
        exact ev_end 2 (fun _ => rfl)
      · have h122 := h12.2 hc
        refine ev_seg (σ1 := (d, 148, 27, [some (.inr (.inr 82)), some (.inl x1)], [.inl x1, .inr (.inr 83)], (am_sh, am_mm U))) 3 (fun _ => rfl) ?_
        refine eu_iald 83 (n := 64) rfl (by decide) rfl (fun _ => rfl) h122.1 ?_
        have h122a := h122.2
        subst h122a
        exact ev_end 2 (fun _ => rfl)
  · have h2 := h.2 hc
    subst h2
    exact ev_end 3 (fun _ => rfl)
set_option maxRecDepth 8000 in
theorem st150_0 (kz : am_Z) (d : Nat) (x0 x2 : Int) (U : Nat → Nat → Int) (R : Option am_V × am_M) (h : (((x2 < 0 : Prop)) → R = (some (.inl (-1)), (am_sh, am_mm U))) ∧ (¬ (x2 < 0) → ∃ (r1 : Int) (U1 : Nat → Nat → Int), Ev kz (d, 149, 0, [some (.inr (.inl x0)), none, none, none, none], [], (am_sh, am_mm U)) (some (.inl r1), (am_sh, am_mm U1)) ∧ (((x2 < r1 : Prop)) → Ev kz ((d + 1), 150, 19, [some (.inr (.inl x0)), none, some (.inl x2), some (.inr (.inl x0)), none, some (.inl 0)], [], (am_sh, am_mm U1)) R) ∧ (¬ (x2 < r1) → R = (some (.inl (-1)), (am_sh, am_mm U1))))) : Ev kz ((d + 1), 150, 0, [some (.inr (.inl x0)), none, some (.inl x2), none, none, none], [], (am_sh, am_mm U)) R := by
  refine ev_br (P := x2 < 0) (σ1 := ((d + 1), 150, 12, [some (.inr (.inl x0)), none, some (.inl x2), none, none, none], [], (am_sh, am_mm U))) (σ2 := ((d + 1), 150, 4, [some (.inr (.inl x0)), none, some (.inl x2), none, none, none], [], (am_sh, am_mm U))) 2 (fun _ => rfl) (fun hc => ?_) (fun hc => ?_)
  · have h1 := h.1 hc
    subst h1
    exact ev_end 2 (fun _ => rfl)
  · have h2 := h.2 hc
    refine ev_seg (σ1 := ((d + 1), 150, 6, [some (.inr (.inl x0)), none, some (.inl x2), none, none, none], [.inr (.inl x0), .inl x2], (am_sh, am_mm U))) 2 (fun _ => rfl) ?_
    obtain ⟨r1, U1, h2c, h2a⟩ := h2
    refine ev_cal (σc := (d, 149, 0, [some (.inr (.inl x0)), none, none, none, none], [], (am_sh, am_mm U))) (fun _ => rfl) h2c ?_
    show Ev kz ((d + 1), 150, 9, [some (.inr (.inl x0)), none, some (.inl x2), none, none, none], [.inl r1, .inl x2], (am_sh, am_mm U1)) R
    refine ev_br (P := x2 < r1) (σ1 := ((d + 1), 150, 14, [some (.inr (.inl x0)), none, some (.inl x2), none, none, none], [], (am_sh, am_mm U1))) (σ2 := ((d + 1), 150, 12, [some (.inr (.inl x0)), none, some (.inl x2), none, none, none], [], (am_sh, am_mm U1))) 1 (fun _ => rfl) (fun hc => ?_) (fun hc => ?_)
    · have h2a1 := h2a.1 hc
      refine ev_seg (σ1 := ((d + 1), 150, 19, [some (.inr (.inl x0)), none, some (.inl x2), some (.inr (.inl x0)), none, some (.inl 0)], [], (am_sh, am_mm U1))) 4 (fun _ => rfl) ?_
      exact h2a1
    · have h2a2 := h2a.2 hc
      subst h2a2
      exact ev_end 2 (fun _ => rfl)
set_option maxRecDepth 8000 in
theorem st150_19 (kz : am_Z) (d : Nat) (x0 x2 x3 x5 : Int) (U : Nat → Nat → Int) (R : Option am_V × am_M) (h : (((x2 ≤ x5 : Prop)) → R = (some (.inl (w32 (Int.tmod x3 10))), (am_sh, am_mm U))) ∧ (¬ (x2 ≤ x5) → Ev kz ((d + 1), 150, 19, [some (.inr (.inl x0)), none, some (.inl x2), some (.inr (.inl (w64 (Int.tdiv x3 10)))), none, some (.inl (w32 (x5 + 1)))], [], (am_sh, am_mm U)) R)) : Ev kz ((d + 1), 150, 19, [some (.inr (.inl x0)), none, some (.inl x2), some (.inr (.inl x3)), none, some (.inl x5)], [], (am_sh, am_mm U)) R := by
  refine ev_br (P := x2 ≤ x5) (σ1 := ((d + 1), 150, 37, [some (.inr (.inl x0)), none, some (.inl x2), some (.inr (.inl x3)), none, some (.inl x5)], [], (am_sh, am_mm U))) (σ2 := ((d + 1), 150, 25, [some (.inr (.inl x0)), none, some (.inl x2), some (.inr (.inl x3)), none, some (.inl x5)], [], (am_sh, am_mm U))) 3 (fun _ => rfl) (fun hc => ?_) (fun hc => ?_)
  · have h1 := h.1 hc
    refine ev_seg (σ1 := ((d + 1), 150, 41, [some (.inr (.inl x0)), none, some (.inl x2), some (.inr (.inl x3)), none, some (.inl x5)], [.inr (.inl 10), .inr (.inl x3)], (am_sh, am_mm U))) 2 (fun _ => rfl) ?_
    refine ev_lrem rfl (by decide) ?_
    subst h1
    exact ev_end 2 (fun _ => rfl)
  · have h2 := h.2 hc
    refine ev_seg (σ1 := ((d + 1), 150, 29, [some (.inr (.inl x0)), none, some (.inl x2), some (.inr (.inl x3)), none, some (.inl x5)], [.inr (.inl 10), .inr (.inl x3)], (am_sh, am_mm U))) 2 (fun _ => rfl) ?_
    refine ev_ldiv rfl (by decide) ?_
    refine ev_seg (σ1 := ((d + 1), 150, 19, [some (.inr (.inl x0)), none, some (.inl x2), some (.inr (.inl (w64 (Int.tdiv x3 10)))), none, some (.inl (w32 (x5 + 1)))], [], (am_sh, am_mm U))) 3 (fun _ => rfl) ?_
    exact h2
set_option maxRecDepth 8000 in
theorem st149_0 (kz : am_Z) (d : Nat) (x0 : Int) (U : Nat → Nat → Int) (R : Option am_V × am_M) (h : Ev kz (d, 149, 8, [some (.inr (.inl x0)), none, some (.inl 1), some (.inr (.inl (w64 (Int.tdiv x0 10)))), none], [], (am_sh, am_mm U)) R) : Ev kz (d, 149, 0, [some (.inr (.inl x0)), none, none, none, none], [], (am_sh, am_mm U)) R := by
  refine ev_seg (σ1 := (d, 149, 6, [some (.inr (.inl x0)), none, some (.inl 1), none, none], [.inr (.inl 10), .inr (.inl x0)], (am_sh, am_mm U))) 4 (fun _ => rfl) ?_
  refine ev_ldiv rfl (by decide) ?_
  refine ev_seg (σ1 := (d, 149, 8, [some (.inr (.inl x0)), none, some (.inl 1), some (.inr (.inl (w64 (Int.tdiv x0 10)))), none], [], (am_sh, am_mm U))) 1 (fun _ => rfl) ?_
  exact h
set_option maxRecDepth 8000 in
theorem st149_8 (kz : am_Z) (d : Nat) (x0 x2 x3 : Int) (U : Nat → Nat → Int) (R : Option am_V × am_M) (h : ((((am_lcmp x3 0) ≤ 0 : Prop)) → R = (some (.inl x2), (am_sh, am_mm U))) ∧ (¬ ((am_lcmp x3 0) ≤ 0) → Ev kz (d, 149, 8, [some (.inr (.inl x0)), none, some (.inl (w32 (x2 + 1))), some (.inr (.inl (w64 (Int.tdiv x3 10)))), none], [], (am_sh, am_mm U)) R)) : Ev kz (d, 149, 8, [some (.inr (.inl x0)), none, some (.inl x2), some (.inr (.inl x3)), none], [], (am_sh, am_mm U)) R := by
  refine ev_br (P := (am_lcmp x3 0) ≤ 0) (σ1 := (d, 149, 26, [some (.inr (.inl x0)), none, some (.inl x2), some (.inr (.inl x3)), none], [], (am_sh, am_mm U))) (σ2 := (d, 149, 14, [some (.inr (.inl x0)), none, some (.inl x2), some (.inr (.inl x3)), none], [], (am_sh, am_mm U))) 4 (fun _ => rfl) (fun hc => ?_) (fun hc => ?_)
  · have h1 := h.1 hc
    subst h1
    exact ev_end 2 (fun _ => rfl)
  · have h2 := h.2 hc
    refine ev_seg (σ1 := (d, 149, 21, [some (.inr (.inl x0)), none, some (.inl (w32 (x2 + 1))), some (.inr (.inl x3)), none], [.inr (.inl 10), .inr (.inl x3)], (am_sh, am_mm U))) 3 (fun _ => rfl) ?_
    refine ev_ldiv rfl (by decide) ?_
    refine ev_seg (σ1 := (d, 149, 8, [some (.inr (.inl x0)), none, some (.inl (w32 (x2 + 1))), some (.inr (.inl (w64 (Int.tdiv x3 10)))), none], [], (am_sh, am_mm U))) 2 (fun _ => rfl) ?_
    exact h2
