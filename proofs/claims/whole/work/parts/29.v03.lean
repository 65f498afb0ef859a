set_option maxRecDepth 8000 in
theorem st96_86_0 (N : Nat) (X : Nat → Int) (d : Nat) (U : Nat → Nat → Int) (R : Option am_V × am_M) (h : (0 ≤ ((am_upd (am_upd (am_upd (am_upd U 120 0 0) 121 0 0) 86 58 0) 86 82 0) 86 13) ∧ ((am_upd (am_upd (am_upd (am_upd U 120 0 0) 121 0 0) 86 58 0) 86 82 0) 86 13) < 2) ∧ Ev (am_kz N X) (d, 96, 41, [some (.inr (.inr 86)), some (.inl 0)], [], (am_sh, am_mm (am_upd (am_upd (am_upd (am_upd (am_upd U 120 0 0) 121 0 0) 86 58 0) 86 82 0) 122 0 ((am_upd (am_upd (am_upd (am_upd U 120 0 0) 121 0 0) 86 58 0) 86 82 0) 97 ((am_upd (am_upd (am_upd (am_upd U 120 0 0) 121 0 0) 86 58 0) 86 82 0) 86 13).toNat)))) R) : Ev (am_kz N X) (d, 96, 0, [some (.inr (.inr 86)), none], [], (am_sh, am_mm U)) R := by
  refine ev_seg (σ1 := (d, 96, 6, [some (.inr (.inr 86)), none], [.inl 0, .inl 0, .inr (.inr 120)], (am_sh, am_mm U))) 4 (fun _ => rfl) ?_
  refine eu_iast 120 (n := 22) rfl (by decide) rfl (fun _ => rfl) (by decide) ?_
  show Ev (am_kz N X) (d, 96, 7, [some (.inr (.inr 86)), none], [], (am_sh, am_mm (am_upd U 120 0 0))) R
  refine ev_seg (σ1 := (d, 96, 13, [some (.inr (.inr 86)), none], [.inl 0, .inl 0, .inr (.inr 121)], (am_sh, am_mm (am_upd U 120 0 0)))) 4 (fun _ => rfl) ?_
  refine eu_iast 121 (n := 22) rfl (by decide) rfl (fun _ => rfl) (by decide) ?_
  show Ev (am_kz N X) (d, 96, 14, [some (.inr (.inr 86)), none], [], (am_sh, am_mm (am_upd (am_upd U 120 0 0) 121 0 0))) R
  refine ev_seg (σ1 := (d, 96, 16, [some (.inr (.inr 86)), none], [.inl 0, .inr (.inr 86)], (am_sh, am_mm (am_upd (am_upd U 120 0 0) 121 0 0)))) 2 (fun _ => rfl) ?_
  refine eu_puti 86 (n := 90) rfl (by decide) rfl rfl ?_
  refine ev_seg (σ1 := (d, 96, 21, [some (.inr (.inr 86)), none], [.inl 0, .inr (.inr 86)], (am_sh, am_mm (am_upd (am_upd (am_upd U 120 0 0) 121 0 0) 86 58 0)))) 2 (fun _ => rfl) ?_
  refine eu_puti 86 (n := 90) rfl (by decide) rfl rfl ?_
  refine ev_seg (σ1 := (d, 96, 37, [some (.inr (.inr 86)), none], [.inl ((am_upd (am_upd (am_upd (am_upd U 120 0 0) 121 0 0) 86 58 0) 86 82 0) 86 13), .inr (.inr 97), .inl 0, .inr (.inr 122)], (am_sh, am_mm (am_upd (am_upd (am_upd (am_upd U 120 0 0) 121 0 0) 86 58 0) 86 82 0)))) 7 (fun _ => rfl) ?_
  refine eu_iald 97 (n := 2) rfl (by decide) rfl (fun _ => rfl) h.1 ?_
  have ha := h.2
  refine eu_iast 122 (n := 22) rfl (by decide) rfl (fun _ => rfl) (by decide) ?_
  show Ev (am_kz N X) (d, 96, 39, [some (.inr (.inr 86)), none], [], (am_sh, am_mm (am_upd (am_upd (am_upd (am_upd (am_upd U 120 0 0) 121 0 0) 86 58 0) 86 82 0) 122 0 ((am_upd (am_upd (am_upd (am_upd U 120 0 0) 121 0 0) 86 58 0) 86 82 0) 97 ((am_upd (am_upd (am_upd (am_upd U 120 0 0) 121 0 0) 86 58 0) 86 82 0) 86 13).toNat)))) R
  refine ev_seg (σ1 := (d, 96, 41, [some (.inr (.inr 86)), some (.inl 0)], [], (am_sh, am_mm (am_upd (am_upd (am_upd (am_upd (am_upd U 120 0 0) 121 0 0) 86 58 0) 86 82 0) 122 0 ((am_upd (am_upd (am_upd (am_upd U 120 0 0) 121 0 0) 86 58 0) 86 82 0) 97 ((am_upd (am_upd (am_upd (am_upd U 120 0 0) 121 0 0) 86 58 0) 86 82 0) 86 13).toNat))))) 2 (fun _ => rfl) ?_
  exact ha
set_option maxRecDepth 8000 in
theorem st96_86_41 (N : Nat) (X : Nat → Int) (d : Nat) (x1 : Int) (U : Nat → Nat → Int) (R : Option am_V × am_M) (h : (0 ≤ (U 86 13) ∧ (U 86 13) < 2) ∧ ((((U 97 (U 86 13).toNat) ≤ x1 : Prop)) → R = (none, (am_sh, am_mm U))) ∧ (¬ ((U 97 (U 86 13).toNat) ≤ x1) → (0 ≤ (w32 ((w32 (16 * (U 86 13))) + x1)) ∧ (w32 ((w32 (16 * (U 86 13))) + x1)) < 32) ∧ (0 ≤ x1 ∧ x1 < 352) ∧ (0 ≤ (w32 ((w32 (16 * ((am_upd U 123 x1.toNat (U 98 (w32 ((w32 (16 * (U 86 13))) + x1)).toNat)) 86 13))) + x1)) ∧ (w32 ((w32 (16 * ((am_upd U 123 x1.toNat (U 98 (w32 ((w32 (16 * (U 86 13))) + x1)).toNat)) 86 13))) + x1)) < 32) ∧ (0 ≤ x1 ∧ x1 < 352) ∧ Ev (am_kz N X) (d, 96, 41, [some (.inr (.inr 86)), some (.inl (w32 (x1 + 1)))], [], (am_sh, am_mm (am_upd (am_upd U 123 x1.toNat (U 98 (w32 ((w32 (16 * (U 86 13))) + x1)).toNat)) 124 x1.toNat ((am_upd U 123 x1.toNat (U 98 (w32 ((w32 (16 * (U 86 13))) + x1)).toNat)) 99 (w32 ((w32 (16 * ((am_upd U 123 x1.toNat (U 98 (w32 ((w32 (16 * (U 86 13))) + x1)).toNat)) 86 13))) + x1)).toNat)))) R)) : Ev (am_kz N X) (d, 96, 41, [some (.inr (.inr 86)), some (.inl x1)], [], (am_sh, am_mm U)) R := by
  refine ev_seg (σ1 := (d, 96, 50, [some (.inr (.inr 86)), some (.inl x1)], [.inl (U 86 13), .inr (.inr 97), .inl x1], (am_sh, am_mm U))) 5 (fun _ => rfl) ?_
  refine eu_iald 97 (n := 2) rfl (by decide) rfl (fun _ => rfl) h.1 ?_
  have ha := h.2
  refine ev_br (P := (U 97 (U 86 13).toNat) ≤ x1) (σ1 := (d, 96, 100, [some (.inr (.inr 86)), some (.inl x1)], [], (am_sh, am_mm U))) (σ2 := (d, 96, 54, [some (.inr (.inr 86)), some (.inl x1)], [], (am_sh, am_mm U))) 1 (fun _ => rfl) (fun hc => ?_) (fun hc => ?_)
  · have ha1 := ha.1 hc
    subst ha1
    exact ev_end 1 (fun _ => rfl)
  · have ha2 := ha.2 hc
    refine ev_seg (σ1 := (d, 96, 72, [some (.inr (.inr 86)), some (.inl x1)], [.inl (w32 ((w32 (16 * (U 86 13))) + x1)), .inr (.inr 98), .inl x1, .inr (.inr 123)], (am_sh, am_mm U))) 11 (fun _ => rfl) ?_
    refine eu_iald 98 (n := 32) rfl (by decide) rfl (fun _ => rfl) ha2.1 ?_
    have ha2a := ha2.2
    refine eu_iast 123 (n := 352) rfl (by decide) rfl (fun _ => rfl) ha2a.1 ?_
    have ha2aa := ha2a.2
    refine ev_seg (σ1 := (d, 96, 92, [some (.inr (.inr 86)), some (.inl x1)], [.inl (w32 ((w32 (16 * ((am_upd U 123 x1.toNat (U 98 (w32 ((w32 (16 * (U 86 13))) + x1)).toNat)) 86 13))) + x1)), .inr (.inr 99), .inl x1, .inr (.inr 124)], (am_sh, am_mm (am_upd U 123 x1.toNat (U 98 (w32 ((w32 (16 * (U 86 13))) + x1)).toNat))))) 11 (fun _ => rfl) ?_
    refine eu_iald 99 (n := 32) rfl (by decide) rfl (fun _ => rfl) ha2aa.1 ?_
    have ha2aaa := ha2aa.2
    refine eu_iast 124 (n := 352) rfl (by decide) rfl (fun _ => rfl) ha2aaa.1 ?_
    have ha2aaaa := ha2aaa.2
    refine ev_seg (σ1 := (d, 96, 41, [some (.inr (.inr 86)), some (.inl (w32 (x1 + 1)))], [], (am_sh, am_mm (am_upd (am_upd U 123 x1.toNat (U 98 (w32 ((w32 (16 * (U 86 13))) + x1)).toNat)) 124 x1.toNat ((am_upd U 123 x1.toNat (U 98 (w32 ((w32 (16 * (U 86 13))) + x1)).toNat)) 99 (w32 ((w32 (16 * ((am_upd U 123 x1.toNat (U 98 (w32 ((w32 (16 * (U 86 13))) + x1)).toNat)) 86 13))) + x1)).toNat))))) 2 (fun _ => rfl) ?_
    exact ha2aaaa
set_option maxRecDepth 8000 in
theorem st95_86_0 (N : Nat) (X : Nat → Int) (d : Nat) (x1 : Int) (U : Nat → Nat → Int) (R : Option am_V × am_M) (h : ∃ U1 : Nat → Nat → Int, Ev (am_kz N X) (d, 186, 0, [some (.inr (.inr 86))], [], (am_sh, am_mm U)) (none, (am_sh, am_mm U1)) ∧ ((((U1 86 8) ≤ 0 : Prop)) → Ev (am_kz N X) ((d + 1), 95, 17, [some (.inr (.inr 86)), some (.inl x1), some (.inl (U1 86 5))], [], (am_sh, am_mm U1)) R) ∧ (¬ ((U1 86 8) ≤ 0) → R = (none, (am_sh, am_mm U1)))) : Ev (am_kz N X) ((d + 1), 95, 0, [some (.inr (.inr 86)), some (.inl x1), none], [], (am_sh, am_mm U)) R := by
  refine ev_seg (σ1 := ((d + 1), 95, 1, [some (.inr (.inr 86)), some (.inl x1), none], [.inr (.inr 86)], (am_sh, am_mm U))) 1 (fun _ => rfl) ?_
  obtain ⟨U1, hc, ha⟩ := h
  refine ev_cal (σc := (d, 186, 0, [some (.inr (.inr 86))], [], (am_sh, am_mm U))) (fun _ => rfl) hc ?_
  show Ev (am_kz N X) ((d + 1), 95, 4, [some (.inr (.inr 86)), some (.inl x1), none], [], (am_sh, am_mm U1)) R
  refine ev_br (P := (U1 86 8) ≤ 0) (σ1 := ((d + 1), 95, 12, [some (.inr (.inr 86)), some (.inl x1), none], [], (am_sh, am_mm U1))) (σ2 := ((d + 1), 95, 11, [some (.inr (.inr 86)), some (.inl x1), none], [], (am_sh, am_mm U1))) 3 (fun _ => rfl) (fun hc => ?_) (fun hc => ?_)
  · have ha1 := ha.1 hc
    refine ev_seg (σ1 := ((d + 1), 95, 17, [some (.inr (.inr 86)), some (.inl x1), some (.inl (U1 86 5))], [], (am_sh, am_mm U1))) 3 (fun _ => rfl) ?_
    exact ha1
  · have ha2 := ha.2 hc
    subst ha2
    exact ev_end 1 (fun _ => rfl)
set_option maxRecDepth 8000 in
theorem st95_86_17 (N : Nat) (X : Nat → Int) (d : Nat) (x1 x2 : Int) (U : Nat → Nat → Int) (R : Option am_V × am_M) (h : ((((U 86 2) ≤ x2 : Prop)) → ∃ (r1 : Int) (U1 : Nat → Nat → Int), Ev (am_kz N X) (d, 197, 0, [some (.inr (.inr 86)), some (.inl 59)], [], (am_sh, am_mm U)) (some (.inl r1), (am_sh, am_mm U1)) ∧ (((r1 = 0 : Prop)) → ∃ U2 : Nat → Nat → Int, Ev (am_kz N X) (d, 198, 0, [some (.inr (.inr 86)), some (.inl 59)], [], (am_sh, am_mm U1)) (none, (am_sh, am_mm U2)) ∧ R = (none, (am_sh, am_mm U2))) ∧ (¬ (r1 = 0) → (((¬ x1 = 80 : Prop)) → ∃ U3 : Nat → Nat → Int, Ev (am_kz N X) (d, 198, 0, [some (.inr (.inr 86)), some (.inl 59)], [], (am_sh, am_mm U1)) (none, (am_sh, am_mm U3)) ∧ R = (none, (am_sh, am_mm U3))) ∧ (¬ (¬ x1 = 80) → ((((U1 86 2) ≤ x2 : Prop)) → ∃ U4 : Nat → Nat → Int, Ev (am_kz N X) (d, 198, 0, [some (.inr (.inr 86)), some (.inl 59)], [], (am_sh, am_mm U1)) (none, (am_sh, am_mm U4)) ∧ R = (none, (am_sh, am_mm U4))) ∧ (¬ ((U1 86 2) ≤ x2) → ∃ U5 : Nat → Nat → Int, Ev (am_kz N X) (d, 196, 0, [some (.inr (.inr 86)), some (.inl 6), some (.inl x2)], [], (am_sh, am_mm U1)) (none, (am_sh, am_mm U5)) ∧ ∃ U6 : Nat → Nat → Int, Ev (am_kz N X) (d, 198, 0, [some (.inr (.inr 86)), some (.inl 59)], [], (am_sh, am_mm U5)) (none, (am_sh, am_mm U6)) ∧ R = (none, (am_sh, am_mm U6)))))) ∧ (¬ ((U 86 2) ≤ x2) → (0 ≤ x2 ∧ x2 < 1800) ∧ ((((U 87 x2.toNat) = 32 : Prop)) → Ev (am_kz N X) ((d + 1), 95, 17, [some (.inr (.inr 86)), some (.inl x1), some (.inl (w32 (x2 + 1)))], [], (am_sh, am_mm U)) R) ∧ (¬ ((U 87 x2.toNat) = 32) → (0 ≤ x2 ∧ x2 < 1800) ∧ (((¬ (U 87 x2.toNat) = 10 : Prop)) → ∃ (r7 : Int) (U7 : Nat → Nat → Int), Ev (am_kz N X) (d, 197, 0, [some (.inr (.inr 86)), some (.inl 59)], [], (am_sh, am_mm U)) (some (.inl r7), (am_sh, am_mm U7)) ∧ (((r7 = 0 : Prop)) → ∃ U8 : Nat → Nat → Int, Ev (am_kz N X) (d, 198, 0, [some (.inr (.inr 86)), some (.inl 59)], [], (am_sh, am_mm U7)) (none, (am_sh, am_mm U8)) ∧ R = (none, (am_sh, am_mm U8))) ∧ (¬ (r7 = 0) → (((¬ x1 = 80 : Prop)) → ∃ U9 : Nat → Nat → Int, Ev (am_kz N X) (d, 198, 0, [some (.inr (.inr 86)), some (.inl 59)], [], (am_sh, am_mm U7)) (none, (am_sh, am_mm U9)) ∧ R = (none, (am_sh, am_mm U9))) ∧ (¬ (¬ x1 = 80) → ((((U7 86 2) ≤ x2 : Prop)) → ∃ U10 : Nat → Nat → Int, Ev (am_kz N X) (d, 198, 0, [some (.inr (.inr 86)), some (.inl 59)], [], (am_sh, am_mm U7)) (none, (am_sh, am_mm U10)) ∧ R = (none, (am_sh, am_mm U10))) ∧ (¬ ((U7 86 2) ≤ x2) → ∃ U11 : Nat → Nat → Int, Ev (am_kz N X) (d, 196, 0, [some (.inr (.inr 86)), some (.inl 6), some (.inl x2)], [], (am_sh, am_mm U7)) (none, (am_sh, am_mm U11)) ∧ ∃ U12 : Nat → Nat → Int, Ev (am_kz N X) (d, 198, 0, [some (.inr (.inr 86)), some (.inl 59)], [], (am_sh, am_mm U11)) (none, (am_sh, am_mm U12)) ∧ R = (none, (am_sh, am_mm U12)))))) ∧ (¬ (¬ (U 87 x2.toNat) = 10) → Ev (am_kz N X) ((d + 1), 95, 17, [some (.inr (.inr 86)), some (.inl x1), some (.inl (w32 (x2 + 1)))], [], (am_sh, am_mm U)) R)))) : Ev (am_kz N X) ((d + 1), 95, 17, [some (.inr (.inr 86)), some (.inl x1), some (.inl x2)], [], (am_sh, am_mm U)) R := by
  refine ev_br (P := (U 86 2) ≤ x2) (σ1 := ((d + 1), 95, 53, [some (.inr (.inr 86)), some (.inl x1), some (.inl x2)], [], (am_sh, am_mm U))) (σ2 := ((d + 1), 95, 25, [some (.inr (.inr 86)), some (.inl x1), some (.inl x2)], [], (am_sh, am_mm U))) 4 (fun _ => rfl) (fun hc => ?_) (fun hc => ?_)
  · have h1 := h.1 hc
    refine ev_seg (σ1 := ((d + 1), 95, 56, [some (.inr (.inr 86)), some (.inl x1), some (.inl x2)], [.inl 59, .inr (.inr 86)], (am_sh, am_mm U))) 2 (fun _ => rfl) ?_
    obtain ⟨r1, U1, h1c, h1a⟩ := h1
    refine ev_cal (σc := (d, 197, 0, [some (.inr (.inr 86)), some (.inl 59)], [], (am_sh, am_mm U))) (fun _ => rfl) h1c ?_
    show Ev (am_kz N X) ((d + 1), 95, 59, [some (.inr (.inr 86)), some (.inl x1), some (.inl x2)], [.inl r1], (am_sh, am_mm U1)) R
    refine ev_br (P := r1 = 0) (σ1 := ((d + 1), 95, 83, [some (.inr (.inr 86)), some (.inl x1), some (.inl x2)], [], (am_sh, am_mm U1))) (σ2 := ((d + 1), 95, 62, [some (.inr (.inr 86)), some (.inl x1), some (.inl x2)], [], (am_sh, am_mm U1))) 1 (fun _ => rfl) (fun hc => ?_) (fun hc => ?_)
    · have h1a1 := h1a.1 hc
      refine ev_seg (σ1 := ((d + 1), 95, 86, [some (.inr (.inr 86)), some (.inl x1), some (.inl x2)], [.inl 59, .inr (.inr 86)], (am_sh, am_mm U1))) 2 (fun _ => rfl) ?_
      obtain ⟨U2, h1a1c, h1a1a⟩ := h1a1
      refine ev_cal (σc := (d, 198, 0, [some (.inr (.inr 86)), some (.inl 59)], [], (am_sh, am_mm U1))) (fun _ => rfl) h1a1c ?_
      show Ev (am_kz N X) ((d + 1), 95, 89, [some (.inr (.inr 86)), some (.inl x1), some (.inl x2)], [], (am_sh, am_mm U2)) R
      subst h1a1a
      exact ev_end 1 (fun _ => rfl)
    · have h1a2 := h1a.2 hc
      refine ev_br (P := ¬ x1 = 80) (σ1 := ((d + 1), 95, 83, [some (.inr (.inr 86)), some (.inl x1), some (.inl x2)], [], (am_sh, am_mm U1))) (σ2 := ((d + 1), 95, 68, [some (.inr (.inr 86)), some (.inl x1), some (.inl x2)], [], (am_sh, am_mm U1))) 3 (fun _ => rfl) (fun hc => ?_) (fun hc => ?_)
      · have h1a21 := h1a2.1 hc
        refine ev_seg (σ1 := ((d + 1), 95, 86, [some (.inr (.inr 86)), some (.inl x1), some (.inl x2)], [.inl 59, .inr (.inr 86)], (am_sh, am_mm U1))) 2 (fun _ => rfl) ?_
        obtain ⟨U3, h1a21c, h1a21a⟩ := h1a21
        refine ev_cal (σc := (d, 198, 0, [some (.inr (.inr 86)), some (.inl 59)], [], (am_sh, am_mm U1))) (fun _ => rfl) h1a21c ?_
        show Ev (am_kz N X) ((d + 1), 95, 89, [some (.inr (.inr 86)), some (.inl x1), some (.inl x2)], [], (am_sh, am_mm U3)) R
        subst h1a21a
        exact ev_end 1 (fun _ => rfl)
      · have h1a22 := h1a2.2 hc
        refine ev_br (P := (U1 86 2) ≤ x2) (σ1 := ((d + 1), 95, 83, [some (.inr (.inr 86)), some (.inl x1), some (.inl x2)], [], (am_sh, am_mm U1))) (σ2 := ((d + 1), 95, 76, [some (.inr (.inr 86)), some (.inl x1), some (.inl x2)], [], (am_sh, am_mm U1))) 4 (fun _ => rfl) (fun hc => ?_) (fun hc => ?_)
        · have h1a221 := h1a22.1 hc
          refine ev_seg (σ1 := ((d + 1), 95, 86, [some (.inr (.inr 86)), some (.inl x1), some (.inl x2)], [.inl 59, .inr (.inr 86)], (am_sh, am_mm U1))) 2 (fun _ => rfl) ?_
          obtain ⟨U4, h1a221c, h1a221a⟩ := h1a221
          refine ev_cal (σc := (d, 198, 0, [some (.inr (.inr 86)), some (.inl 59)], [], (am_sh, am_mm U1))) (fun _ => rfl) h1a221c ?_
          show Ev (am_kz N X) ((d + 1), 95, 89, [some (.inr (.inr 86)), some (.inl x1), some (.inl x2)], [], (am_sh, am_mm U4)) R
          subst h1a221a
          exact ev_end 1 (fun _ => rfl)
        · have h1a222 := h1a22.2 hc
          refine ev_seg (σ1 := ((d + 1), 95, 80, [some (.inr (.inr 86)), some (.inl x1), some (.inl x2)], [.inl x2, .inl 6, .inr (.inr 86)], (am_sh, am_mm U1))) 3 (fun _ => rfl) ?_
          obtain ⟨U5, h1a222c, h1a222a⟩ := h1a222
          refine ev_cal (σc := (d, 196, 0, [some (.inr (.inr 86)), some (.inl 6), some (.inl x2)], [], (am_sh, am_mm U1))) (fun _ => rfl) h1a222c ?_
          show Ev (am_kz N X) ((d + 1), 95, 83, [some (.inr (.inr 86)), some (.inl x1), some (.inl x2)], [], (am_sh, am_mm U5)) R
          refine ev_seg (σ1 := ((d + 1), 95, 86, [some (.inr (.inr 86)), some (.inl x1), some (.inl x2)], [.inl 59, .inr (.inr 86)], (am_sh, am_mm U5))) 2 (fun _ => rfl) ?_
          obtain ⟨U6, h1a222ac, h1a222aa⟩ := h1a222a
          refine ev_cal (σc := (d, 198, 0, [some (.inr (.inr 86)), some (.inl 59)], [], (am_sh, am_mm U5))) (fun _ => rfl) h1a222ac ?_
          show Ev (am_kz N X) ((d + 1), 95, 89, [some (.inr (.inr 86)), some (.inl x1), some (.inl x2)], [], (am_sh, am_mm U6)) R
          subst h1a222aa
          exact ev_end 1 (fun _ => rfl)
  · have h2 := h.2 hc
    refine ev_seg (σ1 := ((d + 1), 95, 30, [some (.inr (.inr 86)), some (.inl x1), some (.inl x2)], [.inl x2, .inr (.inr 87)], (am_sh, am_mm U))) 3 (fun _ => rfl) ?_
    refine eu_iald 87 (n := 1800) rfl (by decide) rfl (fun _ => rfl) h2.1 ?_
    have h2a := h2.2
    refine ev_br (P := (U 87 x2.toNat) = 32) (σ1 := ((d + 1), 95, 47, [some (.inr (.inr 86)), some (.inl x1), some (.inl x2)], [], (am_sh, am_mm U))) (σ2 := ((d + 1), 95, 36, [some (.inr (.inr 86)), some (.inl x1), some (.inl x2)], [], (am_sh, am_mm U))) 2 (fun _ => rfl) (fun hc => ?_) (fun hc => ?_)
    · have h2a1 := h2a.1 hc
      refine ev_seg (σ1 := ((d + 1), 95, 17, [some (.inr (.inr 86)), some (.inl x1), some (.inl (w32 (x2 + 1)))], [], (am_sh, am_mm U))) 2 (fun _ => rfl) ?_
      exact h2a1
    · have h2a2 := h2a.2 hc
      refine ev_seg (σ1 := ((d + 1), 95, 41, [some (.inr (.inr 86)), some (.inl x1), some (.inl x2)], [.inl x2, .inr (.inr 87)], (am_sh, am_mm U))) 3 (fun _ => rfl) ?_
      refine eu_iald 87 (n := 1800) rfl (by decide) rfl (fun _ => rfl) h2a2.1 ?_
      have h2a2a := h2a2.2
      refine ev_br (P := ¬ (U 87 x2.toNat) = 10) (σ1 := ((d + 1), 95, 53, [some (.inr (.inr 86)), some (.inl x1), some (.inl x2)], [], (am_sh, am_mm U))) (σ2 := ((d + 1), 95, 47, [some (.inr (.inr 86)), some (.inl x1), some (.inl x2)], [], (am_sh, am_mm U))) 2 (fun _ => rfl) (fun hc => ?_) (fun hc => ?_)
      · have h2a2a1 := h2a2a.1 hc
        refine ev_seg (σ1 := ((d + 1), 95, 56, [some (.inr (.inr 86)), some (.inl x1), some (.inl x2)], [.inl 59, .inr (.inr 86)], (am_sh, am_mm U))) 2 (fun _ => rfl) ?_
        obtain ⟨r7, U7, h2a2a1c, h2a2a1a⟩ := h2a2a1
        refine ev_cal (σc := (d, 197, 0, [some (.inr (.inr 86)), some (.inl 59)], [], (am_sh, am_mm U))) (fun _ => rfl) h2a2a1c ?_
        show Ev (am_kz N X) ((d + 1), 95, 59, [some (.inr (.inr 86)), some (.inl x1), some (.inl x2)], [.inl r7], (am_sh, am_mm U7)) R
        refine ev_br (P := r7 = 0) (σ1 := ((d + 1), 95, 83, [some (.inr (.inr 86)), some (.inl x1), some (.inl x2)], [], (am_sh, am_mm U7))) (σ2 := ((d + 1), 95, 62, [some (.inr (.inr 86)), some (.inl x1), some (.inl x2)], [], (am_sh, am_mm U7))) 1 (fun _ => rfl) (fun hc => ?_) (fun hc => ?_)
        · have h2a2a1a1 := h2a2a1a.1 hc
          refine ev_seg (σ1 := ((d + 1), 95, 86, [some (.inr (.inr 86)), some (.inl x1), some (.inl x2)], [.inl 59, .inr (.inr 86)], (am_sh, am_mm U7))) 2 (fun _ => rfl) ?_
          obtain ⟨U8, h2a2a1a1c, h2a2a1a1a⟩ := h2a2a1a1
          refine ev_cal (σc := (d, 198, 0, [some (.inr (.inr 86)), some (.inl 59)], [], (am_sh, am_mm U7))) (fun _ => rfl) h2a2a1a1c ?_
          show Ev (am_kz N X) ((d + 1), 95, 89, [some (.inr (.inr 86)), some (.inl x1), some (.inl x2)], [], (am_sh, am_mm U8)) R
          subst h2a2a1a1a
          exact ev_end 1 (fun _ => rfl)
        · have h2a2a1a2 := h2a2a1a.2 hc
          refine ev_br (P := ¬ x1 = 80) (σ1 := ((d + 1), 95, 83, [some (.inr (.inr 86)), some (.inl x1), some (.inl x2)], [], (am_sh, am_mm U7))) (σ2 := ((d + 1), 95, 68, [some (.inr (.inr 86)), some (.inl x1), some (.inl x2)], [], (am_sh, am_mm U7))) 3 (fun _ => rfl) (fun hc => ?_) (fun hc => ?_)
          · have h2a2a1a21 := h2a2a1a2.1 hc
            refine ev_seg (σ1 := ((d + 1), 95, 86, [some (.inr (.inr 86)), some (.inl x1), some (.inl x2)], [.inl 59, .inr (.inr 86)], (am_sh, am_mm U7))) 2 (fun _ => rfl) ?_
            obtain ⟨U9, h2a2a1a21c, h2a2a1a21a⟩ := h2a2a1a21
            refine ev_cal (σc := (d, 198, 0, [some (.inr (.inr 86)), some (.inl 59)], [], (am_sh, am_mm U7))) (fun _ => rfl) h2a2a1a21c ?_
            show Ev (am_kz N X) ((d + 1), 95, 89, [some (.inr (.inr 86)), some (.inl x1), some (.inl x2)], [], (am_sh, am_mm U9)) R
            subst h2a2a1a21a
            exact ev_end 1 (fun _ => rfl)
          · have h2a2a1a22 := h2a2a1a2.2 hc
            refine ev_br (P := (U7 86 2) ≤ x2) (σ1 := ((d + 1), 95, 83, [some (.inr (.inr 86)), some (.inl x1), some (.inl x2)], [], (am_sh, am_mm U7))) (σ2 := ((d + 1), 95, 76, [some (.inr (.inr 86)), some (.inl x1), some (.inl x2)], [], (am_sh, am_mm U7))) 4 (fun _ => rfl) (fun hc => ?_) (fun hc => ?_)
            · have h2a2a1a221 := h2a2a1a22.1 hc
              refine ev_seg (σ1 := ((d + 1), 95, 86, [some (.inr (.inr 86)), some (.inl x1), some (.inl x2)], [.inl 59, .inr (.inr 86)], (am_sh, am_mm U7))) 2 (fun _ => rfl) ?_
              obtain ⟨U10, h2a2a1a221c, h2a2a1a221a⟩ := h2a2a1a221
              refine ev_cal (σc := (d, 198, 0, [some (.inr (.inr 86)), some (.inl 59)], [], (am_sh, am_mm U7))) (fun _ => rfl) h2a2a1a221c ?_
              show Ev (am_kz N X) ((d + 1), 95, 89, [some (.inr (.inr 86)), some (.inl x1), some (.inl x2)], [], (am_sh, am_mm U10)) R
              subst h2a2a1a221a
              exact ev_end 1 (fun _ => rfl)
            · have h2a2a1a222 := h2a2a1a22.2 hc
              refine ev_seg (σ1 := ((d + 1), 95, 80, [some (.inr (.inr 86)), some (.inl x1), some (.inl x2)], [.inl x2, .inl 6, .inr (.inr 86)], (am_sh, am_mm U7))) 3 (fun _ => rfl) ?_
              obtain ⟨U11, h2a2a1a222c, h2a2a1a222a⟩ := h2a2a1a222
              refine ev_cal (σc := (d, 196, 0, [some (.inr (.inr 86)), some (.inl 6), some (.inl x2)], [], (am_sh, am_mm U7))) (fun _ => rfl) h2a2a1a222c ?_
              show Ev (am_kz N X) ((d + 1), 95, 83, [some (.inr (.inr 86)), some (.inl x1), some (.inl x2)], [], (am_sh, am_mm U11)) R
              refine ev_seg (σ1 := ((d + 1), 95, 86, [some (.inr (.inr 86)), some (.inl x1), some (.inl x2)], [.inl 59, .inr (.inr 86)], (am_sh, am_mm U11))) 2 (fun _ => rfl) ?_
              obtain ⟨U12, h2a2a1a222ac, h2a2a1a222aa⟩ := h2a2a1a222a
              refine ev_cal (σc := (d, 198, 0, [some (.inr (.inr 86)), some (.inl 59)], [], (am_sh, am_mm U11))) (fun _ => rfl) h2a2a1a222ac ?_
              show Ev (am_kz N X) ((d + 1), 95, 89, [some (.inr (.inr 86)), some (.inl x1), some (.inl x2)], [], (am_sh, am_mm U12)) R
              subst h2a2a1a222aa
              exact ev_end 1 (fun _ => rfl)
      · have h2a2a2 := h2a2a.2 hc
        refine ev_seg (σ1 := ((d + 1), 95, 17, [some (.inr (.inr 86)), some (.inl x1), some (.inl (w32 (x2 + 1)))], [], (am_sh, am_mm U))) 2 (fun _ => rfl) ?_
        exact h2a2a2
set_option maxRecDepth 8000 in
theorem st93_86_0 (N : Nat) (X : Nat → Int) (d : Nat) (U : Nat → Nat → Int) (R : Option am_V × am_M) (h : Ev (am_kz N X) ((d + 1), 93, 5, [some (.inr (.inr 86)), some (.inl (U 86 5)), none, none, none, none], [], (am_sh, am_mm U)) R) : Ev (am_kz N X) ((d + 1), 93, 0, [some (.inr (.inr 86)), none, none, none, none, none], [], (am_sh, am_mm U)) R := by
  refine ev_seg (σ1 := ((d + 1), 93, 5, [some (.inr (.inr 86)), some (.inl (U 86 5)), none, none, none, none], [], (am_sh, am_mm U))) 3 (fun _ => rfl) ?_
  exact h
set_option maxRecDepth 8000 in
theorem st93_86_5 (N : Nat) (X : Nat → Int) (d : Nat) (x1 : Int) (U : Nat → Nat → Int) (R : Option am_V × am_M) (h : ((((U 86 2) ≤ x1 : Prop)) → (((x1 < ((am_upd (am_upd (am_upd (am_upd U 86 4 x1) 86 5 x1) 86 3 0) 86 12 (-1)) 86 2) : Prop)) → (0 ≤ x1 ∧ x1 < 1800) ∧ ∃ (r1 : Int) (U1 : Nat → Nat → Int), Ev (am_kz N X) (d, 184, 0, [some (.inl ((am_upd (am_upd (am_upd (am_upd U 86 4 x1) 86 5 x1) 86 3 0) 86 12 (-1)) 87 x1.toNat))], [], (am_sh, am_mm (am_upd (am_upd (am_upd (am_upd U 86 4 x1) 86 5 x1) 86 3 0) 86 12 (-1)))) (some (.inl r1), (am_sh, am_mm U1)) ∧ (0 ≤ x1 ∧ x1 < 1800) ∧ ∃ (r2 : Int) (U2 : Nat → Nat → Int), Ev (am_kz N X) (d, 185, 0, [some (.inl (U1 87 x1.toNat))], [], (am_sh, am_mm U1)) (some (.inl r2), (am_sh, am_mm U2)) ∧ (((¬ r1 = 0 : Prop)) → (((x1 ≤ 0 : Prop)) → Ev (am_kz N X) ((d + 1), 93, 135, [some (.inr (.inr 86)), some (.inl x1), some (.inl r1), some (.inl r2), none, none], [], (am_sh, am_mm U2)) R) ∧ (¬ (x1 ≤ 0) → (0 ≤ (w32 (x1 - 1)) ∧ (w32 (x1 - 1)) < 1800) ∧ ∃ (r3 : Int) (U3 : Nat → Nat → Int), Ev (am_kz N X) (d, 184, 0, [some (.inl (U2 87 (w32 (x1 - 1)).toNat))], [], (am_sh, am_mm U2)) (some (.inl r3), (am_sh, am_mm U3)) ∧ (((¬ r3 = 0 : Prop)) → Ev (am_kz N X) ((d + 1), 93, 135, [some (.inr (.inr 86)), some (.inl x1), some (.inl r1), some (.inl r2), none, none], [], (am_sh, am_mm (am_upd U3 86 12 x1))) R) ∧ (¬ (¬ r3 = 0) → (0 ≤ (w32 (x1 - 1)) ∧ (w32 (x1 - 1)) < 1800) ∧ ∃ (r4 : Int) (U4 : Nat → Nat → Int), Ev (am_kz N X) (d, 185, 0, [some (.inl (U3 87 (w32 (x1 - 1)).toNat))], [], (am_sh, am_mm U3)) (some (.inl r4), (am_sh, am_mm U4)) ∧ (((r4 = 0 : Prop)) → Ev (am_kz N X) ((d + 1), 93, 135, [some (.inr (.inr 86)), some (.inl x1), some (.inl r1), some (.inl r2), none, none], [], (am_sh, am_mm U4)) R) ∧ (¬ (r4 = 0) → Ev (am_kz N X) ((d + 1), 93, 135, [some (.inr (.inr 86)), some (.inl x1), some (.inl r1), some (.inl r2), none, none], [], (am_sh, am_mm (am_upd U4 86 12 x1))) R)))) ∧ (¬ (¬ r1 = 0) → (((r2 = 0 : Prop)) → Ev (am_kz N X) ((d + 1), 93, 135, [some (.inr (.inr 86)), some (.inl x1), some (.inl r1), some (.inl r2), none, none], [], (am_sh, am_mm U2)) R) ∧ (¬ (r2 = 0) → (((x1 ≤ 0 : Prop)) → Ev (am_kz N X) ((d + 1), 93, 135, [some (.inr (.inr 86)), some (.inl x1), some (.inl r1), some (.inl r2), none, none], [], (am_sh, am_mm U2)) R) ∧ (¬ (x1 ≤ 0) → (0 ≤ (w32 (x1 - 1)) ∧ (w32 (x1 - 1)) < 1800) ∧ ∃ (r5 : Int) (U5 : Nat → Nat → Int), Ev (am_kz N X) (d, 184, 0, [some (.inl (U2 87 (w32 (x1 - 1)).toNat))], [], (am_sh, am_mm U2)) (some (.inl r5), (am_sh, am_mm U5)) ∧ (((¬ r5 = 0 : Prop)) → Ev (am_kz N X) ((d + 1), 93, 135, [some (.inr (.inr 86)), some (.inl x1), some (.inl r1), some (.inl r2), none, none], [], (am_sh, am_mm (am_upd U5 86 12 x1))) R) ∧ (¬ (¬ r5 = 0) → (0 ≤ (w32 (x1 - 1)) ∧ (w32 (x1 - 1)) < 1800) ∧ ∃ (r6 : Int) (U6 : Nat → Nat → Int), Ev (am_kz N X) (d, 185, 0, [some (.inl (U5 87 (w32 (x1 - 1)).toNat))], [], (am_sh, am_mm U5)) (some (.inl r6), (am_sh, am_mm U6)) ∧ (((r6 = 0 : Prop)) → Ev (am_kz N X) ((d + 1), 93, 135, [some (.inr (.inr 86)), some (.inl x1), some (.inl r1), some (.inl r2), none, none], [], (am_sh, am_mm U6)) R) ∧ (¬ (r6 = 0) → Ev (am_kz N X) ((d + 1), 93, 135, [some (.inr (.inr 86)), some (.inl x1), some (.inl r1), some (.inl r2), none, none], [], (am_sh, am_mm (am_upd U6 86 12 x1))) R)))))) ∧ (¬ (x1 < ((am_upd (am_upd (am_upd (am_upd U 86 4 x1) 86 5 x1) 86 3 0) 86 12 (-1)) 86 2)) → R = (none, (am_sh, am_mm (am_upd (am_upd (am_upd (am_upd U 86 4 x1) 86 5 x1) 86 3 0) 86 12 (-1)))))) ∧ (¬ ((U 86 2) ≤ x1) → (0 ≤ x1 ∧ x1 < 1800) ∧ ((((U 87 x1.toNat) = 32 : Prop)) → Ev (am_kz N X) ((d + 1), 93, 5, [some (.inr (.inr 86)), some (.inl (w32 (x1 + 1))), none, none, none, none], [], (am_sh, am_mm U)) R) ∧ (¬ ((U 87 x1.toNat) = 32) → (0 ≤ x1 ∧ x1 < 1800) ∧ (((¬ (U 87 x1.toNat) = 10 : Prop)) → (((x1 < ((am_upd (am_upd (am_upd (am_upd U 86 4 x1) 86 5 x1) 86 3 0) 86 12 (-1)) 86 2) : Prop)) → (0 ≤ x1 ∧ x1 < 1800) ∧ ∃ (r7 : Int) (U7 : Nat → Nat → Int), Ev (am_kz N X) (d, 184, 0, [some (.inl ((am_upd (am_upd (am_upd (am_upd U 86 4 x1) 86 5 x1) 86 3 0) 86 12 (-1)) 87 x1.toNat))], [], (am_sh, am_mm (am_upd (am_upd (am_upd (am_upd U 86 4 x1) 86 5 x1) 86 3 0) 86 12 (-1)))) (some (.inl r7), (am_sh, am_mm U7)) ∧ (0 ≤ x1 ∧ x1 < 1800) ∧ ∃ (r8 : Int) (U8 : Nat → Nat → Int), Ev (am_kz N X) (d, 185, 0, [some (.inl (U7 87 x1.toNat))], [], (am_sh, am_mm U7)) (some (.inl r8), (am_sh, am_mm U8)) ∧ (((¬ r7 = 0 : Prop)) → (((x1 ≤ 0 : Prop)) → Ev (am_kz N X) ((d + 1), 93, 135, [some (.inr (.inr 86)), some (.inl x1), some (.inl r7), some (.inl r8), none, none], [], (am_sh, am_mm U8)) R) ∧ (¬ (x1 ≤ 0) → (0 ≤ (w32 (x1 - 1)) ∧ (w32 (x1 - 1)) < 1800) ∧ ∃ (r9 : Int) (U9 : Nat → Nat → Int), Ev (am_kz N X) (d, 184, 0, [some (.inl (U8 87 (w32 (x1 - 1)).toNat))], [], (am_sh, am_mm U8)) (some (.inl r9), (am_sh, am_mm U9)) ∧ (((¬ r9 = 0 : Prop)) → Ev (am_kz N X) ((d + 1), 93, 135, [some (.inr (.inr 86)), some (.inl x1), some (.inl r7), some (.inl r8), none, none], [], (am_sh, am_mm (am_upd U9 86 12 x1))) R) ∧ (¬ (¬ r9 = 0) → (0 ≤ (w32 (x1 - 1)) ∧ (w32 (x1 - 1)) < 1800) ∧ ∃ (r10 : Int) (U10 : Nat → Nat → Int), Ev (am_kz N X) (d, 185, 0, [some (.inl (U9 87 (w32 (x1 - 1)).toNat))], [], (am_sh, am_mm U9)) (some (.inl r10), (am_sh, am_mm U10)) ∧ (((r10 = 0 : Prop)) → Ev (am_kz N X) ((d + 1), 93, 135, [some (.inr (.inr 86)), some (.inl x1), some (.inl r7), some (.inl r8), none, none], [], (am_sh, am_mm U10)) R) ∧ (¬ (r10 = 0) → Ev (am_kz N X) ((d + 1), 93, 135, [some (.inr (.inr 86)), some (.inl x1), some (.inl r7), some (.inl r8), none, none], [], (am_sh, am_mm (am_upd U10 86 12 x1))) R)))) ∧ (¬ (¬ r7 = 0) → (((r8 = 0 : Prop)) → Ev (am_kz N X) ((d + 1), 93, 135, [some (.inr (.inr 86)), some (.inl x1), some (.inl r7), some (.inl r8), none, none], [], (am_sh, am_mm U8)) R) ∧ (¬ (r8 = 0) → (((x1 ≤ 0 : Prop)) → Ev (am_kz N X) ((d + 1), 93, 135, [some (.inr (.inr 86)), some (.inl x1), some (.inl r7), some (.inl r8), none, none], [], (am_sh, am_mm U8)) R) ∧ (¬ (x1 ≤ 0) → (0 ≤ (w32 (x1 - 1)) ∧ (w32 (x1 - 1)) < 1800) ∧ ∃ (r11 : Int) (U11 : Nat → Nat → Int), Ev (am_kz N X) (d, 184, 0, [some (.inl (U8 87 (w32 (x1 - 1)).toNat))], [], (am_sh, am_mm U8)) (some (.inl r11), (am_sh, am_mm U11)) ∧ (((¬ r11 = 0 : Prop)) → Ev (am_kz N X) ((d + 1), 93, 135, [some (.inr (.inr 86)), some (.inl x1), some (.inl r7), some (.inl r8), none, none], [], (am_sh, am_mm (am_upd U11 86 12 x1))) R) ∧ (¬ (¬ r11 = 0) → (0 ≤ (w32 (x1 - 1)) ∧ (w32 (x1 - 1)) < 1800) ∧ ∃ (r12 : Int) (U12 : Nat → Nat → Int), Ev (am_kz N X) (d, 185, 0, [some (.inl (U11 87 (w32 (x1 - 1)).toNat))], [], (am_sh, am_mm U11)) (some (.inl r12), (am_sh, am_mm U12)) ∧ (((r12 = 0 : Prop)) → Ev (am_kz N X) ((d + 1), 93, 135, [some (.inr (.inr 86)), some (.inl x1), some (.inl r7), some (.inl r8), none, none], [], (am_sh, am_mm U12)) R) ∧ (¬ (r12 = 0) → Ev (am_kz N X) ((d + 1), 93, 135, [some (.inr (.inr 86)), some (.inl x1), some (.inl r7), some (.inl r8), none, none], [], (am_sh, am_mm (am_upd U12 86 12 x1))) R)))))) ∧ (¬ (x1 < ((am_upd (am_upd (am_upd (am_upd U 86 4 x1) 86 5 x1) 86 3 0) 86 12 (-1)) 86 2)) → R = (none, (am_sh, am_mm (am_upd (am_upd (am_upd (am_upd U 86 4 x1) 86 5 x1) 86 3 0) 86 12 (-1)))))) ∧ (¬ (¬ (U 87 x1.toNat) = 10) → Ev (am_kz N X) ((d + 1), 93, 5, [some (.inr (.inr 86)), some (.inl (w32 (x1 + 1))), none, none, none, none], [], (am_sh, am_mm U)) R)))) : Ev (am_kz N X) ((d + 1), 93, 5, [some (.inr (.inr 86)), some (.inl x1), none, none, none, none], [], (am_sh, am_mm U)) R := by
  refine ev_br (P := (U 86 2) ≤ x1) (σ1 := ((d + 1), 93, 41, [some (.inr (.inr 86)), some (.inl x1), none, none, none, none], [], (am_sh, am_mm U))) (σ2 := ((d + 1), 93, 13, [some (.inr (.inr 86)), some (.inl x1), none, none, none, none], [], (am_sh, am_mm U))) 4 (fun _ => rfl) (fun hc => ?_) (fun hc => ?_)
  · have h1 := h.1 hc
    refine ev_seg (σ1 := ((d + 1), 93, 43, [some (.inr (.inr 86)), some (.inl x1), none, none, none, none], [.inl x1, .inr (.inr 86)], (am_sh, am_mm U))) 2 (fun _ => rfl) ?_
    refine eu_puti 86 (n := 90) rfl (by decide) rfl rfl ?_
    refine ev_seg (σ1 := ((d + 1), 93, 48, [some (.inr (.inr 86)), some (.inl x1), none, none, none, none], [.inl x1, .inr (.inr 86)], (am_sh, am_mm (am_upd U 86 4 x1)))) 2 (fun _ => rfl) ?_
    refine eu_puti 86 (n := 90) rfl (by decide) rfl rfl ?_
    refine ev_seg (σ1 := ((d + 1), 93, 53, [some (.inr (.inr 86)), some (.inl x1), none, none, none, none], [.inl 0, .inr (.inr 86)], (am_sh, am_mm (am_upd (am_upd U 86 4 x1) 86 5 x1)))) 2 (fun _ => rfl) ?_
    refine eu_puti 86 (n := 90) rfl (by decide) rfl rfl ?_
    refine ev_seg (σ1 := ((d + 1), 93, 58, [some (.inr (.inr 86)), some (.inl x1), none, none, none, none], [.inl (-1), .inr (.inr 86)], (am_sh, am_mm (am_upd (am_upd (am_upd U 86 4 x1) 86 5 x1) 86 3 0)))) 2 (fun _ => rfl) ?_
    refine eu_puti 86 (n := 90) rfl (by decide) rfl rfl ?_
    refine ev_br (P := x1 < ((am_upd (am_upd (am_upd (am_upd U 86 4 x1) 86 5 x1) 86 3 0) 86 12 (-1)) 86 2)) (σ1 := ((d + 1), 93, 70, [some (.inr (.inr 86)), some (.inl x1), none, none, none, none], [], (am_sh, am_mm (am_upd (am_upd (am_upd (am_upd U 86 4 x1) 86 5 x1) 86 3 0) 86 12 (-1))))) (σ2 := ((d + 1), 93, 69, [some (.inr (.inr 86)), some (.inl x1), none, none, none, none], [], (am_sh, am_mm (am_upd (am_upd (am_upd (am_upd U 86 4 x1) 86 5 x1) 86 3 0) 86 12 (-1))))) 4 (fun _ => rfl) (fun hc => ?_) (fun hc => ?_)
    · have h11 := h1.1 hc
      refine ev_seg (σ1 := ((d + 1), 93, 75, [some (.inr (.inr 86)), some (.inl x1), none, none, none, none], [.inl x1, .inr (.inr 87)], (am_sh, am_mm (am_upd (am_upd (am_upd (am_upd U 86 4 x1) 86 5 x1) 86 3 0) 86 12 (-1))))) 3 (fun _ => rfl) ?_
      refine eu_iald 87 (n := 1800) rfl (by decide) rfl (fun _ => rfl) h11.1 ?_
      have h11a := h11.2
      obtain ⟨r1, U1, h11ac, h11aa⟩ := h11a
      refine ev_cal (σc := (d, 184, 0, [some (.inl ((am_upd (am_upd (am_upd (am_upd U 86 4 x1) 86 5 x1) 86 3 0) 86 12 (-1)) 87 x1.toNat))], [], (am_sh, am_mm (am_upd (am_upd (am_upd (am_upd U 86 4 x1) 86 5 x1) 86 3 0) 86 12 (-1))))) (fun _ => rfl) h11ac ?_
      show Ev (am_kz N X) ((d + 1), 93, 79, [some (.inr (.inr 86)), some (.inl x1), none, none, none, none], [.inl r1], (am_sh, am_mm U1)) R
      refine ev_seg (σ1 := ((d + 1), 93, 85, [some (.inr (.inr 86)), some (.inl x1), some (.inl r1), none, none, none], [.inl x1, .inr (.inr 87)], (am_sh, am_mm U1))) 4 (fun _ => rfl) ?_
      refine eu_iald 87 (n := 1800) rfl (by decide) rfl (fun _ => rfl) h11aa.1 ?_
      have h11aaa := h11aa.2
      obtain ⟨r2, U2, h11aaac, h11aaaa⟩ := h11aaa
      refine ev_cal (σc := (d, 185, 0, [some (.inl (U1 87 x1.toNat))], [], (am_sh, am_mm U1))) (fun _ => rfl) h11aaac ?_
      show Ev (am_kz N X) ((d + 1), 93, 89, [some (.inr (.inr 86)), some (.inl x1), some (.inl r1), none, none, none], [.inl r2], (am_sh, am_mm U2)) R
      refine ev_br (P := ¬ r1 = 0) (σ1 := ((d + 1), 93, 98, [some (.inr (.inr 86)), some (.inl x1), some (.inl r1), some (.inl r2), none, none], [], (am_sh, am_mm U2))) (σ2 := ((d + 1), 93, 94, [some (.inr (.inr 86)), some (.inl x1), some (.inl r1), some (.inl r2), none, none], [], (am_sh, am_mm U2))) 3 (fun _ => rfl) (fun hc => ?_) (fun hc => ?_)
      · have h11aaaa1 := h11aaaa.1 hc
        refine ev_br (P := x1 ≤ 0) (σ1 := ((d + 1), 93, 135, [some (.inr (.inr 86)), some (.inl x1), some (.inl r1), some (.inl r2), none, none], [], (am_sh, am_mm U2))) (σ2 := ((d + 1), 93, 102, [some (.inr (.inr 86)), some (.inl x1), some (.inl r1), some (.inl r2), none, none], [], (am_sh, am_mm U2))) 2 (fun _ => rfl) (fun hc => ?_) (fun hc => ?_)
        · have h11aaaa11 := h11aaaa1.1 hc
          exact h11aaaa11
        · have h11aaaa12 := h11aaaa1.2 hc
          refine ev_seg (σ1 := ((d + 1), 93, 109, [some (.inr (.inr 86)), some (.inl x1), some (.inl r1), some (.inl r2), none, none], [.inl (w32 (x1 - 1)), .inr (.inr 87)], (am_sh, am_mm U2))) 5 (fun _ => rfl) ?_
          refine eu_iald 87 (n := 1800) rfl (by decide) rfl (fun _ => rfl) h11aaaa12.1 ?_
          have h11aaaa12a := h11aaaa12.2
          obtain ⟨r3, U3, h11aaaa12ac, h11aaaa12aa⟩ := h11aaaa12a
          refine ev_cal (σc := (d, 184, 0, [some (.inl (U2 87 (w32 (x1 - 1)).toNat))], [], (am_sh, am_mm U2))) (fun _ => rfl) h11aaaa12ac ?_
          show Ev (am_kz N X) ((d + 1), 93, 113, [some (.inr (.inr 86)), some (.inl x1), some (.inl r1), some (.inl r2), none, none], [.inl r3], (am_sh, am_mm U3)) R
          refine ev_br (P := ¬ r3 = 0) (σ1 := ((d + 1), 93, 130, [some (.inr (.inr 86)), some (.inl x1), some (.inl r1), some (.inl r2), none, none], [], (am_sh, am_mm U3))) (σ2 := ((d + 1), 93, 116, [some (.inr (.inr 86)), some (.inl x1), some (.inl r1), some (.inl r2), none, none], [], (am_sh, am_mm U3))) 1 (fun _ => rfl) (fun hc => ?_) (fun hc => ?_)
          · have h11aaaa12aa1 := h11aaaa12aa.1 hc
            refine ev_seg (σ1 := ((d + 1), 93, 132, [some (.inr (.inr 86)), some (.inl x1), some (.inl r1), some (.inl r2), none, none], [.inl x1, .inr (.inr 86)], (am_sh, am_mm U3))) 2 (fun _ => rfl) ?_
            refine eu_puti 86 (n := 90) rfl (by decide) rfl rfl ?_
            exact h11aaaa12aa1
          · have h11aaaa12aa2 := h11aaaa12aa.2 hc
            refine ev_seg (σ1 := ((d + 1), 93, 123, [some (.inr (.inr 86)), some (.inl x1), some (.inl r1), some (.inl r2), none, none], [.inl (w32 (x1 - 1)), .inr (.inr 87)], (am_sh, am_mm U3))) 5 (fun _ => rfl) ?_
            refine eu_iald 87 (n := 1800) rfl (by decide) rfl (fun _ => rfl) h11aaaa12aa2.1 ?_
            have h11aaaa12aa2a := h11aaaa12aa2.2
            obtain ⟨r4, U4, h11aaaa12aa2ac, h11aaaa12aa2aa⟩ := h11aaaa12aa2a
            refine ev_cal (σc := (d, 185, 0, [some (.inl (U3 87 (w32 (x1 - 1)).toNat))], [], (am_sh, am_mm U3))) (fun _ => rfl) h11aaaa12aa2ac ?_
            show Ev (am_kz N X) ((d + 1), 93, 127, [some (.inr (.inr 86)), some (.inl x1), some (.inl r1), some (.inl r2), none, none], [.inl r4], (am_sh, am_mm U4)) R
            refine ev_br (P := r4 = 0) (σ1 := ((d + 1), 93, 135, [some (.inr (.inr 86)), some (.inl x1), some (.inl r1), some (.inl r2), none, none], [], (am_sh, am_mm U4))) (σ2 := ((d + 1), 93, 130, [some (.inr (.inr 86)), some (.inl x1), some (.inl r1), some (.inl r2), none, none], [], (am_sh, am_mm U4))) 1 (fun _ => rfl) (fun hc => ?_) (fun hc => ?_)
            · have h11aaaa12aa2aa1 := h11aaaa12aa2aa.1 hc
              exact h11aaaa12aa2aa1
            · have h11aaaa12aa2aa2 := h11aaaa12aa2aa.2 hc
              refine ev_seg (σ1 := ((d + 1), 93, 132, [some (.inr (.inr 86)), some (.inl x1), some (.inl r1), some (.inl r2), none, none], [.inl x1, .inr (.inr 86)], (am_sh, am_mm U4))) 2 (fun _ => rfl) ?_
              refine eu_puti 86 (n := 90) rfl (by decide) rfl rfl ?_
              exact h11aaaa12aa2aa2
      · have h11aaaa2 := h11aaaa.2 hc
        refine ev_br (P := r2 = 0) (σ1 := ((d + 1), 93, 135, [some (.inr (.inr 86)), some (.inl x1), some (.inl r1), some (.inl r2), none, none], [], (am_sh, am_mm U2))) (σ2 := ((d + 1), 93, 98, [some (.inr (.inr 86)), some (.inl x1), some (.inl r1), some (.inl r2), none, none], [], (am_sh, am_mm U2))) 2 (fun _ => rfl) (fun hc => ?_) (fun hc => ?_)
        · have h11aaaa21 := h11aaaa2.1 hc
          exact h11aaaa21
        · have h11aaaa22 := h11aaaa2.2 hc
          refine ev_br (P := x1 ≤ 0) (σ1 := ((d + 1), 93, 135, [some (.inr (.inr 86)), some (.inl x1), some (.inl r1), some (.inl r2), none, none], [], (am_sh, am_mm U2))) (σ2 := ((d + 1), 93, 102, [some (.inr (.inr 86)), some (.inl x1), some (.inl r1), some (.inl r2), none, none], [], (am_sh, am_mm U2))) 2 (fun _ => rfl) (fun hc => ?_) (fun hc => ?_)
          · have h11aaaa221 := h11aaaa22.1 hc
            exact h11aaaa221
          · have h11aaaa222 := h11aaaa22.2 hc
            refine ev_seg (σ1 := ((d + 1), 93, 109, [some (.inr (.inr 86)), some (.inl x1), some (.inl r1), some (.inl r2), none, none], [.inl (w32 (x1 - 1)), .inr (.inr 87)], (am_sh, am_mm U2))) 5 (fun _ => rfl) ?_
            refine eu_iald 87 (n := 1800) rfl (by decide) rfl (fun _ => rfl) h11aaaa222.1 ?_
            have h11aaaa222a := h11aaaa222.2
            obtain ⟨r5, U5, h11aaaa222ac, h11aaaa222aa⟩ := h11aaaa222a
            refine ev_cal (σc := (d, 184, 0, [some (.inl (U2 87 (w32 (x1 - 1)).toNat))], [], (am_sh, am_mm U2))) (fun _ => rfl) h11aaaa222ac ?_
            show Ev (am_kz N X) ((d + 1), 93, 113, [some (.inr (.inr 86)), some (.inl x1), some (.inl r1), some (.inl r2), none, none], [.inl r5], (am_sh, am_mm U5)) R
            refine ev_br (P := ¬ r5 = 0) (σ1 := ((d + 1), 93, 130, [some (.inr (.inr 86)), some (.inl x1), some (.inl r1), some (.inl r2), none, none], [], (am_sh, am_mm U5))) (σ2 := ((d + 1), 93, 116, [some (.inr (.inr 86)), some (.inl x1), some (.inl r1), some (.inl r2), none, none], [], (am_sh, am_mm U5))) 1 (fun _ => rfl) (fun hc => ?_) (fun hc => ?_)
            · have h11aaaa222aa1 := h11aaaa222aa.1 hc
              refine ev_seg (σ1 := ((d + 1), 93, 132, [some (.inr (.inr 86)), some (.inl x1), some (.inl r1), some (.inl r2), none, none], [.inl x1, .inr (.inr 86)], (am_sh, am_mm U5))) 2 (fun _ => rfl) ?_
              refine eu_puti 86 (n := 90) rfl (by decide) rfl rfl ?_
              exact h11aaaa222aa1
            · have h11aaaa222aa2 := h11aaaa222aa.2 hc
              refine ev_seg (σ1 := ((d + 1), 93, 123, [some (.inr (.inr 86)), some (.inl x1), some (.inl r1), some (.inl r2), none, none], [.inl (w32 (x1 - 1)), .inr (.inr 87)], (am_sh, am_mm U5))) 5 (fun _ => rfl) ?_
              refine eu_iald 87 (n := 1800) rfl (by decide) rfl (fun _ => rfl) h11aaaa222aa2.1 ?_
              have h11aaaa222aa2a := h11aaaa222aa2.2
              obtain ⟨r6, U6, h11aaaa222aa2ac, h11aaaa222aa2aa⟩ := h11aaaa222aa2a
              refine ev_cal (σc := (d, 185, 0, [some (.inl (U5 87 (w32 (x1 - 1)).toNat))], [], (am_sh, am_mm U5))) (fun _ => rfl) h11aaaa222aa2ac ?_
              show Ev (am_kz N X) ((d + 1), 93, 127, [some (.inr (.inr 86)), some (.inl x1), some (.inl r1), some (.inl r2), none, none], [.inl r6], (am_sh, am_mm U6)) R
              refine ev_br (P := r6 = 0) (σ1 := ((d + 1), 93, 135, [some (.inr (.inr 86)), some (.inl x1), some (.inl r1), some (.inl r2), none, none], [], (am_sh, am_mm U6))) (σ2 := ((d + 1), 93, 130, [some (.inr (.inr 86)), some (.inl x1), some (.inl r1), some (.inl r2), none, none], [], (am_sh, am_mm U6))) 1 (fun _ => rfl) (fun hc => ?_) (fun hc => ?_)
              · have h11aaaa222aa2aa1 := h11aaaa222aa2aa.1 hc
                exact h11aaaa222aa2aa1
              · have h11aaaa222aa2aa2 := h11aaaa222aa2aa.2 hc
                refine ev_seg (σ1 := ((d + 1), 93, 132, [some (.inr (.inr 86)), some (.inl x1), some (.inl r1), some (.inl r2), none, none], [.inl x1, .inr (.inr 86)], (am_sh, am_mm U6))) 2 (fun _ => rfl) ?_
                refine eu_puti 86 (n := 90) rfl (by decide) rfl rfl ?_
                exact h11aaaa222aa2aa2
    · have h12 := h1.2 hc
      subst h12
      exact ev_end 1 (fun _ => rfl)
  · have h2 := h.2 hc
    refine ev_seg (σ1 := ((d + 1), 93, 18, [some (.inr (.inr 86)), some (.inl x1), none, none, none, none], [.inl x1, .inr (.inr 87)], (am_sh, am_mm U))) 3 (fun _ => rfl) ?_
    refine eu_iald 87 (n := 1800) rfl (by decide) rfl (fun _ => rfl) h2.1 ?_
    have h2a := h2.2
    refine ev_br (P := (U 87 x1.toNat) = 32) (σ1 := ((d + 1), 93, 35, [some (.inr (.inr 86)), some (.inl x1), none, none, none, none], [], (am_sh, am_mm U))) (σ2 := ((d + 1), 93, 24, [some (.inr (.inr 86)), some (.inl x1), none, none, none, none], [], (am_sh, am_mm U))) 2 (fun _ => rfl) (fun hc => ?_) (fun hc => ?_)
    · have h2a1 := h2a.1 hc
      refine ev_seg (σ1 := ((d + 1), 93, 5, [some (.inr (.inr 86)), some (.inl (w32 (x1 + 1))), none, none, none, none], [], (am_sh, am_mm U))) 2 (fun _ => rfl) ?_
      exact h2a1
    · have h2a2 := h2a.2 hc
      refine ev_seg (σ1 := ((d + 1), 93, 29, [some (.inr (.inr 86)), some (.inl x1), none, none, none, none], [.inl x1, .inr (.inr 87)], (am_sh, am_mm U))) 3 (fun _ => rfl) ?_
      refine eu_iald 87 (n := 1800) rfl (by decide) rfl (fun _ => rfl) h2a2.1 ?_
      have h2a2a := h2a2.2
      refine ev_br (P := ¬ (U 87 x1.toNat) = 10) (σ1 := ((d + 1), 93, 41, [some (.inr (.inr 86)), some (.inl x1), none, none, none, none], [], (am_sh, am_mm U))) (σ2 := ((d + 1), 93, 35, [some (.inr (.inr 86)), some (.inl x1), none, none, none, none], [], (am_sh, am_mm U))) 2 (fun _ => rfl) (fun hc => ?_) (fun hc => ?_)
      · have h2a2a1 := h2a2a.1 hc
        refine ev_seg (σ1 := ((d + 1), 93, 43, [some (.inr (.inr 86)), some (.inl x1), none, none, none, none], [.inl x1, .inr (.inr 86)], (am_sh, am_mm U))) 2 (fun _ => rfl) ?_
        refine eu_puti 86 (n := 90) rfl (by decide) rfl rfl ?_
        refine ev_seg (σ1 := ((d + 1), 93, 48, [some (.inr (.inr 86)), some (.inl x1), none, none, none, none], [.inl x1, .inr (.inr 86)], (am_sh, am_mm (am_upd U 86 4 x1)))) 2 (fun _ => rfl) ?_
        refine eu_puti 86 (n := 90) rfl (by decide) rfl rfl ?_
        refine ev_seg (σ1 := ((d + 1), 93, 53, [some (.inr (.inr 86)), some (.inl x1), none, none, none, none], [.inl 0, .inr (.inr 86)], (am_sh, am_mm (am_upd (am_upd U 86 4 x1) 86 5 x1)))) 2 (fun _ => rfl) ?_
        refine eu_puti 86 (n := 90) rfl (by decide) rfl rfl ?_
        refine ev_seg (σ1 := ((d + 1), 93, 58, [some (.inr (.inr 86)), some (.inl x1), none, none, none, none], [.inl (-1), .inr (.inr 86)], (am_sh, am_mm (am_upd (am_upd (am_upd U 86 4 x1) 86 5 x1) 86 3 0)))) 2 (fun _ => rfl) ?_
        refine eu_puti 86 (n := 90) rfl (by decide) rfl rfl ?_
        refine ev_br (P := x1 < ((am_upd (am_upd (am_upd (am_upd U 86 4 x1) 86 5 x1) 86 3 0) 86 12 (-1)) 86 2)) (σ1 := ((d + 1), 93, 70, [some (.inr (.inr 86)), some (.inl x1), none, none, none, none], [], (am_sh, am_mm (am_upd (am_upd (am_upd (am_upd U 86 4 x1) 86 5 x1) 86 3 0) 86 12 (-1))))) (σ2 := ((d + 1), 93, 69, [some (.inr (.inr 86)), some (.inl x1), none, none, none, none], [], (am_sh, am_mm (am_upd (am_upd (am_upd (am_upd U 86 4 x1) 86 5 x1) 86 3 0) 86 12 (-1))))) 4 (fun _ => rfl) (fun hc => ?_) (fun hc => ?_)
        · have h2a2a11 := h2a2a1.1 hc
          refine ev_seg (σ1 := ((d + 1), 93, 75, [some (.inr (.inr 86)), some (.inl x1), none, none, none, none], [.inl x1, .inr (.inr 87)], (am_sh, am_mm (am_upd (am_upd (am_upd (am_upd U 86 4 x1) 86 5 x1) 86 3 0) 86 12 (-1))))) 3 (fun _ => rfl) ?_
          refine eu_iald 87 (n := 1800) rfl (by decide) rfl (fun _ => rfl) h2a2a11.1 ?_
          have h2a2a11a := h2a2a11.2
          obtain ⟨r7, U7, h2a2a11ac, h2a2a11aa⟩ := h2a2a11a
          refine ev_cal (σc := (d, 184, 0, [some (.inl ((am_upd (am_upd (am_upd (am_upd U 86 4 x1) 86 5 x1) 86 3 0) 86 12 (-1)) 87 x1.toNat))], [], (am_sh, am_mm (am_upd (am_upd (am_upd (am_upd U 86 4 x1) 86 5 x1) 86 3 0) 86 12 (-1))))) (fun _ => rfl) h2a2a11ac ?_
          show Ev (am_kz N X) ((d + 1), 93, 79, [some (.inr (.inr 86)), some (.inl x1), none, none, none, none], [.inl r7], (am_sh, am_mm U7)) R
          refine ev_seg (σ1 := ((d + 1), 93, 85, [some (.inr (.inr 86)), some (.inl x1), some (.inl r7), none, none, none], [.inl x1, .inr (.inr 87)], (am_sh, am_mm U7))) 4 (fun _ => rfl) ?_
          refine eu_iald 87 (n := 1800) rfl (by decide) rfl (fun _ => rfl) h2a2a11aa.1 ?_
          have h2a2a11aaa := h2a2a11aa.2
          obtain ⟨r8, U8, h2a2a11aaac, h2a2a11aaaa⟩ := h2a2a11aaa
          refine ev_cal (σc := (d, 185, 0, [some (.inl (U7 87 x1.toNat))], [], (am_sh, am_mm U7))) (fun _ => rfl) h2a2a11aaac ?_
          show Ev (am_kz N X) ((d + 1), 93, 89, [some (.inr (.inr 86)), some (.inl x1), some (.inl r7), none, none, none], [.inl r8], (am_sh, am_mm U8)) R
          refine ev_br (P := ¬ r7 = 0) (σ1 := ((d + 1), 93, 98, [some (.inr (.inr 86)), some (.inl x1), some (.inl r7), some (.inl r8), none, none], [], (am_sh, am_mm U8))) (σ2 := ((d + 1), 93, 94, [some (.inr (.inr 86)), some (.inl x1), some (.inl r7), some (.inl r8), none, none], [], (am_sh, am_mm U8))) 3 (fun _ => rfl) (fun hc => ?_) (fun hc => ?_)
          · have h2a2a11aaaa1 := h2a2a11aaaa.1 hc
            refine ev_br (P := x1 ≤ 0) (σ1 := ((d + 1), 93, 135, [some (.inr (.inr 86)), some (.inl x1), some (.inl r7), some (.inl r8), none, none], [], (am_sh, am_mm U8))) (σ2 := ((d + 1), 93, 102, [some (.inr (.inr 86)), some (.inl x1), some (.inl r7), some (.inl r8), none, none], [], (am_sh, am_mm U8))) 2 (fun _ => rfl) (fun hc => ?_) (fun hc => ?_)
            · have h2a2a11aaaa11 := h2a2a11aaaa1.1 hc
              exact h2a2a11aaaa11
            · have h2a2a11aaaa12 := h2a2a11aaaa1.2 hc
              refine ev_seg (σ1 := ((d + 1), 93, 109, [some (.inr (.inr 86)), some (.inl x1), some (.inl r7), some (.inl r8), none, none], [.inl (w32 (x1 - 1)), .inr (.inr 87)], (am_sh, am_mm U8))) 5 (fun _ => rfl) ?_
              refine eu_iald 87 (n := 1800) rfl (by decide) rfl (fun _ => rfl) h2a2a11aaaa12.1 ?_
              have h2a2a11aaaa12a := h2a2a11aaaa12.2
              obtain ⟨r9, U9, h2a2a11aaaa12ac, h2a2a11aaaa12aa⟩ := h2a2a11aaaa12a
              refine ev_cal (σc := (d, 184, 0, [some (.inl (U8 87 (w32 (x1 - 1)).toNat))], [], (am_sh, am_mm U8))) (fun _ => rfl) h2a2a11aaaa12ac ?_
              show Ev (am_kz N X) ((d + 1), 93, 113, [some (.inr (.inr 86)), some (.inl x1), some (.inl r7), some (.inl r8), none, none], [.inl r9], (am_sh, am_mm U9)) R
              refine ev_br (P := ¬ r9 = 0) (σ1 := ((d + 1), 93, 130, [some (.inr (.inr 86)), some (.inl x1), some (.inl r7), some (.inl r8), none, none], [], (am_sh, am_mm U9))) (σ2 := ((d + 1), 93, 116, [some (.inr (.inr 86)), some (.inl x1), some (.inl r7), some (.inl r8), none, none], [], (am_sh, am_mm U9))) 1 (fun _ => rfl) (fun hc => ?_) (fun hc => ?_)
              · have h2a2a11aaaa12aa1 := h2a2a11aaaa12aa.1 hc
                refine ev_seg (σ1 := ((d + 1), 93, 132, [some (.inr (.inr 86)), some (.inl x1), some (.inl r7), some (.inl r8), none, none], [.inl x1, .inr (.inr 86)], (am_sh, am_mm U9))) 2 (fun _ => rfl) ?_
                refine eu_puti 86 (n := 90) rfl (by decide) rfl rfl ?_
                exact h2a2a11aaaa12aa1
              · have h2a2a11aaaa12aa2 := h2a2a11aaaa12aa.2 hc
                refine ev_seg (σ1 := ((d + 1), 93, 123, [some (.inr (.inr 86)), some (.inl x1), some (.inl r7), some (.inl r8), none, none], [.inl (w32 (x1 - 1)), .inr (.inr 87)], (am_sh, am_mm U9))) 5 (fun _ => rfl) ?_
                refine eu_iald 87 (n := 1800) rfl (by decide) rfl (fun _ => rfl) h2a2a11aaaa12aa2.1 ?_
                have h2a2a11aaaa12aa2a := h2a2a11aaaa12aa2.2
                obtain ⟨r10, U10, h2a2a11aaaa12aa2ac, h2a2a11aaaa12aa2aa⟩ := h2a2a11aaaa12aa2a
                refine ev_cal (σc := (d, 185, 0, [some (.inl (U9 87 (w32 (x1 - 1)).toNat))], [], (am_sh, am_mm U9))) (fun _ => rfl) h2a2a11aaaa12aa2ac ?_
                show Ev (am_kz N X) ((d + 1), 93, 127, [some (.inr (.inr 86)), some (.inl x1), some (.inl r7), some (.inl r8), none, none], [.inl r10], (am_sh, am_mm U10)) R
                refine ev_br (P := r10 = 0) (σ1 := ((d + 1), 93, 135, [some (.inr (.inr 86)), some (.inl x1), some (.inl r7), some (.inl r8), none, none], [], (am_sh, am_mm U10))) (σ2 := ((d + 1), 93, 130, [some (.inr (.inr 86)), some (.inl x1), some (.inl r7), some (.inl r8), none, none], [], (am_sh, am_mm U10))) 1 (fun _ => rfl) (fun hc => ?_) (fun hc => ?_)
                · have h2a2a11aaaa12aa2aa1 := h2a2a11aaaa12aa2aa.1 hc
                  exact h2a2a11aaaa12aa2aa1
                · have h2a2a11aaaa12aa2aa2 := h2a2a11aaaa12aa2aa.2 hc
                  refine ev_seg (σ1 := ((d + 1), 93, 132, [some (.inr (.inr 86)), some (.inl x1), some (.inl r7), some (.inl r8), none, none], [.inl x1, .inr (.inr 86)], (am_sh, am_mm U10))) 2 (fun _ => rfl) ?_
                  refine eu_puti 86 (n := 90) rfl (by decide) rfl rfl ?_
                  exact h2a2a11aaaa12aa2aa2
          · have h2a2a11aaaa2 := h2a2a11aaaa.2 hc
            refine ev_br (P := r8 = 0) (σ1 := ((d + 1), 93, 135, [some (.inr (.inr 86)), some (.inl x1), some (.inl r7), some (.inl r8), none, none], [], (am_sh, am_mm U8))) (σ2 := ((d + 1), 93, 98, [some (.inr (.inr 86)), some (.inl x1), some (.inl r7), some (.inl r8), none, none], [], (am_sh, am_mm U8))) 2 (fun _ => rfl) (fun hc => ?_) (fun hc => ?_)
            · have h2a2a11aaaa21 := h2a2a11aaaa2.1 hc
              exact h2a2a11aaaa21
            · have h2a2a11aaaa22 := h2a2a11aaaa2.2 hc
              refine ev_br (P := x1 ≤ 0) (σ1 := ((d + 1), 93, 135, [some (.inr (.inr 86)), some (.inl x1), some (.inl r7), some (.inl r8), none, none], [], (am_sh, am_mm U8))) (σ2 := ((d + 1), 93, 102, [some (.inr (.inr 86)), some (.inl x1), some (.inl r7), some (.inl r8), none, none], [], (am_sh, am_mm U8))) 2 (fun _ => rfl) (fun hc => ?_) (fun hc => ?_)
              · have h2a2a11aaaa221 := h2a2a11aaaa22.1 hc
                exact h2a2a11aaaa221
              · have h2a2a11aaaa222 := h2a2a11aaaa22.2 hc
                refine ev_seg (σ1 := ((d + 1), 93, 109, [some (.inr (.inr 86)), some (.inl x1), some (.inl r7), some (.inl r8), none, none], [.inl (w32 (x1 - 1)), .inr (.inr 87)], (am_sh, am_mm U8))) 5 (fun _ => rfl) ?_
                refine eu_iald 87 (n := 1800) rfl (by decide) rfl (fun _ => rfl) h2a2a11aaaa222.1 ?_
                have h2a2a11aaaa222a := h2a2a11aaaa222.2
                obtain ⟨r11, U11, h2a2a11aaaa222ac, h2a2a11aaaa222aa⟩ := h2a2a11aaaa222a
                refine ev_cal (σc := (d, 184, 0, [some (.inl (U8 87 (w32 (x1 - 1)).toNat))], [], (am_sh, am_mm U8))) (fun _ => rfl) h2a2a11aaaa222ac ?_
                show Ev (am_kz N X) ((d + 1), 93, 113, [some (.inr (.inr 86)), some (.inl x1), some (.inl r7), some (.inl r8), none, none], [.inl r11], (am_sh, am_mm U11)) R
                refine ev_br (P := ¬ r11 = 0) (σ1 := ((d + 1), 93, 130, [some (.inr (.inr 86)), some (.inl x1), some (.inl r7), some (.inl r8), none, none], [], (am_sh, am_mm U11))) (σ2 := ((d + 1), 93, 116, [some (.inr (.inr 86)), some (.inl x1), some (.inl r7), some (.inl r8), none, none], [], (am_sh, am_mm U11))) 1 (fun _ => rfl) (fun hc => ?_) (fun hc => ?_)
                · have h2a2a11aaaa222aa1 := h2a2a11aaaa222aa.1 hc
                  refine ev_seg (σ1 := ((d + 1), 93, 132, [some (.inr (.inr 86)), some (.inl x1), some (.inl r7), some (.inl r8), none, none], [.inl x1, .inr (.inr 86)], (am_sh, am_mm U11))) 2 (fun _ => rfl) ?_
                  refine eu_puti 86 (n := 90) rfl (by decide) rfl rfl ?_
                  exact h2a2a11aaaa222aa1
                · have h2a2a11aaaa222aa2 := h2a2a11aaaa222aa.2 hc
                  refine ev_seg (σ1 := ((d + 1), 93, 123, [some (.inr (.inr 86)), some (.inl x1), some (.inl r7), some (.inl r8), none, none], [.inl (w32 (x1 - 1)), .inr (.inr 87)], (am_sh, am_mm U11))) 5 (fun _ => rfl) ?_
                  refine eu_iald 87 (n := 1800) rfl (by decide) rfl (fun _ => rfl) h2a2a11aaaa222aa2.1 ?_
                  have h2a2a11aaaa222aa2a := h2a2a11aaaa222aa2.2
                  obtain ⟨r12, U12, h2a2a11aaaa222aa2ac, h2a2a11aaaa222aa2aa⟩ := h2a2a11aaaa222aa2a
                  refine ev_cal (σc := (d, 185, 0, [some (.inl (U11 87 (w32 (x1 - 1)).toNat))], [], (am_sh, am_mm U11))) (fun _ => rfl) h2a2a11aaaa222aa2ac ?_
                  show Ev (am_kz N X) ((d + 1), 93, 127, [some (.inr (.inr 86)), some (.inl x1), some (.inl r7), some (.inl r8), none, none], [.inl r12], (am_sh, am_mm U12)) R
                  refine ev_br (P := r12 = 0) (σ1 := ((d + 1), 93, 135, [some (.inr (.inr 86)), some (.inl x1), some (.inl r7), some (.inl r8), none, none], [], (am_sh, am_mm U12))) (σ2 := ((d + 1), 93, 130, [some (.inr (.inr 86)), some (.inl x1), some (.inl r7), some (.inl r8), none, none], [], (am_sh, am_mm U12))) 1 (fun _ => rfl) (fun hc => ?_) (fun hc => ?_)
                  · have h2a2a11aaaa222aa2aa1 := h2a2a11aaaa222aa2aa.1 hc
                    exact h2a2a11aaaa222aa2aa1
                  · have h2a2a11aaaa222aa2aa2 := h2a2a11aaaa222aa2aa.2 hc
                    refine ev_seg (σ1 := ((d + 1), 93, 132, [some (.inr (.inr 86)), some (.inl x1), some (.inl r7), some (.inl r8), none, none], [.inl x1, .inr (.inr 86)], (am_sh, am_mm U12))) 2 (fun _ => rfl) ?_
                    refine eu_puti 86 (n := 90) rfl (by decide) rfl rfl ?_
                    exact h2a2a11aaaa222aa2aa2
        · have h2a2a12 := h2a2a1.2 hc
          subst h2a2a12
          exact ev_end 1 (fun _ => rfl)
      · have h2a2a2 := h2a2a.2 hc
        refine ev_seg (σ1 := ((d + 1), 93, 5, [some (.inr (.inr 86)), some (.inl (w32 (x1 + 1))), none, none, none, none], [], (am_sh, am_mm U))) 2 (fun _ => rfl) ?_
        exact h2a2a2
set_option maxRecDepth 8000 in
theorem st93_86_135 (N : Nat) (X : Nat → Int) (d : Nat) (x1 x2 x3 : Int) (U : Nat → Nat → Int) (R : Option am_V × am_M) (h : (((¬ x2 = 0 : Prop)) → (((x2 = 0 : Prop)) → (((x2 = 0 : Prop)) → Ev (am_kz N X) ((d + 1), 93, 205, [some (.inr (.inr 86)), some (.inl x1), some (.inl x2), some (.inl x3), some (.inl 9), some (.inl 0)], [], (am_sh, am_mm (am_upd (am_upd (am_upd (am_upd (am_upd U 86 6 0) 86 7 0) 86 3 3) 86 5 (w32 (x1 + 1))) 86 3 2))) R) ∧ (¬ (x2 = 0) → Ev (am_kz N X) ((d + 1), 93, 205, [some (.inr (.inr 86)), some (.inl x1), some (.inl x2), some (.inl x3), some (.inl 6), some (.inl 0)], [], (am_sh, am_mm (am_upd (am_upd (am_upd (am_upd (am_upd U 86 6 0) 86 7 0) 86 3 3) 86 5 (w32 (x1 + 1))) 86 3 2))) R)) ∧ (¬ (x2 = 0) → (((x2 = 0 : Prop)) → Ev (am_kz N X) ((d + 1), 93, 205, [some (.inr (.inr 86)), some (.inl x1), some (.inl x2), some (.inl x3), some (.inl 9), some (.inl 0)], [], (am_sh, am_mm (am_upd (am_upd (am_upd (am_upd (am_upd U 86 6 0) 86 7 0) 86 3 3) 86 5 (w32 (x1 + 1))) 86 3 1))) R) ∧ (¬ (x2 = 0) → Ev (am_kz N X) ((d + 1), 93, 205, [some (.inr (.inr 86)), some (.inl x1), some (.inl x2), some (.inl x3), some (.inl 6), some (.inl 0)], [], (am_sh, am_mm (am_upd (am_upd (am_upd (am_upd (am_upd U 86 6 0) 86 7 0) 86 3 3) 86 5 (w32 (x1 + 1))) 86 3 1))) R))) ∧ (¬ (¬ x2 = 0) → (((¬ x3 = 0 : Prop)) → (((x2 = 0 : Prop)) → (((x2 = 0 : Prop)) → Ev (am_kz N X) ((d + 1), 93, 205, [some (.inr (.inr 86)), some (.inl x1), some (.inl x2), some (.inl x3), some (.inl 9), some (.inl 0)], [], (am_sh, am_mm (am_upd (am_upd (am_upd (am_upd (am_upd U 86 6 0) 86 7 0) 86 3 3) 86 5 (w32 (x1 + 1))) 86 3 2))) R) ∧ (¬ (x2 = 0) → Ev (am_kz N X) ((d + 1), 93, 205, [some (.inr (.inr 86)), some (.inl x1), some (.inl x2), some (.inl x3), some (.inl 6), some (.inl 0)], [], (am_sh, am_mm (am_upd (am_upd (am_upd (am_upd (am_upd U 86 6 0) 86 7 0) 86 3 3) 86 5 (w32 (x1 + 1))) 86 3 2))) R)) ∧ (¬ (x2 = 0) → (((x2 = 0 : Prop)) → Ev (am_kz N X) ((d + 1), 93, 205, [some (.inr (.inr 86)), some (.inl x1), some (.inl x2), some (.inl x3), some (.inl 9), some (.inl 0)], [], (am_sh, am_mm (am_upd (am_upd (am_upd (am_upd (am_upd U 86 6 0) 86 7 0) 86 3 3) 86 5 (w32 (x1 + 1))) 86 3 1))) R) ∧ (¬ (x2 = 0) → Ev (am_kz N X) ((d + 1), 93, 205, [some (.inr (.inr 86)), some (.inl x1), some (.inl x2), some (.inl x3), some (.inl 6), some (.inl 0)], [], (am_sh, am_mm (am_upd (am_upd (am_upd (am_upd (am_upd U 86 6 0) 86 7 0) 86 3 3) 86 5 (w32 (x1 + 1))) 86 3 1))) R))) ∧ (¬ (¬ x3 = 0) → (0 ≤ x1 ∧ x1 < 1800) ∧ R = (none, (am_sh, am_mm (am_upd (am_upd (am_upd (am_upd (am_upd U 86 6 0) 86 7 0) 86 3 3) 86 5 (w32 (x1 + 1))) 86 6 ((am_upd (am_upd (am_upd (am_upd U 86 6 0) 86 7 0) 86 3 3) 86 5 (w32 (x1 + 1))) 87 x1.toNat))))))) : Ev (am_kz N X) ((d + 1), 93, 135, [some (.inr (.inr 86)), some (.inl x1), some (.inl x2), some (.inl x3), none, none], [], (am_sh, am_mm U)) R := by
  refine ev_seg (σ1 := ((d + 1), 93, 137, [some (.inr (.inr 86)), some (.inl x1), some (.inl x2), some (.inl x3), none, none], [.inl 0, .inr (.inr 86)], (am_sh, am_mm U))) 2 (fun _ => rfl) ?_
  refine eu_puti 86 (n := 90) rfl (by decide) rfl rfl ?_
  refine ev_seg (σ1 := ((d + 1), 93, 142, [some (.inr (.inr 86)), some (.inl x1), some (.inl x2), some (.inl x3), none, none], [.inr (.inl 0), .inr (.inr 86)], (am_sh, am_mm (am_upd U 86 6 0)))) 2 (fun _ => rfl) ?_
  refine eu_putj 86 (n := 90) rfl (by decide) rfl rfl ?_
  refine ev_seg (σ1 := ((d + 1), 93, 147, [some (.inr (.inr 86)), some (.inl x1), some (.inl x2), some (.inl x3), none, none], [.inl 3, .inr (.inr 86)], (am_sh, am_mm (am_upd (am_upd U 86 6 0) 86 7 0)))) 2 (fun _ => rfl) ?_
  refine eu_puti 86 (n := 90) rfl (by decide) rfl rfl ?_
  refine ev_seg (σ1 := ((d + 1), 93, 154, [some (.inr (.inr 86)), some (.inl x1), some (.inl x2), some (.inl x3), none, none], [.inl (w32 (x1 + 1)), .inr (.inr 86)], (am_sh, am_mm (am_upd (am_upd (am_upd U 86 6 0) 86 7 0) 86 3 3)))) 4 (fun _ => rfl) ?_
  refine eu_puti 86 (n := 90) rfl (by decide) rfl rfl ?_
  refine ev_br (P := ¬ x2 = 0) (σ1 := ((d + 1), 93, 176, [some (.inr (.inr 86)), some (.inl x1), some (.inl x2), some (.inl x3), none, none], [], (am_sh, am_mm (am_upd (am_upd (am_upd (am_upd U 86 6 0) 86 7 0) 86 3 3) 86 5 (w32 (x1 + 1)))))) (σ2 := ((d + 1), 93, 161, [some (.inr (.inr 86)), some (.inl x1), some (.inl x2), some (.inl x3), none, none], [], (am_sh, am_mm (am_upd (am_upd (am_upd (am_upd U 86 6 0) 86 7 0) 86 3 3) 86 5 (w32 (x1 + 1)))))) 2 (fun _ => rfl) (fun hc => ?_) (fun hc => ?_)
  · have h1 := h.1 hc
    refine ev_br (P := x2 = 0) (σ1 := ((d + 1), 93, 185, [some (.inr (.inr 86)), some (.inl x1), some (.inl x2), some (.inl x3), none, none], [.inr (.inr 86)], (am_sh, am_mm (am_upd (am_upd (am_upd (am_upd U 86 6 0) 86 7 0) 86 3 3) 86 5 (w32 (x1 + 1)))))) (σ2 := ((d + 1), 93, 181, [some (.inr (.inr 86)), some (.inl x1), some (.inl x2), some (.inl x3), none, none], [.inr (.inr 86)], (am_sh, am_mm (am_upd (am_upd (am_upd (am_upd U 86 6 0) 86 7 0) 86 3 3) 86 5 (w32 (x1 + 1)))))) 3 (fun _ => rfl) (fun hc => ?_) (fun hc => ?_)
    · have h11 := h1.1 hc
      refine ev_seg (σ1 := ((d + 1), 93, 186, [some (.inr (.inr 86)), some (.inl x1), some (.inl x2), some (.inl x3), none, none], [.inl 2, .inr (.inr 86)], (am_sh, am_mm (am_upd (am_upd (am_upd (am_upd U 86 6 0) 86 7 0) 86 3 3) 86 5 (w32 (x1 + 1)))))) 1 (fun _ => rfl) ?_
      refine eu_puti 86 (n := 90) rfl (by decide) rfl rfl ?_
      refine ev_br (P := x2 = 0) (σ1 := ((d + 1), 93, 198, [some (.inr (.inr 86)), some (.inl x1), some (.inl x2), some (.inl x3), none, none], [], (am_sh, am_mm (am_upd (am_upd (am_upd (am_upd (am_upd U 86 6 0) 86 7 0) 86 3 3) 86 5 (w32 (x1 + 1))) 86 3 2)))) (σ2 := ((d + 1), 93, 193, [some (.inr (.inr 86)), some (.inl x1), some (.inl x2), some (.inl x3), none, none], [], (am_sh, am_mm (am_upd (am_upd (am_upd (am_upd (am_upd U 86 6 0) 86 7 0) 86 3 3) 86 5 (w32 (x1 + 1))) 86 3 2)))) 2 (fun _ => rfl) (fun hc => ?_) (fun hc => ?_)
      · have h111 := h11.1 hc
        refine ev_seg (σ1 := ((d + 1), 93, 205, [some (.inr (.inr 86)), some (.inl x1), some (.inl x2), some (.inl x3), some (.inl 9), some (.inl 0)], [], (am_sh, am_mm (am_upd (am_upd (am_upd (am_upd (am_upd U 86 6 0) 86 7 0) 86 3 3) 86 5 (w32 (x1 + 1))) 86 3 2)))) 4 (fun _ => rfl) ?_
        exact h111
      · have h112 := h11.2 hc
        refine ev_seg (σ1 := ((d + 1), 93, 205, [some (.inr (.inr 86)), some (.inl x1), some (.inl x2), some (.inl x3), some (.inl 6), some (.inl 0)], [], (am_sh, am_mm (am_upd (am_upd (am_upd (am_upd (am_upd U 86 6 0) 86 7 0) 86 3 3) 86 5 (w32 (x1 + 1))) 86 3 2)))) 5 (fun _ => rfl) ?_
        exact h112
    · have h12 := h1.2 hc
      refine ev_seg (σ1 := ((d + 1), 93, 186, [some (.inr (.inr 86)), some (.inl x1), some (.inl x2), some (.inl x3), none, none], [.inl 1, .inr (.inr 86)], (am_sh, am_mm (am_upd (am_upd (am_upd (am_upd U 86 6 0) 86 7 0) 86 3 3) 86 5 (w32 (x1 + 1)))))) 2 (fun _ => rfl) ?_
      refine eu_puti 86 (n := 90) rfl (by decide) rfl rfl ?_
      refine ev_br (P := x2 = 0) (σ1 := ((d + 1), 93, 198, [some (.inr (.inr 86)), some (.inl x1), some (.inl x2), some (.inl x3), none, none], [], (am_sh, am_mm (am_upd (am_upd (am_upd (am_upd (am_upd U 86 6 0) 86 7 0) 86 3 3) 86 5 (w32 (x1 + 1))) 86 3 1)))) (σ2 := ((d + 1), 93, 193, [some (.inr (.inr 86)), some (.inl x1), some (.inl x2), some (.inl x3), none, none], [], (am_sh, am_mm (am_upd (am_upd (am_upd (am_upd (am_upd U 86 6 0) 86 7 0) 86 3 3) 86 5 (w32 (x1 + 1))) 86 3 1)))) 2 (fun _ => rfl) (fun hc => ?_) (fun hc => ?_)
      · have h121 := h12.1 hc
        refine ev_seg (σ1 := ((d + 1), 93, 205, [some (.inr (.inr 86)), some (.inl x1), some (.inl x2), some (.inl x3), some (.inl 9), some (.inl 0)], [], (am_sh, am_mm (am_upd (am_upd (am_upd (am_upd (am_upd U 86 6 0) 86 7 0) 86 3 3) 86 5 (w32 (x1 + 1))) 86 3 1)))) 4 (fun _ => rfl) ?_
        exact h121
      · have h122 := h12.2 hc
        refine ev_seg (σ1 := ((d + 1), 93, 205, [some (.inr (.inr 86)), some (.inl x1), some (.inl x2), some (.inl x3), some (.inl 6), some (.inl 0)], [], (am_sh, am_mm (am_upd (am_upd (am_upd (am_upd (am_upd U 86 6 0) 86 7 0) 86 3 3) 86 5 (w32 (x1 + 1))) 86 3 1)))) 5 (fun _ => rfl) ?_
        exact h122
  · have h2 := h.2 hc
    refine ev_br (P := ¬ x3 = 0) (σ1 := ((d + 1), 93, 176, [some (.inr (.inr 86)), some (.inl x1), some (.inl x2), some (.inl x3), none, none], [], (am_sh, am_mm (am_upd (am_upd (am_upd (am_upd U 86 6 0) 86 7 0) 86 3 3) 86 5 (w32 (x1 + 1)))))) (σ2 := ((d + 1), 93, 165, [some (.inr (.inr 86)), some (.inl x1), some (.inl x2), some (.inl x3), none, none], [], (am_sh, am_mm (am_upd (am_upd (am_upd (am_upd U 86 6 0) 86 7 0) 86 3 3) 86 5 (w32 (x1 + 1)))))) 2 (fun _ => rfl) (fun hc => ?_) (fun hc => ?_)
    · have h21 := h2.1 hc
      refine ev_br (P := x2 = 0) (σ1 := ((d + 1), 93, 185, [some (.inr (.inr 86)), some (.inl x1), some (.inl x2), some (.inl x3), none, none], [.inr (.inr 86)], (am_sh, am_mm (am_upd (am_upd (am_upd (am_upd U 86 6 0) 86 7 0) 86 3 3) 86 5 (w32 (x1 + 1)))))) (σ2 := ((d + 1), 93, 181, [some (.inr (.inr 86)), some (.inl x1), some (.inl x2), some (.inl x3), none, none], [.inr (.inr 86)], (am_sh, am_mm (am_upd (am_upd (am_upd (am_upd U 86 6 0) 86 7 0) 86 3 3) 86 5 (w32 (x1 + 1)))))) 3 (fun _ => rfl) (fun hc => ?_) (fun hc => ?_)
      · have h211 := h21.1 hc
        refine ev_seg (σ1 := ((d + 1), 93, 186, [some (.inr (.inr 86)), some (.inl x1), some (.inl x2), some (.inl x3), none, none], [.inl 2, .inr (.inr 86)], (am_sh, am_mm (am_upd (am_upd (am_upd (am_upd U 86 6 0) 86 7 0) 86 3 3) 86 5 (w32 (x1 + 1)))))) 1 (fun _ => rfl) ?_
        refine eu_puti 86 (n := 90) rfl (by decide) rfl rfl ?_
        refine ev_br (P := x2 = 0) (σ1 := ((d + 1), 93, 198, [some (.inr (.inr 86)), some (.inl x1), some (.inl x2), some (.inl x3), none, none], [], (am_sh, am_mm (am_upd (am_upd (am_upd (am_upd (am_upd U 86 6 0) 86 7 0) 86 3 3) 86 5 (w32 (x1 + 1))) 86 3 2)))) (σ2 := ((d + 1), 93, 193, [some (.inr (.inr 86)), some (.inl x1), some (.inl x2), some (.inl x3), none, none], [], (am_sh, am_mm (am_upd (am_upd (am_upd (am_upd (am_upd U 86 6 0) 86 7 0) 86 3 3) 86 5 (w32 (x1 + 1))) 86 3 2)))) 2 (fun _ => rfl) (fun hc => ?_) (fun hc => ?_)
        · have h2111 := h211.1 hc
          refine ev_seg (σ1 := ((d + 1), 93, 205, [some (.inr (.inr 86)), some (.inl x1), some (.inl x2), some (.inl x3), some (.inl 9), some (.inl 0)], [], (am_sh, am_mm (am_upd (am_upd (am_upd (am_upd (am_upd U 86 6 0) 86 7 0) 86 3 3) 86 5 (w32 (x1 + 1))) 86 3 2)))) 4 (fun _ => rfl) ?_
          exact h2111
        · have h2112 := h211.2 hc
          refine ev_seg (σ1 := ((d + 1), 93, 205, [some (.inr (.inr 86)), some (.inl x1), some (.inl x2), some (.inl x3), some (.inl 6), some (.inl 0)], [], (am_sh, am_mm (am_upd (am_upd (am_upd (am_upd (am_upd U 86 6 0) 86 7 0) 86 3 3) 86 5 (w32 (x1 + 1))) 86 3 2)))) 5 (fun _ => rfl) ?_
          exact h2112
      · have h212 := h21.2 hc
        refine ev_seg (σ1 := ((d + 1), 93, 186, [some (.inr (.inr 86)), some (.inl x1), some (.inl x2), some (.inl x3), none, none], [.inl 1, .inr (.inr 86)], (am_sh, am_mm (am_upd (am_upd (am_upd (am_upd U 86 6 0) 86 7 0) 86 3 3) 86 5 (w32 (x1 + 1)))))) 2 (fun _ => rfl) ?_
        refine eu_puti 86 (n := 90) rfl (by decide) rfl rfl ?_
        refine ev_br (P := x2 = 0) (σ1 := ((d + 1), 93, 198, [some (.inr (.inr 86)), some (.inl x1), some (.inl x2), some (.inl x3), none, none], [], (am_sh, am_mm (am_upd (am_upd (am_upd (am_upd (am_upd U 86 6 0) 86 7 0) 86 3 3) 86 5 (w32 (x1 + 1))) 86 3 1)))) (σ2 := ((d + 1), 93, 193, [some (.inr (.inr 86)), some (.inl x1), some (.inl x2), some (.inl x3), none, none], [], (am_sh, am_mm (am_upd (am_upd (am_upd (am_upd (am_upd U 86 6 0) 86 7 0) 86 3 3) 86 5 (w32 (x1 + 1))) 86 3 1)))) 2 (fun _ => rfl) (fun hc => ?_) (fun hc => ?_)
        · have h2121 := h212.1 hc
          refine ev_seg (σ1 := ((d + 1), 93, 205, [some (.inr (.inr 86)), some (.inl x1), some (.inl x2), some (.inl x3), some (.inl 9), some (.inl 0)], [], (am_sh, am_mm (am_upd (am_upd (am_upd (am_upd (am_upd U 86 6 0) 86 7 0) 86 3 3) 86 5 (w32 (x1 + 1))) 86 3 1)))) 4 (fun _ => rfl) ?_
          exact h2121
        · have h2122 := h212.2 hc
          refine ev_seg (σ1 := ((d + 1), 93, 205, [some (.inr (.inr 86)), some (.inl x1), some (.inl x2), some (.inl x3), some (.inl 6), some (.inl 0)], [], (am_sh, am_mm (am_upd (am_upd (am_upd (am_upd (am_upd U 86 6 0) 86 7 0) 86 3 3) 86 5 (w32 (x1 + 1))) 86 3 1)))) 5 (fun _ => rfl) ?_
          exact h2122
    · have h22 := h2.2 hc
      refine ev_seg (σ1 := ((d + 1), 93, 171, [some (.inr (.inr 86)), some (.inl x1), some (.inl x2), some (.inl x3), none, none], [.inl x1, .inr (.inr 87), .inr (.inr 86)], (am_sh, am_mm (am_upd (am_upd (am_upd (am_upd U 86 6 0) 86 7 0) 86 3 3) 86 5 (w32 (x1 + 1)))))) 4 (fun _ => rfl) ?_
      refine eu_iald 87 (n := 1800) rfl (by decide) rfl (fun _ => rfl) h22.1 ?_
      have h22a := h22.2
      refine eu_puti 86 (n := 90) rfl (by decide) rfl rfl ?_
      subst h22a
      exact ev_end 1 (fun _ => rfl)
set_option maxRecDepth 8000 in
theorem st93_86_205 (N : Nat) (X : Nat → Int) (d : Nat) (x1 x2 x3 x4 x5 : Int) (U : Nat → Nat → Int) (R : Option am_V × am_M) (h : ((((U 86 2) ≤ x1 : Prop)) → R = (none, (am_sh, am_mm (am_upd U 86 5 x1)))) ∧ (¬ ((U 86 2) ≤ x1) → (((x2 = 0 : Prop)) → (0 ≤ x1 ∧ x1 < 1800) ∧ ∃ (r1 : Int) (U1 : Nat → Nat → Int), Ev (am_kz N X) (d, 185, 0, [some (.inl (U 87 x1.toNat))], [], (am_sh, am_mm U)) (some (.inl r1), (am_sh, am_mm U1)) ∧ (((r1 = 0 : Prop)) → R = (none, (am_sh, am_mm (am_upd U1 86 5 x1)))) ∧ (¬ (r1 = 0) → (((¬ x5 = x4 : Prop)) → Ev (am_kz N X) ((d + 1), 93, 264, [some (.inr (.inr 86)), some (.inl x1), some (.inl x2), some (.inl x3), some (.inl x4), some (.inl x5)], [], (am_sh, am_mm U1)) R) ∧ (¬ (¬ x5 = x4) → (((¬ (U1 86 12) = (-1) : Prop)) → Ev (am_kz N X) ((d + 1), 93, 264, [some (.inr (.inr 86)), some (.inl x1), some (.inl x2), some (.inl x3), some (.inl x4), some (.inl x5)], [], (am_sh, am_mm U1)) R) ∧ (¬ (¬ (U1 86 12) = (-1)) → Ev (am_kz N X) ((d + 1), 93, 264, [some (.inr (.inr 86)), some (.inl x1), some (.inl x2), some (.inl x3), some (.inl x4), some (.inl x5)], [], (am_sh, am_mm (am_upd U1 86 12 x1))) R)))) ∧ (¬ (x2 = 0) → (0 ≤ x1 ∧ x1 < 1800) ∧ ∃ (r2 : Int) (U2 : Nat → Nat → Int), Ev (am_kz N X) (d, 184, 0, [some (.inl (U 87 x1.toNat))], [], (am_sh, am_mm U)) (some (.inl r2), (am_sh, am_mm U2)) ∧ (((r2 = 0 : Prop)) → R = (none, (am_sh, am_mm (am_upd U2 86 5 x1)))) ∧ (¬ (r2 = 0) → (((¬ x5 = x4 : Prop)) → Ev (am_kz N X) ((d + 1), 93, 264, [some (.inr (.inr 86)), some (.inl x1), some (.inl x2), some (.inl x3), some (.inl x4), some (.inl x5)], [], (am_sh, am_mm U2)) R) ∧ (¬ (¬ x5 = x4) → (((¬ (U2 86 12) = (-1) : Prop)) → Ev (am_kz N X) ((d + 1), 93, 264, [some (.inr (.inr 86)), some (.inl x1), some (.inl x2), some (.inl x3), some (.inl x4), some (.inl x5)], [], (am_sh, am_mm U2)) R) ∧ (¬ (¬ (U2 86 12) = (-1)) → Ev (am_kz N X) ((d + 1), 93, 264, [some (.inr (.inr 86)), some (.inl x1), some (.inl x2), some (.inl x3), some (.inl x4), some (.inl x5)], [], (am_sh, am_mm (am_upd U2 86 12 x1))) R)))))) : Ev (am_kz N X) ((d + 1), 93, 205, [some (.inr (.inr 86)), some (.inl x1), some (.inl x2), some (.inl x3), some (.inl x4), some (.inl x5)], [], (am_sh, am_mm U)) R := by
  refine ev_br (P := (U 86 2) ≤ x1) (σ1 := ((d + 1), 93, 335, [some (.inr (.inr 86)), some (.inl x1), some (.inl x2), some (.inl x3), some (.inl x4), some (.inl x5)], [], (am_sh, am_mm U))) (σ2 := ((d + 1), 93, 213, [some (.inr (.inr 86)), some (.inl x1), some (.inl x2), some (.inl x3), some (.inl x4), some (.inl x5)], [], (am_sh, am_mm U))) 4 (fun _ => rfl) (fun hc => ?_) (fun hc => ?_)
  · have h1 := h.1 hc
    refine ev_seg (σ1 := ((d + 1), 93, 337, [some (.inr (.inr 86)), some (.inl x1), some (.inl x2), some (.inl x3), some (.inl x4), some (.inl x5)], [.inl x1, .inr (.inr 86)], (am_sh, am_mm U))) 2 (fun _ => rfl) ?_
    refine eu_puti 86 (n := 90) rfl (by decide) rfl rfl ?_
    subst h1
    exact ev_end 1 (fun _ => rfl)
  · have h2 := h.2 hc
    refine ev_br (P := x2 = 0) (σ1 := ((d + 1), 93, 232, [some (.inr (.inr 86)), some (.inl x1), some (.inl x2), some (.inl x3), some (.inl x4), some (.inl x5)], [], (am_sh, am_mm U))) (σ2 := ((d + 1), 93, 217, [some (.inr (.inr 86)), some (.inl x1), some (.inl x2), some (.inl x3), some (.inl x4), some (.inl x5)], [], (am_sh, am_mm U))) 2 (fun _ => rfl) (fun hc => ?_) (fun hc => ?_)
    · have h21 := h2.1 hc
      refine ev_seg (σ1 := ((d + 1), 93, 237, [some (.inr (.inr 86)), some (.inl x1), some (.inl x2), some (.inl x3), some (.inl x4), some (.inl x5)], [.inl x1, .inr (.inr 87)], (am_sh, am_mm U))) 3 (fun _ => rfl) ?_
      refine eu_iald 87 (n := 1800) rfl (by decide) rfl (fun _ => rfl) h21.1 ?_
      have h21a := h21.2
      obtain ⟨r1, U1, h21ac, h21aa⟩ := h21a
      refine ev_cal (σc := (d, 185, 0, [some (.inl (U 87 x1.toNat))], [], (am_sh, am_mm U))) (fun _ => rfl) h21ac ?_
      show Ev (am_kz N X) ((d + 1), 93, 241, [some (.inr (.inr 86)), some (.inl x1), some (.inl x2), some (.inl x3), some (.inl x4), some (.inl x5)], [.inl r1], (am_sh, am_mm U1)) R
      refine ev_br (P := r1 = 0) (σ1 := ((d + 1), 93, 335, [some (.inr (.inr 86)), some (.inl x1), some (.inl x2), some (.inl x3), some (.inl x4), some (.inl x5)], [], (am_sh, am_mm U1))) (σ2 := ((d + 1), 93, 244, [some (.inr (.inr 86)), some (.inl x1), some (.inl x2), some (.inl x3), some (.inl x4), some (.inl x5)], [], (am_sh, am_mm U1))) 1 (fun _ => rfl) (fun hc => ?_) (fun hc => ?_)
      · have h21aa1 := h21aa.1 hc
        refine ev_seg (σ1 := ((d + 1), 93, 337, [some (.inr (.inr 86)), some (.inl x1), some (.inl x2), some (.inl x3), some (.inl x4), some (.inl x5)], [.inl x1, .inr (.inr 86)], (am_sh, am_mm U1))) 2 (fun _ => rfl) ?_
        refine eu_puti 86 (n := 90) rfl (by decide) rfl rfl ?_
        subst h21aa1
        exact ev_end 1 (fun _ => rfl)
      · have h21aa2 := h21aa.2 hc
        refine ev_br (P := ¬ x5 = x4) (σ1 := ((d + 1), 93, 264, [some (.inr (.inr 86)), some (.inl x1), some (.inl x2), some (.inl x3), some (.inl x4), some (.inl x5)], [], (am_sh, am_mm U1))) (σ2 := ((d + 1), 93, 251, [some (.inr (.inr 86)), some (.inl x1), some (.inl x2), some (.inl x3), some (.inl x4), some (.inl x5)], [], (am_sh, am_mm U1))) 3 (fun _ => rfl) (fun hc => ?_) (fun hc => ?_)
        · have h21aa21 := h21aa2.1 hc
          exact h21aa21
        · have h21aa22 := h21aa2.2 hc
          refine ev_br (P := ¬ (U1 86 12) = (-1)) (σ1 := ((d + 1), 93, 264, [some (.inr (.inr 86)), some (.inl x1), some (.inl x2), some (.inl x3), some (.inl x4), some (.inl x5)], [], (am_sh, am_mm U1))) (σ2 := ((d + 1), 93, 259, [some (.inr (.inr 86)), some (.inl x1), some (.inl x2), some (.inl x3), some (.inl x4), some (.inl x5)], [], (am_sh, am_mm U1))) 4 (fun _ => rfl) (fun hc => ?_) (fun hc => ?_)
          · have h21aa221 := h21aa22.1 hc
            exact h21aa221
          · have h21aa222 := h21aa22.2 hc
            refine ev_seg (σ1 := ((d + 1), 93, 261, [some (.inr (.inr 86)), some (.inl x1), some (.inl x2), some (.inl x3), some (.inl x4), some (.inl x5)], [.inl x1, .inr (.inr 86)], (am_sh, am_mm U1))) 2 (fun _ => rfl) ?_
            refine eu_puti 86 (n := 90) rfl (by decide) rfl rfl ?_
            exact h21aa222
    · have h22 := h2.2 hc
      refine ev_seg (σ1 := ((d + 1), 93, 222, [some (.inr (.inr 86)), some (.inl x1), some (.inl x2), some (.inl x3), some (.inl x4), some (.inl x5)], [.inl x1, .inr (.inr 87)], (am_sh, am_mm U))) 3 (fun _ => rfl) ?_
      refine eu_iald 87 (n := 1800) rfl (by decide) rfl (fun _ => rfl) h22.1 ?_
      have h22a := h22.2
      obtain ⟨r2, U2, h22ac, h22aa⟩ := h22a
      refine ev_cal (σc := (d, 184, 0, [some (.inl (U 87 x1.toNat))], [], (am_sh, am_mm U))) (fun _ => rfl) h22ac ?_
      show Ev (am_kz N X) ((d + 1), 93, 226, [some (.inr (.inr 86)), some (.inl x1), some (.inl x2), some (.inl x3), some (.inl x4), some (.inl x5)], [.inl r2], (am_sh, am_mm U2)) R
      refine ev_br (P := r2 = 0) (σ1 := ((d + 1), 93, 335, [some (.inr (.inr 86)), some (.inl x1), some (.inl x2), some (.inl x3), some (.inl x4), some (.inl x5)], [], (am_sh, am_mm U2))) (σ2 := ((d + 1), 93, 229, [some (.inr (.inr 86)), some (.inl x1), some (.inl x2), some (.inl x3), some (.inl x4), some (.inl x5)], [], (am_sh, am_mm U2))) 1 (fun _ => rfl) (fun hc => ?_) (fun hc => ?_)
      · have h22aa1 := h22aa.1 hc
        refine ev_seg (σ1 := ((d + 1), 93, 337, [some (.inr (.inr 86)), some (.inl x1), some (.inl x2), some (.inl x3), some (.inl x4), some (.inl x5)], [.inl x1, .inr (.inr 86)], (am_sh, am_mm U2))) 2 (fun _ => rfl) ?_
        refine eu_puti 86 (n := 90) rfl (by decide) rfl rfl ?_
        subst h22aa1
        exact ev_end 1 (fun _ => rfl)
      · have h22aa2 := h22aa.2 hc
        refine ev_br (P := ¬ x5 = x4) (σ1 := ((d + 1), 93, 264, [some (.inr (.inr 86)), some (.inl x1), some (.inl x2), some (.inl x3), some (.inl x4), some (.inl x5)], [], (am_sh, am_mm U2))) (σ2 := ((d + 1), 93, 251, [some (.inr (.inr 86)), some (.inl x1), some (.inl x2), some (.inl x3), some (.inl x4), some (.inl x5)], [], (am_sh, am_mm U2))) 4 (fun _ => rfl) (fun hc => ?_) (fun hc => ?_)
        · have h22aa21 := h22aa2.1 hc
          exact h22aa21
        · have h22aa22 := h22aa2.2 hc
          refine ev_br (P := ¬ (U2 86 12) = (-1)) (σ1 := ((d + 1), 93, 264, [some (.inr (.inr 86)), some (.inl x1), some (.inl x2), some (.inl x3), some (.inl x4), some (.inl x5)], [], (am_sh, am_mm U2))) (σ2 := ((d + 1), 93, 259, [some (.inr (.inr 86)), some (.inl x1), some (.inl x2), some (.inl x3), some (.inl x4), some (.inl x5)], [], (am_sh, am_mm U2))) 4 (fun _ => rfl) (fun hc => ?_) (fun hc => ?_)
          · have h22aa221 := h22aa22.1 hc
            exact h22aa221
          · have h22aa222 := h22aa22.2 hc
            refine ev_seg (σ1 := ((d + 1), 93, 261, [some (.inr (.inr 86)), some (.inl x1), some (.inl x2), some (.inl x3), some (.inl x4), some (.inl x5)], [.inl x1, .inr (.inr 86)], (am_sh, am_mm U2))) 2 (fun _ => rfl) ?_
            refine eu_puti 86 (n := 90) rfl (by decide) rfl rfl ?_
            exact h22aa222
set_option maxRecDepth 8000 in
theorem st93_86_264 (N : Nat) (X : Nat → Int) (d : Nat) (x1 x2 x3 x4 x5 : Int) (U : Nat → Nat → Int) (R : Option am_V × am_M) (h : (((x4 ≤ x5 : Prop)) → (((x4 ≤ x5 : Prop)) → Ev (am_kz N X) ((d + 1), 93, 205, [some (.inr (.inr 86)), some (.inl (w32 (x1 + 1))), some (.inl x2), some (.inl x3), some (.inl x4), some (.inl (w32 (x5 + 1)))], [], (am_sh, am_mm U)) R) ∧ (¬ (x4 ≤ x5) → (((x3 = 0 : Prop)) → Ev (am_kz N X) ((d + 1), 93, 205, [some (.inr (.inr 86)), some (.inl (w32 (x1 + 1))), some (.inl x2), some (.inl x3), some (.inl x4), some (.inl (w32 (x5 + 1)))], [], (am_sh, am_mm U)) R) ∧ (¬ (x3 = 0) → (0 ≤ x1 ∧ x1 < 1800) ∧ Ev (am_kz N X) ((d + 1), 93, 205, [some (.inr (.inr 86)), some (.inl (w32 (x1 + 1))), some (.inl x2), some (.inl x3), some (.inl x4), some (.inl (w32 (x5 + 1)))], [], (am_sh, am_mm (am_upd U 86 6 (w32 ((w32 ((w32 (10 * (U 86 6))) + (U 87 x1.toNat))) - 48))))) R))) ∧ (¬ (x4 ≤ x5) → (((x2 = 0 : Prop)) → (((x4 ≤ x5 : Prop)) → Ev (am_kz N X) ((d + 1), 93, 205, [some (.inr (.inr 86)), some (.inl (w32 (x1 + 1))), some (.inl x2), some (.inl x3), some (.inl x4), some (.inl (w32 (x5 + 1)))], [], (am_sh, am_mm U)) R) ∧ (¬ (x4 ≤ x5) → (((x3 = 0 : Prop)) → Ev (am_kz N X) ((d + 1), 93, 205, [some (.inr (.inr 86)), some (.inl (w32 (x1 + 1))), some (.inl x2), some (.inl x3), some (.inl x4), some (.inl (w32 (x5 + 1)))], [], (am_sh, am_mm U)) R) ∧ (¬ (x3 = 0) → (0 ≤ x1 ∧ x1 < 1800) ∧ Ev (am_kz N X) ((d + 1), 93, 205, [some (.inr (.inr 86)), some (.inl (w32 (x1 + 1))), some (.inl x2), some (.inl x3), some (.inl x4), some (.inl (w32 (x5 + 1)))], [], (am_sh, am_mm (am_upd U 86 6 (w32 ((w32 ((w32 (10 * (U 86 6))) + (U 87 x1.toNat))) - 48))))) R))) ∧ (¬ (x2 = 0) → (0 ≤ x1 ∧ x1 < 1800) ∧ (((x4 ≤ x5 : Prop)) → Ev (am_kz N X) ((d + 1), 93, 205, [some (.inr (.inr 86)), some (.inl (w32 (x1 + 1))), some (.inl x2), some (.inl x3), some (.inl x4), some (.inl (w32 (x5 + 1)))], [], (am_sh, am_mm (am_upd U 86 7 (am_lor (am_lshl (U 86 7) 8) (U 87 x1.toNat))))) R) ∧ (¬ (x4 ≤ x5) → (((x3 = 0 : Prop)) → Ev (am_kz N X) ((d + 1), 93, 205, [some (.inr (.inr 86)), some (.inl (w32 (x1 + 1))), some (.inl x2), some (.inl x3), some (.inl x4), some (.inl (w32 (x5 + 1)))], [], (am_sh, am_mm (am_upd U 86 7 (am_lor (am_lshl (U 86 7) 8) (U 87 x1.toNat))))) R) ∧ (¬ (x3 = 0) → (0 ≤ x1 ∧ x1 < 1800) ∧ Ev (am_kz N X) ((d + 1), 93, 205, [some (.inr (.inr 86)), some (.inl (w32 (x1 + 1))), some (.inl x2), some (.inl x3), some (.inl x4), some (.inl (w32 (x5 + 1)))], [], (am_sh, am_mm (am_upd (am_upd U 86 7 (am_lor (am_lshl (U 86 7) 8) (U 87 x1.toNat))) 86 6 (w32 ((w32 ((w32 (10 * ((am_upd U 86 7 (am_lor (am_lshl (U 86 7) 8) (U 87 x1.toNat))) 86 6))) + ((am_upd U 86 7 (am_lor (am_lshl (U 86 7) 8) (U 87 x1.toNat))) 87 x1.toNat))) - 48))))) R))))) : Ev (am_kz N X) ((d + 1), 93, 264, [some (.inr (.inr 86)), some (.inl x1), some (.inl x2), some (.inl x3), some (.inl x4), some (.inl x5)], [], (am_sh, am_mm U)) R := by
  refine ev_br (P := x4 ≤ x5) (σ1 := ((d + 1), 93, 294, [some (.inr (.inr 86)), some (.inl x1), some (.inl x2), some (.inl x3), some (.inl x4), some (.inl x5)], [], (am_sh, am_mm U))) (σ2 := ((d + 1), 93, 271, [some (.inr (.inr 86)), some (.inl x1), some (.inl x2), some (.inl x3), some (.inl x4), some (.inl x5)], [], (am_sh, am_mm U))) 3 (fun _ => rfl) (fun hc => ?_) (fun hc => ?_)
  · have h1 := h.1 hc
    refine ev_br (P := x4 ≤ x5) (σ1 := ((d + 1), 93, 326, [some (.inr (.inr 86)), some (.inl x1), some (.inl x2), some (.inl x3), some (.inl x4), some (.inl x5)], [], (am_sh, am_mm U))) (σ2 := ((d + 1), 93, 301, [some (.inr (.inr 86)), some (.inl x1), some (.inl x2), some (.inl x3), some (.inl x4), some (.inl x5)], [], (am_sh, am_mm U))) 3 (fun _ => rfl) (fun hc => ?_) (fun hc => ?_)
    · have h11 := h1.1 hc
      refine ev_seg (σ1 := ((d + 1), 93, 205, [some (.inr (.inr 86)), some (.inl (w32 (x1 + 1))), some (.inl x2), some (.inl x3), some (.inl x4), some (.inl (w32 (x5 + 1)))], [], (am_sh, am_mm U))) 3 (fun _ => rfl) ?_
      exact h11
    · have h12 := h1.2 hc
      refine ev_br (P := x3 = 0) (σ1 := ((d + 1), 93, 326, [some (.inr (.inr 86)), some (.inl x1), some (.inl x2), some (.inl x3), some (.inl x4), some (.inl x5)], [], (am_sh, am_mm U))) (σ2 := ((d + 1), 93, 305, [some (.inr (.inr 86)), some (.inl x1), some (.inl x2), some (.inl x3), some (.inl x4), some (.inl x5)], [], (am_sh, am_mm U))) 2 (fun _ => rfl) (fun hc => ?_) (fun hc => ?_)
      · have h121 := h12.1 hc
        refine ev_seg (σ1 := ((d + 1), 93, 205, [some (.inr (.inr 86)), some (.inl (w32 (x1 + 1))), some (.inl x2), some (.inl x3), some (.inl x4), some (.inl (w32 (x5 + 1)))], [], (am_sh, am_mm U))) 3 (fun _ => rfl) ?_
        exact h121
      · have h122 := h12.2 hc
        refine ev_seg (σ1 := ((d + 1), 93, 318, [some (.inr (.inr 86)), some (.inl x1), some (.inl x2), some (.inl x3), some (.inl x4), some (.inl x5)], [.inl x1, .inr (.inr 87), .inl (w32 (10 * (U 86 6))), .inr (.inr 86)], (am_sh, am_mm U))) 8 (fun _ => rfl) ?_
        refine eu_iald 87 (n := 1800) rfl (by decide) rfl (fun _ => rfl) h122.1 ?_
        have h122a := h122.2
        refine ev_seg (σ1 := ((d + 1), 93, 323, [some (.inr (.inr 86)), some (.inl x1), some (.inl x2), some (.inl x3), some (.inl x4), some (.inl x5)], [.inl (w32 ((w32 ((w32 (10 * (U 86 6))) + (U 87 x1.toNat))) - 48)), .inr (.inr 86)], (am_sh, am_mm U))) 3 (fun _ => rfl) ?_
        refine eu_puti 86 (n := 90) rfl (by decide) rfl rfl ?_
        refine ev_seg (σ1 := ((d + 1), 93, 205, [some (.inr (.inr 86)), some (.inl (w32 (x1 + 1))), some (.inl x2), some (.inl x3), some (.inl x4), some (.inl (w32 (x5 + 1)))], [], (am_sh, am_mm (am_upd U 86 6 (w32 ((w32 ((w32 (10 * (U 86 6))) + (U 87 x1.toNat))) - 48)))))) 3 (fun _ => rfl) ?_
        exact h122a
  · have h2 := h.2 hc
    refine ev_br (P := x2 = 0) (σ1 := ((d + 1), 93, 294, [some (.inr (.inr 86)), some (.inl x1), some (.inl x2), some (.inl x3), some (.inl x4), some (.inl x5)], [], (am_sh, am_mm U))) (σ2 := ((d + 1), 93, 275, [some (.inr (.inr 86)), some (.inl x1), some (.inl x2), some (.inl x3), some (.inl x4), some (.inl x5)], [], (am_sh, am_mm U))) 2 (fun _ => rfl) (fun hc => ?_) (fun hc => ?_)
    · have h21 := h2.1 hc
      refine ev_br (P := x4 ≤ x5) (σ1 := ((d + 1), 93, 326, [some (.inr (.inr 86)), some (.inl x1), some (.inl x2), some (.inl x3), some (.inl x4), some (.inl x5)], [], (am_sh, am_mm U))) (σ2 := ((d + 1), 93, 301, [some (.inr (.inr 86)), some (.inl x1), some (.inl x2), some (.inl x3), some (.inl x4), some (.inl x5)], [], (am_sh, am_mm U))) 3 (fun _ => rfl) (fun hc => ?_) (fun hc => ?_)
      · have h211 := h21.1 hc
        refine ev_seg (σ1 := ((d + 1), 93, 205, [some (.inr (.inr 86)), some (.inl (w32 (x1 + 1))), some (.inl x2), some (.inl x3), some (.inl x4), some (.inl (w32 (x5 + 1)))], [], (am_sh, am_mm U))) 3 (fun _ => rfl) ?_
        exact h211
      · have h212 := h21.2 hc
        refine ev_br (P := x3 = 0) (σ1 := ((d + 1), 93, 326, [some (.inr (.inr 86)), some (.inl x1), some (.inl x2), some (.inl x3), some (.inl x4), some (.inl x5)], [], (am_sh, am_mm U))) (σ2 := ((d + 1), 93, 305, [some (.inr (.inr 86)), some (.inl x1), some (.inl x2), some (.inl x3), some (.inl x4), some (.inl x5)], [], (am_sh, am_mm U))) 2 (fun _ => rfl) (fun hc => ?_) (fun hc => ?_)
        · have h2121 := h212.1 hc
          refine ev_seg (σ1 := ((d + 1), 93, 205, [some (.inr (.inr 86)), some (.inl (w32 (x1 + 1))), some (.inl x2), some (.inl x3), some (.inl x4), some (.inl (w32 (x5 + 1)))], [], (am_sh, am_mm U))) 3 (fun _ => rfl) ?_
          exact h2121
        · have h2122 := h212.2 hc
          refine ev_seg (σ1 := ((d + 1), 93, 318, [some (.inr (.inr 86)), some (.inl x1), some (.inl x2), some (.inl x3), some (.inl x4), some (.inl x5)], [.inl x1, .inr (.inr 87), .inl (w32 (10 * (U 86 6))), .inr (.inr 86)], (am_sh, am_mm U))) 8 (fun _ => rfl) ?_
          refine eu_iald 87 (n := 1800) rfl (by decide) rfl (fun _ => rfl) h2122.1 ?_
          have h2122a := h2122.2
          refine ev_seg (σ1 := ((d + 1), 93, 323, [some (.inr (.inr 86)), some (.inl x1), some (.inl x2), some (.inl x3), some (.inl x4), some (.inl x5)], [.inl (w32 ((w32 ((w32 (10 * (U 86 6))) + (U 87 x1.toNat))) - 48)), .inr (.inr 86)], (am_sh, am_mm U))) 3 (fun _ => rfl) ?_
          refine eu_puti 86 (n := 90) rfl (by decide) rfl rfl ?_
          refine ev_seg (σ1 := ((d + 1), 93, 205, [some (.inr (.inr 86)), some (.inl (w32 (x1 + 1))), some (.inl x2), some (.inl x3), some (.inl x4), some (.inl (w32 (x5 + 1)))], [], (am_sh, am_mm (am_upd U 86 6 (w32 ((w32 ((w32 (10 * (U 86 6))) + (U 87 x1.toNat))) - 48)))))) 3 (fun _ => rfl) ?_
          exact h2122a
    · have h22 := h2.2 hc
      refine ev_seg (σ1 := ((d + 1), 93, 288, [some (.inr (.inr 86)), some (.inl x1), some (.inl x2), some (.inl x3), some (.inl x4), some (.inl x5)], [.inl x1, .inr (.inr 87), .inr (.inl (am_lshl (U 86 7) 8)), .inr (.inr 86)], (am_sh, am_mm U))) 8 (fun _ => rfl) ?_
      refine eu_iald 87 (n := 1800) rfl (by decide) rfl (fun _ => rfl) h22.1 ?_
      have h22a := h22.2
      refine ev_seg (σ1 := ((d + 1), 93, 291, [some (.inr (.inr 86)), some (.inl x1), some (.inl x2), some (.inl x3), some (.inl x4), some (.inl x5)], [.inr (.inl (am_lor (am_lshl (U 86 7) 8) (U 87 x1.toNat))), .inr (.inr 86)], (am_sh, am_mm U))) 2 (fun _ => rfl) ?_
      refine eu_putj 86 (n := 90) rfl (by decide) rfl rfl ?_
      refine ev_br (P := x4 ≤ x5) (σ1 := ((d + 1), 93, 326, [some (.inr (.inr 86)), some (.inl x1), some (.inl x2), some (.inl x3), some (.inl x4), some (.inl x5)], [], (am_sh, am_mm (am_upd U 86 7 (am_lor (am_lshl (U 86 7) 8) (U 87 x1.toNat)))))) (σ2 := ((d + 1), 93, 301, [some (.inr (.inr 86)), some (.inl x1), some (.inl x2), some (.inl x3), some (.inl x4), some (.inl x5)], [], (am_sh, am_mm (am_upd U 86 7 (am_lor (am_lshl (U 86 7) 8) (U 87 x1.toNat)))))) 3 (fun _ => rfl) (fun hc => ?_) (fun hc => ?_)
      · have h22a1 := h22a.1 hc
        refine ev_seg (σ1 := ((d + 1), 93, 205, [some (.inr (.inr 86)), some (.inl (w32 (x1 + 1))), some (.inl x2), some (.inl x3), some (.inl x4), some (.inl (w32 (x5 + 1)))], [], (am_sh, am_mm (am_upd U 86 7 (am_lor (am_lshl (U 86 7) 8) (U 87 x1.toNat)))))) 3 (fun _ => rfl) ?_
        exact h22a1
      · have h22a2 := h22a.2 hc
        refine ev_br (P := x3 = 0) (σ1 := ((d + 1), 93, 326, [some (.inr (.inr 86)), some (.inl x1), some (.inl x2), some (.inl x3), some (.inl x4), some (.inl x5)], [], (am_sh, am_mm (am_upd U 86 7 (am_lor (am_lshl (U 86 7) 8) (U 87 x1.toNat)))))) (σ2 := ((d + 1), 93, 305, [some (.inr (.inr 86)), some (.inl x1), some (.inl x2), some (.inl x3), some (.inl x4), some (.inl x5)], [], (am_sh, am_mm (am_upd U 86 7 (am_lor (am_lshl (U 86 7) 8) (U 87 x1.toNat)))))) 2 (fun _ => rfl) (fun hc => ?_) (fun hc => ?_)
        · have h22a21 := h22a2.1 hc
          refine ev_seg (σ1 := ((d + 1), 93, 205, [some (.inr (.inr 86)), some (.inl (w32 (x1 + 1))), some (.inl x2), some (.inl x3), some (.inl x4), some (.inl (w32 (x5 + 1)))], [], (am_sh, am_mm (am_upd U 86 7 (am_lor (am_lshl (U 86 7) 8) (U 87 x1.toNat)))))) 3 (fun _ => rfl) ?_
          exact h22a21
        · have h22a22 := h22a2.2 hc
          refine ev_seg (σ1 := ((d + 1), 93, 318, [some (.inr (.inr 86)), some (.inl x1), some (.inl x2), some (.inl x3), some (.inl x4), some (.inl x5)], [.inl x1, .inr (.inr 87), .inl (w32 (10 * ((am_upd U 86 7 (am_lor (am_lshl (U 86 7) 8) (U 87 x1.toNat))) 86 6))), .inr (.inr 86)], (am_sh, am_mm (am_upd U 86 7 (am_lor (am_lshl (U 86 7) 8) (U 87 x1.toNat)))))) 8 (fun _ => rfl) ?_
          refine eu_iald 87 (n := 1800) rfl (by decide) rfl (fun _ => rfl) h22a22.1 ?_
          have h22a22a := h22a22.2
          refine ev_seg (σ1 := ((d + 1), 93, 323, [some (.inr (.inr 86)), some (.inl x1), some (.inl x2), some (.inl x3), some (.inl x4), some (.inl x5)], [.inl (w32 ((w32 ((w32 (10 * ((am_upd U 86 7 (am_lor (am_lshl (U 86 7) 8) (U 87 x1.toNat))) 86 6))) + ((am_upd U 86 7 (am_lor (am_lshl (U 86 7) 8) (U 87 x1.toNat))) 87 x1.toNat))) - 48)), .inr (.inr 86)], (am_sh, am_mm (am_upd U 86 7 (am_lor (am_lshl (U 86 7) 8) (U 87 x1.toNat)))))) 3 (fun _ => rfl) ?_
          refine eu_puti 86 (n := 90) rfl (by decide) rfl rfl ?_
          refine ev_seg (σ1 := ((d + 1), 93, 205, [some (.inr (.inr 86)), some (.inl (w32 (x1 + 1))), some (.inl x2), some (.inl x3), some (.inl x4), some (.inl (w32 (x5 + 1)))], [], (am_sh, am_mm (am_upd (am_upd U 86 7 (am_lor (am_lshl (U 86 7) 8) (U 87 x1.toNat))) 86 6 (w32 ((w32 ((w32 (10 * ((am_upd U 86 7 (am_lor (am_lshl (U 86 7) 8) (U 87 x1.toNat))) 86 6))) + ((am_upd U 86 7 (am_lor (am_lshl (U 86 7) 8) (U 87 x1.toNat))) 87 x1.toNat))) - 48)))))) 3 (fun _ => rfl) ?_
          exact h22a22a
set_option maxRecDepth 8000 in
theorem st97_16_0 (N : Nat) (X : Nat → Int) (d : Nat) (U : Nat → Nat → Int) (R : Option am_V × am_M) (h : Ev (am_kz N X) (d, 97, 4, [some (.inr (.inr 16)), some (.inl 0), some (.inl 0)], [], (am_sh, am_mm U)) R) : Ev (am_kz N X) (d, 97, 0, [some (.inr (.inr 16)), none, none], [], (am_sh, am_mm U)) R := by
  refine ev_seg (σ1 := (d, 97, 4, [some (.inr (.inr 16)), some (.inl 0), some (.inl 0)], [], (am_sh, am_mm U))) 4 (fun _ => rfl) ?_
  exact h
set_option maxRecDepth 8000 in
theorem st97_16_4 (N : Nat) (X : Nat → Int) (d : Nat) (x1 x2 : Int) (U : Nat → Nat → Int) (R : Option am_V × am_M) (h : ((((U 16 0) ≤ x2 : Prop)) → R = (some (.inl x1), (am_sh, am_mm U))) ∧ (¬ ((U 16 0) ≤ x2) → (0 ≤ x2 ∧ x2 < 16) ∧ (((¬ (U 18 x2.toNat) = (-1) : Prop)) → Ev (am_kz N X) (d, 97, 4, [some (.inr (.inr 16)), some (.inl x1), some (.inl (w32 (x2 + 1)))], [], (am_sh, am_mm U)) R) ∧ (¬ (¬ (U 18 x2.toNat) = (-1)) → Ev (am_kz N X) (d, 97, 4, [some (.inr (.inr 16)), some (.inl (am_or x1 (am_shl 1 x2))), some (.inl (w32 (x2 + 1)))], [], (am_sh, am_mm U)) R))) : Ev (am_kz N X) (d, 97, 4, [some (.inr (.inr 16)), some (.inl x1), some (.inl x2)], [], (am_sh, am_mm U)) R := by
  refine ev_br (P := (U 16 0) ≤ x2) (σ1 := (d, 97, 34, [some (.inr (.inr 16)), some (.inl x1), some (.inl x2)], [], (am_sh, am_mm U))) (σ2 := (d, 97, 12, [some (.inr (.inr 16)), some (.inl x1), some (.inl x2)], [], (am_sh, am_mm U))) 4 (fun _ => rfl) (fun hc => ?_) (fun hc => ?_)
  · have h1 := h.1 hc
    subst h1
    exact ev_end 2 (fun _ => rfl)
  · have h2 := h.2 hc
    refine ev_seg (σ1 := (d, 97, 17, [some (.inr (.inr 16)), some (.inl x1), some (.inl x2)], [.inl x2, .inr (.inr 18)], (am_sh, am_mm U))) 3 (fun _ => rfl) ?_
    refine eu_iald 18 (n := 16) rfl (by decide) rfl (fun _ => rfl) h2.1 ?_
    have h2a := h2.2
    refine ev_br (P := ¬ (U 18 x2.toNat) = (-1)) (σ1 := (d, 97, 28, [some (.inr (.inr 16)), some (.inl x1), some (.inl x2)], [], (am_sh, am_mm U))) (σ2 := (d, 97, 22, [some (.inr (.inr 16)), some (.inl x1), some (.inl x2)], [], (am_sh, am_mm U))) 2 (fun _ => rfl) (fun hc => ?_) (fun hc => ?_)
    · have h2a1 := h2a.1 hc
      refine ev_seg (σ1 := (d, 97, 4, [some (.inr (.inr 16)), some (.inl x1), some (.inl (w32 (x2 + 1)))], [], (am_sh, am_mm U))) 2 (fun _ => rfl) ?_
      exact h2a1
    · have h2a2 := h2a.2 hc
      refine ev_seg (σ1 := (d, 97, 4, [some (.inr (.inr 16)), some (.inl (am_or x1 (am_shl 1 x2))), some (.inl (w32 (x2 + 1)))], [], (am_sh, am_mm U))) 8 (fun _ => rfl) ?_
      exact h2a2
set_option maxRecDepth 8000 in
theorem st98_0 (N : Nat) (X : Nat → Int) (d : Nat) (x0 : Int) (U : Nat → Nat → Int) (R : Option am_V × am_M) (h : R = (some (.inl (am_and (w32 ((w32 ((am_and (w32 ((w32 ((am_and (w32 (x0 - (am_and (am_ushr x0 1) 1431655765))) 858993459) + (am_and (am_ushr (w32 (x0 - (am_and (am_ushr x0 1) 1431655765))) 2) 858993459))) + (am_ushr (w32 ((am_and (w32 (x0 - (am_and (am_ushr x0 1) 1431655765))) 858993459) + (am_and (am_ushr (w32 (x0 - (am_and (am_ushr x0 1) 1431655765))) 2) 858993459))) 4))) 252645135) + (am_ushr (am_and (w32 ((w32 ((am_and (w32 (x0 - (am_and (am_ushr x0 1) 1431655765))) 858993459) + (am_and (am_ushr (w32 (x0 - (am_and (am_ushr x0 1) 1431655765))) 2) 858993459))) + (am_ushr (w32 ((am_and (w32 (x0 - (am_and (am_ushr x0 1) 1431655765))) 858993459) + (am_and (am_ushr (w32 (x0 - (am_and (am_ushr x0 1) 1431655765))) 2) 858993459))) 4))) 252645135) 8))) + (am_ushr (w32 ((am_and (w32 ((w32 ((am_and (w32 (x0 - (am_and (am_ushr x0 1) 1431655765))) 858993459) + (am_and (am_ushr (w32 (x0 - (am_and (am_ushr x0 1) 1431655765))) 2) 858993459))) + (am_ushr (w32 ((am_and (w32 (x0 - (am_and (am_ushr x0 1) 1431655765))) 858993459) + (am_and (am_ushr (w32 (x0 - (am_and (am_ushr x0 1) 1431655765))) 2) 858993459))) 4))) 252645135) + (am_ushr (am_and (w32 ((w32 ((am_and (w32 (x0 - (am_and (am_ushr x0 1) 1431655765))) 858993459) + (am_and (am_ushr (w32 (x0 - (am_and (am_ushr x0 1) 1431655765))) 2) 858993459))) + (am_ushr (w32 ((am_and (w32 (x0 - (am_and (am_ushr x0 1) 1431655765))) 858993459) + (am_and (am_ushr (w32 (x0 - (am_and (am_ushr x0 1) 1431655765))) 2) 858993459))) 4))) 252645135) 8))) 16))) 63)), (am_sh, am_mm U))) : Ev (am_kz N X) (d, 98, 0, [some (.inl x0)], [], (am_sh, am_mm U)) R := by
  subst h
  exact ev_end 42 (fun _ => rfl)
set_option maxRecDepth 8000 in
theorem st99_45_0 (N : Nat) (X : Nat → Int) (d : Nat) (U : Nat → Nat → Int) (R : Option am_V × am_M) (h : ∃ U1 : Nat → Nat → Int, Ev (am_kz N X) (d, 199, 0, [some (.inr (.inr 45)), none, none], [], (am_sh, am_mm U)) (none, (am_sh, am_mm U1)) ∧ Ev (am_kz N X) ((d + 1), 99, 8, [some (.inr (.inr 45)), some (.inl 0), some (.inl 0)], [], (am_sh, am_mm U1)) R) : Ev (am_kz N X) ((d + 1), 99, 0, [some (.inr (.inr 45)), none, none], [], (am_sh, am_mm U)) R := by
  refine ev_seg (σ1 := ((d + 1), 99, 1, [some (.inr (.inr 45)), none, none], [.inr (.inr 45)], (am_sh, am_mm U))) 1 (fun _ => rfl) ?_
  obtain ⟨U1, hc, ha⟩ := h
  refine ev_cal (σc := (d, 199, 0, [some (.inr (.inr 45)), none, none], [], (am_sh, am_mm U))) (fun _ => rfl) hc ?_
  show Ev (am_kz N X) ((d + 1), 99, 4, [some (.inr (.inr 45)), none, none], [], (am_sh, am_mm U1)) R
  refine ev_seg (σ1 := ((d + 1), 99, 8, [some (.inr (.inr 45)), some (.inl 0), some (.inl 0)], [], (am_sh, am_mm U1))) 4 (fun _ => rfl) ?_
  exact ha
set_option maxRecDepth 8000 in
theorem st99_45_8 (N : Nat) (X : Nat → Int) (d : Nat) (x1 x2 : Int) (U : Nat → Nat → Int) (R : Option am_V × am_M) (h : (((128 ≤ x2 : Prop)) → R = (some (.inl x1), (am_sh, am_mm U))) ∧ (¬ (128 ≤ x2) → (0 ≤ x2 ∧ x2 < 128) ∧ ∃ (r1 : Int) (U1 : Nat → Nat → Int), Ev (am_kz N X) (d, 98, 0, [some (.inl (U 47 x2.toNat))], [], (am_sh, am_mm U)) (some (.inl r1), (am_sh, am_mm U1)) ∧ Ev (am_kz N X) ((d + 1), 99, 8, [some (.inr (.inr 45)), some (.inl (w32 (x1 + r1))), some (.inl (w32 (x2 + 1)))], [], (am_sh, am_mm U1)) R)) : Ev (am_kz N X) ((d + 1), 99, 8, [some (.inr (.inr 45)), some (.inl x1), some (.inl x2)], [], (am_sh, am_mm U)) R := by
  refine ev_br (P := 128 ≤ x2) (σ1 := ((d + 1), 99, 35, [some (.inr (.inr 45)), some (.inl x1), some (.inl x2)], [], (am_sh, am_mm U))) (σ2 := ((d + 1), 99, 17, [some (.inr (.inr 45)), some (.inl x1), some (.inl x2)], [], (am_sh, am_mm U))) 5 (fun _ => rfl) (fun hc => ?_) (fun hc => ?_)
  · have h1 := h.1 hc
    subst h1
    exact ev_end 2 (fun _ => rfl)
  · have h2 := h.2 hc
    refine ev_seg (σ1 := ((d + 1), 99, 23, [some (.inr (.inr 45)), some (.inl x1), some (.inl x2)], [.inl x2, .inr (.inr 47), .inl x1], (am_sh, am_mm U))) 4 (fun _ => rfl) ?_
    refine eu_iald 47 (n := 128) rfl (by decide) rfl (fun _ => rfl) h2.1 ?_
    have h2a := h2.2
    obtain ⟨r1, U1, h2ac, h2aa⟩ := h2a
    refine ev_cal (σc := (d, 98, 0, [some (.inl (U 47 x2.toNat))], [], (am_sh, am_mm U))) (fun _ => rfl) h2ac ?_
    show Ev (am_kz N X) ((d + 1), 99, 27, [some (.inr (.inr 45)), some (.inl x1), some (.inl x2)], [.inl r1, .inl x1], (am_sh, am_mm U1)) R
    refine ev_seg (σ1 := ((d + 1), 99, 8, [some (.inr (.inr 45)), some (.inl (w32 (x1 + r1))), some (.inl (w32 (x2 + 1)))], [], (am_sh, am_mm U1))) 4 (fun _ => rfl) ?_
    exact h2aa
set_option maxRecDepth 8000 in
theorem st100_86_0 (N : Nat) (X : Nat → Int) (d : Nat) (x1 x2 x3 : Int) (U : Nat → Nat → Int) (R : Option am_V × am_M) (h : Ev (am_kz N X) ((d + 1), 100, 13, [some (.inr (.inr 86)), some (.inl x1), some (.inl x2), some (.inl x3), some (.inl 0), none, none, none], [], (am_sh, am_mm (am_upd (am_upd U 86 67 0) 86 64 (-1)))) R) : Ev (am_kz N X) ((d + 1), 100, 0, [some (.inr (.inr 86)), some (.inl x1), some (.inl x2), some (.inl x3), none, none, none, none], [], (am_sh, am_mm U)) R := by
  refine ev_seg (σ1 := ((d + 1), 100, 2, [some (.inr (.inr 86)), some (.inl x1), some (.inl x2), some (.inl x3), none, none, none, none], [.inl 0, .inr (.inr 86)], (am_sh, am_mm U))) 2 (fun _ => rfl) ?_
  refine eu_puti 86 (n := 90) rfl (by decide) rfl rfl ?_
  refine ev_seg (σ1 := ((d + 1), 100, 7, [some (.inr (.inr 86)), some (.inl x1), some (.inl x2), some (.inl x3), none, none, none, none], [.inl (-1), .inr (.inr 86)], (am_sh, am_mm (am_upd U 86 67 0)))) 2 (fun _ => rfl) ?_
  refine eu_puti 86 (n := 90) rfl (by decide) rfl rfl ?_
  refine ev_seg (σ1 := ((d + 1), 100, 13, [some (.inr (.inr 86)), some (.inl x1), some (.inl x2), some (.inl x3), some (.inl 0), none, none, none], [], (am_sh, am_mm (am_upd (am_upd U 86 67 0) 86 64 (-1))))) 2 (fun _ => rfl) ?_
  exact h
set_option maxRecDepth 8000 in
theorem st100_86_13 (N : Nat) (X : Nat → Int) (d : Nat) (x1 x2 x3 x4 : Int) (U : Nat → Nat → Int) (R : Option am_V × am_M) (h : (0 ≤ (U 86 13) ∧ (U 86 13) < 2) ∧ ((((U 100 (U 86 13).toNat) ≤ x4 : Prop)) → R = (some (.inl (U 86 67)), (am_sh, am_mm U))) ∧ (¬ ((U 100 (U 86 13).toNat) ≤ x4) → (0 ≤ (w32 ((w32 (8 * (U 86 13))) + x4)) ∧ (w32 ((w32 (8 * (U 86 13))) + x4)) < 16) ∧ Ev (am_kz N X) ((d + 1), 100, 47, [some (.inr (.inr 86)), some (.inl x1), some (.inl x2), some (.inl x3), some (.inl x4), some (.inl (U 101 (w32 ((w32 (8 * (U 86 13))) + x4)).toNat)), some (.inl 0), none], [], (am_sh, am_mm U)) R)) : Ev (am_kz N X) ((d + 1), 100, 13, [some (.inr (.inr 86)), some (.inl x1), some (.inl x2), some (.inl x3), some (.inl x4), none, none, none], [], (am_sh, am_mm U)) R := by
  refine ev_seg (σ1 := ((d + 1), 100, 23, [some (.inr (.inr 86)), some (.inl x1), some (.inl x2), some (.inl x3), some (.inl x4), none, none, none], [.inl (U 86 13), .inr (.inr 100), .inl x4], (am_sh, am_mm U))) 5 (fun _ => rfl) ?_
  refine eu_iald 100 (n := 2) rfl (by decide) rfl (fun _ => rfl) h.1 ?_
  have ha := h.2
  refine ev_br (P := (U 100 (U 86 13).toNat) ≤ x4) (σ1 := ((d + 1), 100, 211, [some (.inr (.inr 86)), some (.inl x1), some (.inl x2), some (.inl x3), some (.inl x4), none, none, none], [], (am_sh, am_mm U))) (σ2 := ((d + 1), 100, 27, [some (.inr (.inr 86)), some (.inl x1), some (.inl x2), some (.inl x3), some (.inl x4), none, none, none], [], (am_sh, am_mm U))) 1 (fun _ => rfl) (fun hc => ?_) (fun hc => ?_)
  · have ha1 := ha.1 hc
    subst ha1
    exact ev_end 3 (fun _ => rfl)
  · have ha2 := ha.2 hc
    refine ev_seg (σ1 := ((d + 1), 100, 41, [some (.inr (.inr 86)), some (.inl x1), some (.inl x2), some (.inl x3), some (.inl x4), none, none, none], [.inl (w32 ((w32 (8 * (U 86 13))) + x4)), .inr (.inr 101)], (am_sh, am_mm U))) 8 (fun _ => rfl) ?_
    refine eu_iald 101 (n := 16) rfl (by decide) rfl (fun _ => rfl) ha2.1 ?_
    have ha2a := ha2.2
    refine ev_seg (σ1 := ((d + 1), 100, 47, [some (.inr (.inr 86)), some (.inl x1), some (.inl x2), some (.inl x3), some (.inl x4), some (.inl (U 101 (w32 ((w32 (8 * (U 86 13))) + x4)).toNat)), some (.inl 0), none], [], (am_sh, am_mm U))) 3 (fun _ => rfl) ?_
    exact ha2a
set_option maxRecDepth 8000 in
theorem st100_86_47 (N : Nat) (X : Nat → Int) (d : Nat) (x1 x2 x3 x4 x5 x6 : Int) (U : Nat → Nat → Int) (R : Option am_V × am_M) (h : (0 ≤ x1 ∧ x1 < 22) ∧ ((((U 122 x1.toNat) ≤ x6 : Prop)) → Ev (am_kz N X) ((d + 1), 100, 13, [some (.inr (.inr 86)), some (.inl x1), some (.inl x2), some (.inl x3), some (.inl (w32 (x4 + 1))), some (.inl x5), some (.inl x6), none], [], (am_sh, am_mm U)) R) ∧ (¬ ((U 122 x1.toNat) ≤ x6) → ∃ (r1 : Int) (U1 : Nat → Nat → Int), Ev (am_kz N X) (d, 200, 0, [some (.inr (.inr 86)), some (.inl x1), some (.inl x6)], [], (am_sh, am_mm U)) (some (.inl r1), (am_sh, am_mm U1)) ∧ (((¬ r1 = (-1) : Prop)) → (((¬ x5 = 0 : Prop)) → Ev (am_kz N X) ((d + 1), 100, 117, [some (.inr (.inr 86)), some (.inl x1), some (.inl x2), some (.inl x3), some (.inl x4), some (.inl x5), some (.inl x6), some (.inl 0)], [], (am_sh, am_mm U1)) R) ∧ (¬ (¬ x5 = 0) → (((x2 = (-1) : Prop)) → ∃ (r2 : Int) (U2 : Nat → Nat → Int), Ev (am_kz N X) (d, 136, 0, [some (.inr (.inr 86)), some (.inl x1), some (.inl x4), some (.inl x6), some (.inr (.inl 0)), none], [], (am_sh, am_mm U1)) (some (.inl r2), (am_sh, am_mm U2)) ∧ (((¬ r2 = 0 : Prop)) → Ev (am_kz N X) ((d + 1), 100, 47, [some (.inr (.inr 86)), some (.inl x1), some (.inl x2), some (.inl x3), some (.inl x4), some (.inl x5), some (.inl (w32 (x6 + 1))), none], [], (am_sh, am_mm U2)) R) ∧ (¬ (¬ r2 = 0) → ∃ U3 : Nat → Nat → Int, Ev (am_kz N X) (d, 201, 0, [some (.inr (.inr 86)), some (.inl x4), some (.inl x6), some (.inl (-1)), some (.inl x3)], [], (am_sh, am_mm U2)) (none, (am_sh, am_mm U3)) ∧ Ev (am_kz N X) ((d + 1), 100, 47, [some (.inr (.inr 86)), some (.inl x1), some (.inl x2), some (.inl x3), some (.inl x4), some (.inl x5), some (.inl (w32 (x6 + 1))), none], [], (am_sh, am_mm U3)) R)) ∧ (¬ (x2 = (-1)) → (((¬ x2 = x6 : Prop)) → Ev (am_kz N X) ((d + 1), 100, 47, [some (.inr (.inr 86)), some (.inl x1), some (.inl x2), some (.inl x3), some (.inl x4), some (.inl x5), some (.inl (w32 (x6 + 1))), none], [], (am_sh, am_mm U1)) R) ∧ (¬ (¬ x2 = x6) → ∃ (r4 : Int) (U4 : Nat → Nat → Int), Ev (am_kz N X) (d, 136, 0, [some (.inr (.inr 86)), some (.inl x1), some (.inl x4), some (.inl x6), some (.inr (.inl 0)), none], [], (am_sh, am_mm U1)) (some (.inl r4), (am_sh, am_mm U4)) ∧ (((¬ r4 = 0 : Prop)) → Ev (am_kz N X) ((d + 1), 100, 47, [some (.inr (.inr 86)), some (.inl x1), some (.inl x2), some (.inl x3), some (.inl x4), some (.inl x5), some (.inl (w32 (x6 + 1))), none], [], (am_sh, am_mm U4)) R) ∧ (¬ (¬ r4 = 0) → ∃ U5 : Nat → Nat → Int, Ev (am_kz N X) (d, 201, 0, [some (.inr (.inr 86)), some (.inl x4), some (.inl x6), some (.inl (-1)), some (.inl x3)], [], (am_sh, am_mm U4)) (none, (am_sh, am_mm U5)) ∧ Ev (am_kz N X) ((d + 1), 100, 47, [some (.inr (.inr 86)), some (.inl x1), some (.inl x2), some (.inl x3), some (.inl x4), some (.inl x5), some (.inl (w32 (x6 + 1))), none], [], (am_sh, am_mm U5)) R))))) ∧ (¬ (¬ r1 = (-1)) → Ev (am_kz N X) ((d + 1), 100, 47, [some (.inr (.inr 86)), some (.inl x1), some (.inl x2), some (.inl x3), some (.inl x4), some (.inl x5), some (.inl (w32 (x6 + 1))), none], [], (am_sh, am_mm U1)) R))) : Ev (am_kz N X) ((d + 1), 100, 47, [some (.inr (.inr 86)), some (.inl x1), some (.inl x2), some (.inl x3), some (.inl x4), some (.inl x5), some (.inl x6), none], [], (am_sh, am_mm U)) R := by
  refine ev_seg (σ1 := ((d + 1), 100, 54, [some (.inr (.inr 86)), some (.inl x1), some (.inl x2), some (.inl x3), some (.inl x4), some (.inl x5), some (.inl x6), none], [.inl x1, .inr (.inr 122), .inl x6], (am_sh, am_mm U))) 4 (fun _ => rfl) ?_
  refine eu_iald 122 (n := 22) rfl (by decide) rfl (fun _ => rfl) h.1 ?_
  have ha := h.2
  refine ev_br (P := (U 122 x1.toNat) ≤ x6) (σ1 := ((d + 1), 100, 205, [some (.inr (.inr 86)), some (.inl x1), some (.inl x2), some (.inl x3), some (.inl x4), some (.inl x5), some (.inl x6), none], [], (am_sh, am_mm U))) (σ2 := ((d + 1), 100, 58, [some (.inr (.inr 86)), some (.inl x1), some (.inl x2), some (.inl x3), some (.inl x4), some (.inl x5), some (.inl x6), none], [], (am_sh, am_mm U))) 1 (fun _ => rfl) (fun hc => ?_) (fun hc => ?_)
  · have ha1 := ha.1 hc
    refine ev_seg (σ1 := ((d + 1), 100, 13, [some (.inr (.inr 86)), some (.inl x1), some (.inl x2), some (.inl x3), some (.inl (w32 (x4 + 1))), some (.inl x5), some (.inl x6), none], [], (am_sh, am_mm U))) 2 (fun _ => rfl) ?_
    exact ha1
  · have ha2 := ha.2 hc
    refine ev_seg (σ1 := ((d + 1), 100, 62, [some (.inr (.inr 86)), some (.inl x1), some (.inl x2), some (.inl x3), some (.inl x4), some (.inl x5), some (.inl x6), none], [.inl x6, .inl x1, .inr (.inr 86)], (am_sh, am_mm U))) 3 (fun _ => rfl) ?_
    obtain ⟨r1, U1, ha2c, ha2a⟩ := ha2
    refine ev_cal (σc := (d, 200, 0, [some (.inr (.inr 86)), some (.inl x1), some (.inl x6)], [], (am_sh, am_mm U))) (fun _ => rfl) ha2c ?_
    show Ev (am_kz N X) ((d + 1), 100, 65, [some (.inr (.inr 86)), some (.inl x1), some (.inl x2), some (.inl x3), some (.inl x4), some (.inl x5), some (.inl x6), none], [.inl r1], (am_sh, am_mm U1)) R
    refine ev_br (P := ¬ r1 = (-1)) (σ1 := ((d + 1), 100, 72, [some (.inr (.inr 86)), some (.inl x1), some (.inl x2), some (.inl x3), some (.inl x4), some (.inl x5), some (.inl x6), none], [], (am_sh, am_mm U1))) (σ2 := ((d + 1), 100, 69, [some (.inr (.inr 86)), some (.inl x1), some (.inl x2), some (.inl x3), some (.inl x4), some (.inl x5), some (.inl x6), none], [], (am_sh, am_mm U1))) 2 (fun _ => rfl) (fun hc => ?_) (fun hc => ?_)
    · have ha2a1 := ha2a.1 hc
      refine ev_br (P := ¬ x5 = 0) (σ1 := ((d + 1), 100, 114, [some (.inr (.inr 86)), some (.inl x1), some (.inl x2), some (.inl x3), some (.inl x4), some (.inl x5), some (.inl x6), none], [], (am_sh, am_mm U1))) (σ2 := ((d + 1), 100, 77, [some (.inr (.inr 86)), some (.inl x1), some (.inl x2), some (.inl x3), some (.inl x4), some (.inl x5), some (.inl x6), none], [], (am_sh, am_mm U1))) 2 (fun _ => rfl) (fun hc => ?_) (fun hc => ?_)
      · have ha2a11 := ha2a1.1 hc
        refine ev_seg (σ1 := ((d + 1), 100, 117, [some (.inr (.inr 86)), some (.inl x1), some (.inl x2), some (.inl x3), some (.inl x4), some (.inl x5), some (.inl x6), some (.inl 0)], [], (am_sh, am_mm U1))) 2 (fun _ => rfl) ?_
        exact ha2a11
      · have ha2a12 := ha2a1.2 hc
        refine ev_br (P := x2 = (-1)) (σ1 := ((d + 1), 100, 88, [some (.inr (.inr 86)), some (.inl x1), some (.inl x2), some (.inl x3), some (.inl x4), some (.inl x5), some (.inl x6), none], [], (am_sh, am_mm U1))) (σ2 := ((d + 1), 100, 82, [some (.inr (.inr 86)), some (.inl x1), some (.inl x2), some (.inl x3), some (.inl x4), some (.inl x5), some (.inl x6), none], [], (am_sh, am_mm U1))) 3 (fun _ => rfl) (fun hc => ?_) (fun hc => ?_)
        · have ha2a121 := ha2a12.1 hc
          refine ev_seg (σ1 := ((d + 1), 100, 95, [some (.inr (.inr 86)), some (.inl x1), some (.inl x2), some (.inl x3), some (.inl x4), some (.inl x5), some (.inl x6), none], [.inr (.inl 0), .inl x6, .inl x4, .inl x1, .inr (.inr 86)], (am_sh, am_mm U1))) 5 (fun _ => rfl) ?_
          obtain ⟨r2, U2, ha2a121c, ha2a121a⟩ := ha2a121
          refine ev_cal (σc := (d, 136, 0, [some (.inr (.inr 86)), some (.inl x1), some (.inl x4), some (.inl x6), some (.inr (.inl 0)), none], [], (am_sh, am_mm U1))) (fun _ => rfl) ha2a121c ?_
          show Ev (am_kz N X) ((d + 1), 100, 98, [some (.inr (.inr 86)), some (.inl x1), some (.inl x2), some (.inl x3), some (.inl x4), some (.inl x5), some (.inl x6), none], [.inl r2], (am_sh, am_mm U2)) R
          refine ev_br (P := ¬ r2 = 0) (σ1 := ((d + 1), 100, 199, [some (.inr (.inr 86)), some (.inl x1), some (.inl x2), some (.inl x3), some (.inl x4), some (.inl x5), some (.inl x6), none], [], (am_sh, am_mm U2))) (σ2 := ((d + 1), 100, 101, [some (.inr (.inr 86)), some (.inl x1), some (.inl x2), some (.inl x3), some (.inl x4), some (.inl x5), some (.inl x6), none], [], (am_sh, am_mm U2))) 1 (fun _ => rfl) (fun hc => ?_) (fun hc => ?_)
          · have ha2a121a1 := ha2a121a.1 hc
            refine ev_seg (σ1 := ((d + 1), 100, 47, [some (.inr (.inr 86)), some (.inl x1), some (.inl x2), some (.inl x3), some (.inl x4), some (.inl x5), some (.inl (w32 (x6 + 1))), none], [], (am_sh, am_mm U2))) 2 (fun _ => rfl) ?_
            exact ha2a121a1
          · have ha2a121a2 := ha2a121a.2 hc
            refine ev_seg (σ1 := ((d + 1), 100, 108, [some (.inr (.inr 86)), some (.inl x1), some (.inl x2), some (.inl x3), some (.inl x4), some (.inl x5), some (.inl x6), none], [.inl x3, .inl (-1), .inl x6, .inl x4, .inr (.inr 86)], (am_sh, am_mm U2))) 5 (fun _ => rfl) ?_
            obtain ⟨U3, ha2a121a2c, ha2a121a2a⟩ := ha2a121a2
            refine ev_cal (σc := (d, 201, 0, [some (.inr (.inr 86)), some (.inl x4), some (.inl x6), some (.inl (-1)), some (.inl x3)], [], (am_sh, am_mm U2))) (fun _ => rfl) ha2a121a2c ?_
            show Ev (am_kz N X) ((d + 1), 100, 111, [some (.inr (.inr 86)), some (.inl x1), some (.inl x2), some (.inl x3), some (.inl x4), some (.inl x5), some (.inl x6), none], [], (am_sh, am_mm U3)) R
            refine ev_seg (σ1 := ((d + 1), 100, 47, [some (.inr (.inr 86)), some (.inl x1), some (.inl x2), some (.inl x3), some (.inl x4), some (.inl x5), some (.inl (w32 (x6 + 1))), none], [], (am_sh, am_mm U3))) 3 (fun _ => rfl) ?_
            exact ha2a121a2a
        · have ha2a122 := ha2a12.2 hc
          refine ev_br (P := ¬ x2 = x6) (σ1 := ((d + 1), 100, 199, [some (.inr (.inr 86)), some (.inl x1), some (.inl x2), some (.inl x3), some (.inl x4), some (.inl x5), some (.inl x6), none], [], (am_sh, am_mm U1))) (σ2 := ((d + 1), 100, 88, [some (.inr (.inr 86)), some (.inl x1), some (.inl x2), some (.inl x3), some (.inl x4), some (.inl x5), some (.inl x6), none], [], (am_sh, am_mm U1))) 3 (fun _ => rfl) (fun hc => ?_) (fun hc => ?_)
          · have ha2a1221 := ha2a122.1 hc
            refine ev_seg (σ1 := ((d + 1), 100, 47, [some (.inr (.inr 86)), some (.inl x1), some (.inl x2), some (.inl x3), some (.inl x4), some (.inl x5), some (.inl (w32 (x6 + 1))), none], [], (am_sh, am_mm U1))) 2 (fun _ => rfl) ?_
            exact ha2a1221
          · have ha2a1222 := ha2a122.2 hc
            refine ev_seg (σ1 := ((d + 1), 100, 95, [some (.inr (.inr 86)), some (.inl x1), some (.inl x2), some (.inl x3), some (.inl x4), some (.inl x5), some (.inl x6), none], [.inr (.inl 0), .inl x6, .inl x4, .inl x1, .inr (.inr 86)], (am_sh, am_mm U1))) 5 (fun _ => rfl) ?_
            obtain ⟨r4, U4, ha2a1222c, ha2a1222a⟩ := ha2a1222
            refine ev_cal (σc := (d, 136, 0, [some (.inr (.inr 86)), some (.inl x1), some (.inl x4), some (.inl x6), some (.inr (.inl 0)), none], [], (am_sh, am_mm U1))) (fun _ => rfl) ha2a1222c ?_
            show Ev (am_kz N X) ((d + 1), 100, 98, [some (.inr (.inr 86)), some (.inl x1), some (.inl x2), some (.inl x3), some (.inl x4), some (.inl x5), some (.inl x6), none], [.inl r4], (am_sh, am_mm U4)) R
            refine ev_br (P := ¬ r4 = 0) (σ1 := ((d + 1), 100, 199, [some (.inr (.inr 86)), some (.inl x1), some (.inl x2), some (.inl x3), some (.inl x4), some (.inl x5), some (.inl x6), none], [], (am_sh, am_mm U4))) (σ2 := ((d + 1), 100, 101, [some (.inr (.inr 86)), some (.inl x1), some (.inl x2), some (.inl x3), some (.inl x4), some (.inl x5), some (.inl x6), none], [], (am_sh, am_mm U4))) 1 (fun _ => rfl) (fun hc => ?_) (fun hc => ?_)
            · have ha2a1222a1 := ha2a1222a.1 hc
              refine ev_seg (σ1 := ((d + 1), 100, 47, [some (.inr (.inr 86)), some (.inl x1), some (.inl x2), some (.inl x3), some (.inl x4), some (.inl x5), some (.inl (w32 (x6 + 1))), none], [], (am_sh, am_mm U4))) 2 (fun _ => rfl) ?_
              exact ha2a1222a1
            · have ha2a1222a2 := ha2a1222a.2 hc
              refine ev_seg (σ1 := ((d + 1), 100, 108, [some (.inr (.inr 86)), some (.inl x1), some (.inl x2), some (.inl x3), some (.inl x4), some (.inl x5), some (.inl x6), none], [.inl x3, .inl (-1), .inl x6, .inl x4, .inr (.inr 86)], (am_sh, am_mm U4))) 5 (fun _ => rfl) ?_
              obtain ⟨U5, ha2a1222a2c, ha2a1222a2a⟩ := ha2a1222a2
              refine ev_cal (σc := (d, 201, 0, [some (.inr (.inr 86)), some (.inl x4), some (.inl x6), some (.inl (-1)), some (.inl x3)], [], (am_sh, am_mm U4))) (fun _ => rfl) ha2a1222a2c ?_
              show Ev (am_kz N X) ((d + 1), 100, 111, [some (.inr (.inr 86)), some (.inl x1), some (.inl x2), some (.inl x3), some (.inl x4), some (.inl x5), some (.inl x6), none], [], (am_sh, am_mm U5)) R
              refine ev_seg (σ1 := ((d + 1), 100, 47, [some (.inr (.inr 86)), some (.inl x1), some (.inl x2), some (.inl x3), some (.inl x4), some (.inl x5), some (.inl (w32 (x6 + 1))), none], [], (am_sh, am_mm U5))) 3 (fun _ => rfl) ?_
              exact ha2a1222a2a
    · have ha2a2 := ha2a.2 hc
      refine ev_seg (σ1 := ((d + 1), 100, 47, [some (.inr (.inr 86)), some (.inl x1), some (.inl x2), some (.inl x3), some (.inl x4), some (.inl x5), some (.inl (w32 (x6 + 1))), none], [], (am_sh, am_mm U1))) 3 (fun _ => rfl) ?_
      exact ha2a2
set_option maxRecDepth 8000 in
theorem st100_86_117 (N : Nat) (X : Nat → Int) (d : Nat) (x1 x2 x3 x4 x5 x6 x7 : Int) (U : Nat → Nat → Int) (R : Option am_V × am_M) (h : (0 ≤ x1 ∧ x1 < 22) ∧ ((((U 122 x1.toNat) ≤ x7 : Prop)) → Ev (am_kz N X) ((d + 1), 100, 47, [some (.inr (.inr 86)), some (.inl x1), some (.inl x2), some (.inl x3), some (.inl x4), some (.inl x5), some (.inl (w32 (x6 + 1))), some (.inl x7)], [], (am_sh, am_mm U)) R) ∧ (¬ ((U 122 x1.toNat) ≤ x7) → (((x2 = (-1) : Prop)) → ∃ (r1 : Int) (U1 : Nat → Nat → Int), Ev (am_kz N X) (d, 202, 0, [some (.inr (.inr 86)), some (.inl x1), some (.inl x5), some (.inl x6), some (.inl x7), none, none], [], (am_sh, am_mm U)) (some (.inl r1), (am_sh, am_mm U1)) ∧ (((¬ r1 = 0 : Prop)) → ∃ (r2 : Int) (U2 : Nat → Nat → Int), Ev (am_kz N X) (d, 203, 0, [some (.inr (.inr 86)), some (.inl x1), some (.inl x7)], [], (am_sh, am_mm U1)) (some (.inl r2), (am_sh, am_mm U2)) ∧ ∃ (r3 : Int) (U3 : Nat → Nat → Int), Ev (am_kz N X) (d, 136, 0, [some (.inr (.inr 86)), some (.inl x1), some (.inl x4), some (.inl x6), some (.inr (.inl r2)), none], [], (am_sh, am_mm U2)) (some (.inl r3), (am_sh, am_mm U3)) ∧ (((¬ r3 = 0 : Prop)) → Ev (am_kz N X) ((d + 1), 100, 117, [some (.inr (.inr 86)), some (.inl x1), some (.inl x2), some (.inl x3), some (.inl x4), some (.inl x5), some (.inl x6), some (.inl (w32 (x7 + 1)))], [], (am_sh, am_mm U3)) R) ∧ (¬ (¬ r3 = 0) → ∃ U4 : Nat → Nat → Int, Ev (am_kz N X) (d, 201, 0, [some (.inr (.inr 86)), some (.inl x4), some (.inl x6), some (.inl x7), some (.inl x3)], [], (am_sh, am_mm U3)) (none, (am_sh, am_mm U4)) ∧ Ev (am_kz N X) ((d + 1), 100, 117, [some (.inr (.inr 86)), some (.inl x1), some (.inl x2), some (.inl x3), some (.inl x4), some (.inl x5), some (.inl x6), some (.inl (w32 (x7 + 1)))], [], (am_sh, am_mm U4)) R)) ∧ (¬ (¬ r1 = 0) → Ev (am_kz N X) ((d + 1), 100, 117, [some (.inr (.inr 86)), some (.inl x1), some (.inl x2), some (.inl x3), some (.inl x4), some (.inl x5), some (.inl x6), some (.inl (w32 (x7 + 1)))], [], (am_sh, am_mm U1)) R)) ∧ (¬ (x2 = (-1)) → (((x2 = x6 : Prop)) → ∃ (r5 : Int) (U5 : Nat → Nat → Int), Ev (am_kz N X) (d, 202, 0, [some (.inr (.inr 86)), some (.inl x1), some (.inl x5), some (.inl x6), some (.inl x7), none, none], [], (am_sh, am_mm U)) (some (.inl r5), (am_sh, am_mm U5)) ∧ (((¬ r5 = 0 : Prop)) → ∃ (r6 : Int) (U6 : Nat → Nat → Int), Ev (am_kz N X) (d, 203, 0, [some (.inr (.inr 86)), some (.inl x1), some (.inl x7)], [], (am_sh, am_mm U5)) (some (.inl r6), (am_sh, am_mm U6)) ∧ ∃ (r7 : Int) (U7 : Nat → Nat → Int), Ev (am_kz N X) (d, 136, 0, [some (.inr (.inr 86)), some (.inl x1), some (.inl x4), some (.inl x6), some (.inr (.inl r6)), none], [], (am_sh, am_mm U6)) (some (.inl r7), (am_sh, am_mm U7)) ∧ (((¬ r7 = 0 : Prop)) → Ev (am_kz N X) ((d + 1), 100, 117, [some (.inr (.inr 86)), some (.inl x1), some (.inl x2), some (.inl x3), some (.inl x4), some (.inl x5), some (.inl x6), some (.inl (w32 (x7 + 1)))], [], (am_sh, am_mm U7)) R) ∧ (¬ (¬ r7 = 0) → ∃ U8 : Nat → Nat → Int, Ev (am_kz N X) (d, 201, 0, [some (.inr (.inr 86)), some (.inl x4), some (.inl x6), some (.inl x7), some (.inl x3)], [], (am_sh, am_mm U7)) (none, (am_sh, am_mm U8)) ∧ Ev (am_kz N X) ((d + 1), 100, 117, [some (.inr (.inr 86)), some (.inl x1), some (.inl x2), some (.inl x3), some (.inl x4), some (.inl x5), some (.inl x6), some (.inl (w32 (x7 + 1)))], [], (am_sh, am_mm U8)) R)) ∧ (¬ (¬ r5 = 0) → Ev (am_kz N X) ((d + 1), 100, 117, [some (.inr (.inr 86)), some (.inl x1), some (.inl x2), some (.inl x3), some (.inl x4), some (.inl x5), some (.inl x6), some (.inl (w32 (x7 + 1)))], [], (am_sh, am_mm U5)) R)) ∧ (¬ (x2 = x6) → (((¬ x2 = x7 : Prop)) → Ev (am_kz N X) ((d + 1), 100, 117, [some (.inr (.inr 86)), some (.inl x1), some (.inl x2), some (.inl x3), some (.inl x4), some (.inl x5), some (.inl x6), some (.inl (w32 (x7 + 1)))], [], (am_sh, am_mm U)) R) ∧ (¬ (¬ x2 = x7) → ∃ (r9 : Int) (U9 : Nat → Nat → Int), Ev (am_kz N X) (d, 202, 0, [some (.inr (.inr 86)), some (.inl x1), some (.inl x5), some (.inl x6), some (.inl x7), none, none], [], (am_sh, am_mm U)) (some (.inl r9), (am_sh, am_mm U9)) ∧ (((¬ r9 = 0 : Prop)) → ∃ (r10 : Int) (U10 : Nat → Nat → Int), Ev (am_kz N X) (d, 203, 0, [some (.inr (.inr 86)), some (.inl x1), some (.inl x7)], [], (am_sh, am_mm U9)) (some (.inl r10), (am_sh, am_mm U10)) ∧ ∃ (r11 : Int) (U11 : Nat → Nat → Int), Ev (am_kz N X) (d, 136, 0, [some (.inr (.inr 86)), some (.inl x1), some (.inl x4), some (.inl x6), some (.inr (.inl r10)), none], [], (am_sh, am_mm U10)) (some (.inl r11), (am_sh, am_mm U11)) ∧ (((¬ r11 = 0 : Prop)) → Ev (am_kz N X) ((d + 1), 100, 117, [some (.inr (.inr 86)), some (.inl x1), some (.inl x2), some (.inl x3), some (.inl x4), some (.inl x5), some (.inl x6), some (.inl (w32 (x7 + 1)))], [], (am_sh, am_mm U11)) R) ∧ (¬ (¬ r11 = 0) → ∃ U12 : Nat → Nat → Int, Ev (am_kz N X) (d, 201, 0, [some (.inr (.inr 86)), some (.inl x4), some (.inl x6), some (.inl x7), some (.inl x3)], [], (am_sh, am_mm U11)) (none, (am_sh, am_mm U12)) ∧ Ev (am_kz N X) ((d + 1), 100, 117, [some (.inr (.inr 86)), some (.inl x1), some (.inl x2), some (.inl x3), some (.inl x4), some (.inl x5), some (.inl x6), some (.inl (w32 (x7 + 1)))], [], (am_sh, am_mm U12)) R)) ∧ (¬ (¬ r9 = 0) → Ev (am_kz N X) ((d + 1), 100, 117, [some (.inr (.inr 86)), some (.inl x1), some (.inl x2), some (.inl x3), some (.inl x4), some (.inl x5), some (.inl x6), some (.inl (w32 (x7 + 1)))], [], (am_sh, am_mm U9)) R)))))) : Ev (am_kz N X) ((d + 1), 100, 117, [some (.inr (.inr 86)), some (.inl x1), some (.inl x2), some (.inl x3), some (.inl x4), some (.inl x5), some (.inl x6), some (.inl x7)], [], (am_sh, am_mm U)) R := by
  refine ev_seg (σ1 := ((d + 1), 100, 124, [some (.inr (.inr 86)), some (.inl x1), some (.inl x2), some (.inl x3), some (.inl x4), some (.inl x5), some (.inl x6), some (.inl x7)], [.inl x1, .inr (.inr 122), .inl x7], (am_sh, am_mm U))) 4 (fun _ => rfl) ?_
  refine eu_iald 122 (n := 22) rfl (by decide) rfl (fun _ => rfl) h.1 ?_
  have ha := h.2
  refine ev_br (P := (U 122 x1.toNat) ≤ x7) (σ1 := ((d + 1), 100, 199, [some (.inr (.inr 86)), some (.inl x1), some (.inl x2), some (.inl x3), some (.inl x4), some (.inl x5), some (.inl x6), some (.inl x7)], [], (am_sh, am_mm U))) (σ2 := ((d + 1), 100, 128, [some (.inr (.inr 86)), some (.inl x1), some (.inl x2), some (.inl x3), some (.inl x4), some (.inl x5), some (.inl x6), some (.inl x7)], [], (am_sh, am_mm U))) 1 (fun _ => rfl) (fun hc => ?_) (fun hc => ?_)
  · have ha1 := ha.1 hc
    refine ev_seg (σ1 := ((d + 1), 100, 47, [some (.inr (.inr 86)), some (.inl x1), some (.inl x2), some (.inl x3), some (.inl x4), some (.inl x5), some (.inl (w32 (x6 + 1))), some (.inl x7)], [], (am_sh, am_mm U))) 2 (fun _ => rfl) ?_
    exact ha1
  · have ha2 := ha.2 hc
    refine ev_br (P := x2 = (-1)) (σ1 := ((d + 1), 100, 145, [some (.inr (.inr 86)), some (.inl x1), some (.inl x2), some (.inl x3), some (.inl x4), some (.inl x5), some (.inl x6), some (.inl x7)], [], (am_sh, am_mm U))) (σ2 := ((d + 1), 100, 133, [some (.inr (.inr 86)), some (.inl x1), some (.inl x2), some (.inl x3), some (.inl x4), some (.inl x5), some (.inl x6), some (.inl x7)], [], (am_sh, am_mm U))) 3 (fun _ => rfl) (fun hc => ?_) (fun hc => ?_)
    · have ha21 := ha2.1 hc
      refine ev_seg (σ1 := ((d + 1), 100, 153, [some (.inr (.inr 86)), some (.inl x1), some (.inl x2), some (.inl x3), some (.inl x4), some (.inl x5), some (.inl x6), some (.inl x7)], [.inl x7, .inl x6, .inl x5, .inl x1, .inr (.inr 86)], (am_sh, am_mm U))) 5 (fun _ => rfl) ?_
      obtain ⟨r1, U1, ha21c, ha21a⟩ := ha21
      refine ev_cal (σc := (d, 202, 0, [some (.inr (.inr 86)), some (.inl x1), some (.inl x5), some (.inl x6), some (.inl x7), none, none], [], (am_sh, am_mm U))) (fun _ => rfl) ha21c ?_
      show Ev (am_kz N X) ((d + 1), 100, 156, [some (.inr (.inr 86)), some (.inl x1), some (.inl x2), some (.inl x3), some (.inl x4), some (.inl x5), some (.inl x6), some (.inl x7)], [.inl r1], (am_sh, am_mm U1)) R
      refine ev_br (P := ¬ r1 = 0) (σ1 := ((d + 1), 100, 162, [some (.inr (.inr 86)), some (.inl x1), some (.inl x2), some (.inl x3), some (.inl x4), some (.inl x5), some (.inl x6), some (.inl x7)], [], (am_sh, am_mm U1))) (σ2 := ((d + 1), 100, 159, [some (.inr (.inr 86)), some (.inl x1), some (.inl x2), some (.inl x3), some (.inl x4), some (.inl x5), some (.inl x6), some (.inl x7)], [], (am_sh, am_mm U1))) 1 (fun _ => rfl) (fun hc => ?_) (fun hc => ?_)
      · have ha21a1 := ha21a.1 hc
        refine ev_seg (σ1 := ((d + 1), 100, 172, [some (.inr (.inr 86)), some (.inl x1), some (.inl x2), some (.inl x3), some (.inl x4), some (.inl x5), some (.inl x6), some (.inl x7)], [.inl x7, .inl x1, .inr (.inr 86), .inl x6, .inl x4, .inl x1, .inr (.inr 86)], (am_sh, am_mm U1))) 7 (fun _ => rfl) ?_
        obtain ⟨r2, U2, ha21a1c, ha21a1a⟩ := ha21a1
        refine ev_cal (σc := (d, 203, 0, [some (.inr (.inr 86)), some (.inl x1), some (.inl x7)], [], (am_sh, am_mm U1))) (fun _ => rfl) ha21a1c ?_
        show Ev (am_kz N X) ((d + 1), 100, 175, [some (.inr (.inr 86)), some (.inl x1), some (.inl x2), some (.inl x3), some (.inl x4), some (.inl x5), some (.inl x6), some (.inl x7)], [.inl r2, .inl x6, .inl x4, .inl x1, .inr (.inr 86)], (am_sh, am_mm U2)) R
        refine ev_seg (σ1 := ((d + 1), 100, 176, [some (.inr (.inr 86)), some (.inl x1), some (.inl x2), some (.inl x3), some (.inl x4), some (.inl x5), some (.inl x6), some (.inl x7)], [.inr (.inl r2), .inl x6, .inl x4, .inl x1, .inr (.inr 86)], (am_sh, am_mm U2))) 1 (fun _ => rfl) ?_
        obtain ⟨r3, U3, ha21a1ac, ha21a1aa⟩ := ha21a1a
        refine ev_cal (σc := (d, 136, 0, [some (.inr (.inr 86)), some (.inl x1), some (.inl x4), some (.inl x6), some (.inr (.inl r2)), none], [], (am_sh, am_mm U2))) (fun _ => rfl) ha21a1ac ?_
        show Ev (am_kz N X) ((d + 1), 100, 179, [some (.inr (.inr 86)), some (.inl x1), some (.inl x2), some (.inl x3), some (.inl x4), some (.inl x5), some (.inl x6), some (.inl x7)], [.inl r3], (am_sh, am_mm U3)) R
        refine ev_br (P := ¬ r3 = 0) (σ1 := ((d + 1), 100, 193, [some (.inr (.inr 86)), some (.inl x1), some (.inl x2), some (.inl x3), some (.inl x4), some (.inl x5), some (.inl x6), some (.inl x7)], [], (am_sh, am_mm U3))) (σ2 := ((d + 1), 100, 182, [some (.inr (.inr 86)), some (.inl x1), some (.inl x2), some (.inl x3), some (.inl x4), some (.inl x5), some (.inl x6), some (.inl x7)], [], (am_sh, am_mm U3))) 1 (fun _ => rfl) (fun hc => ?_) (fun hc => ?_)
        · have ha21a1aa1 := ha21a1aa.1 hc
          refine ev_seg (σ1 := ((d + 1), 100, 117, [some (.inr (.inr 86)), some (.inl x1), some (.inl x2), some (.inl x3), some (.inl x4), some (.inl x5), some (.inl x6), some (.inl (w32 (x7 + 1)))], [], (am_sh, am_mm U3))) 2 (fun _ => rfl) ?_
          exact ha21a1aa1
        · have ha21a1aa2 := ha21a1aa.2 hc
          refine ev_seg (σ1 := ((d + 1), 100, 190, [some (.inr (.inr 86)), some (.inl x1), some (.inl x2), some (.inl x3), some (.inl x4), some (.inl x5), some (.inl x6), some (.inl x7)], [.inl x3, .inl x7, .inl x6, .inl x4, .inr (.inr 86)], (am_sh, am_mm U3))) 5 (fun _ => rfl) ?_
          obtain ⟨U4, ha21a1aa2c, ha21a1aa2a⟩ := ha21a1aa2
          refine ev_cal (σc := (d, 201, 0, [some (.inr (.inr 86)), some (.inl x4), some (.inl x6), some (.inl x7), some (.inl x3)], [], (am_sh, am_mm U3))) (fun _ => rfl) ha21a1aa2c ?_
          show Ev (am_kz N X) ((d + 1), 100, 193, [some (.inr (.inr 86)), some (.inl x1), some (.inl x2), some (.inl x3), some (.inl x4), some (.inl x5), some (.inl x6), some (.inl x7)], [], (am_sh, am_mm U4)) R
          refine ev_seg (σ1 := ((d + 1), 100, 117, [some (.inr (.inr 86)), some (.inl x1), some (.inl x2), some (.inl x3), some (.inl x4), some (.inl x5), some (.inl x6), some (.inl (w32 (x7 + 1)))], [], (am_sh, am_mm U4))) 2 (fun _ => rfl) ?_
          exact ha21a1aa2a
      · have ha21a2 := ha21a.2 hc
        refine ev_seg (σ1 := ((d + 1), 100, 117, [some (.inr (.inr 86)), some (.inl x1), some (.inl x2), some (.inl x3), some (.inl x4), some (.inl x5), some (.inl x6), some (.inl (w32 (x7 + 1)))], [], (am_sh, am_mm U1))) 3 (fun _ => rfl) ?_
        exact ha21a2
    · have ha22 := ha2.2 hc
      refine ev_br (P := x2 = x6) (σ1 := ((d + 1), 100, 145, [some (.inr (.inr 86)), some (.inl x1), some (.inl x2), some (.inl x3), some (.inl x4), some (.inl x5), some (.inl x6), some (.inl x7)], [], (am_sh, am_mm U))) (σ2 := ((d + 1), 100, 139, [some (.inr (.inr 86)), some (.inl x1), some (.inl x2), some (.inl x3), some (.inl x4), some (.inl x5), some (.inl x6), some (.inl x7)], [], (am_sh, am_mm U))) 3 (fun _ => rfl) (fun hc => ?_) (fun hc => ?_)
      · have ha221 := ha22.1 hc
        refine ev_seg (σ1 := ((d + 1), 100, 153, [some (.inr (.inr 86)), some (.inl x1), some (.inl x2), some (.inl x3), some (.inl x4), some (.inl x5), some (.inl x6), some (.inl x7)], [.inl x7, .inl x6, .inl x5, .inl x1, .inr (.inr 86)], (am_sh, am_mm U))) 5 (fun _ => rfl) ?_
        obtain ⟨r5, U5, ha221c, ha221a⟩ := ha221
        refine ev_cal (σc := (d, 202, 0, [some (.inr (.inr 86)), some (.inl x1), some (.inl x5), some (.inl x6), some (.inl x7), none, none], [], (am_sh, am_mm U))) (fun _ => rfl) ha221c ?_
        show Ev (am_kz N X) ((d + 1), 100, 156, [some (.inr (.inr 86)), some (.inl x1), some (.inl x2), some (.inl x3), some (.inl x4), some (.inl x5), some (.inl x6), some (.inl x7)], [.inl r5], (am_sh, am_mm U5)) R
        refine ev_br (P := ¬ r5 = 0) (σ1 := ((d + 1), 100, 162, [some (.inr (.inr 86)), some (.inl x1), some (.inl x2), some (.inl x3), some (.inl x4), some (.inl x5), some (.inl x6), some (.inl x7)], [], (am_sh, am_mm U5))) (σ2 := ((d + 1), 100, 159, [some (.inr (.inr 86)), some (.inl x1), some (.inl x2), some (.inl x3), some (.inl x4), some (.inl x5), some (.inl x6), some (.inl x7)], [], (am_sh, am_mm U5))) 1 (fun _ => rfl) (fun hc => ?_) (fun hc => ?_)
        · have ha221a1 := ha221a.1 hc
          refine ev_seg (σ1 := ((d + 1), 100, 172, [some (.inr (.inr 86)), some (.inl x1), some (.inl x2), some (.inl x3), some (.inl x4), some (.inl x5), some (.inl x6), some (.inl x7)], [.inl x7, .inl x1, .inr (.inr 86), .inl x6, .inl x4, .inl x1, .inr (.inr 86)], (am_sh, am_mm U5))) 7 (fun _ => rfl) ?_
          obtain ⟨r6, U6, ha221a1c, ha221a1a⟩ := ha221a1
          refine ev_cal (σc := (d, 203, 0, [some (.inr (.inr 86)), some (.inl x1), some (.inl x7)], [], (am_sh, am_mm U5))) (fun _ => rfl) ha221a1c ?_
          show Ev (am_kz N X) ((d + 1), 100, 175, [some (.inr (.inr 86)), some (.inl x1), some (.inl x2), some (.inl x3), some (.inl x4), some (.inl x5), some (.inl x6), some (.inl x7)], [.inl r6, .inl x6, .inl x4, .inl x1, .inr (.inr 86)], (am_sh, am_mm U6)) R
          refine ev_seg (σ1 := ((d + 1), 100, 176, [some (.inr (.inr 86)), some (.inl x1), some (.inl x2), some (.inl x3), some (.inl x4), some (.inl x5), some (.inl x6), some (.inl x7)], [.inr (.inl r6), .inl x6, .inl x4, .inl x1, .inr (.inr 86)], (am_sh, am_mm U6))) 1 (fun _ => rfl) ?_
          obtain ⟨r7, U7, ha221a1ac, ha221a1aa⟩ := ha221a1a
          refine ev_cal (σc := (d, 136, 0, [some (.inr (.inr 86)), some (.inl x1), some (.inl x4), some (.inl x6), some (.inr (.inl r6)), none], [], (am_sh, am_mm U6))) (fun _ => rfl) ha221a1ac ?_
          show Ev (am_kz N X) ((d + 1), 100, 179, [some (.inr (.inr 86)), some (.inl x1), some (.inl x2), some (.inl x3), some (.inl x4), some (.inl x5), some (.inl x6), some (.inl x7)], [.inl r7], (am_sh, am_mm U7)) R
          refine ev_br (P := ¬ r7 = 0) (σ1 := ((d + 1), 100, 193, [some (.inr (.inr 86)), some (.inl x1), some (.inl x2), some (.inl x3), some (.inl x4), some (.inl x5), some (.inl x6), some (.inl x7)], [], (am_sh, am_mm U7))) (σ2 := ((d + 1), 100, 182, [some (.inr (.inr 86)), some (.inl x1), some (.inl x2), some (.inl x3), some (.inl x4), some (.inl x5), some (.inl x6), some (.inl x7)], [], (am_sh, am_mm U7))) 1 (fun _ => rfl) (fun hc => ?_) (fun hc => ?_)
          · have ha221a1aa1 := ha221a1aa.1 hc
            refine ev_seg (σ1 := ((d + 1), 100, 117, [some (.inr (.inr 86)), some (.inl x1), some (.inl x2), some (.inl x3), some (.inl x4), some (.inl x5), some (.inl x6), some (.inl (w32 (x7 + 1)))], [], (am_sh, am_mm U7))) 2 (fun _ => rfl) ?_
            exact ha221a1aa1
          · have ha221a1aa2 := ha221a1aa.2 hc
            refine ev_seg (σ1 := ((d + 1), 100, 190, [some (.inr (.inr 86)), some (.inl x1), some (.inl x2), some (.inl x3), some (.inl x4), some (.inl x5), some (.inl x6), some (.inl x7)], [.inl x3, .inl x7, .inl x6, .inl x4, .inr (.inr 86)], (am_sh, am_mm U7))) 5 (fun _ => rfl) ?_
            obtain ⟨U8, ha221a1aa2c, ha221a1aa2a⟩ := ha221a1aa2
            refine ev_cal (σc := (d, 201, 0, [some (.inr (.inr 86)), some (.inl x4), some (.inl x6), some (.inl x7), some (.inl x3)], [], (am_sh, am_mm U7))) (fun _ => rfl) ha221a1aa2c ?_
            show Ev (am_kz N X) ((d + 1), 100, 193, [some (.inr (.inr 86)), some (.inl x1), some (.inl x2), some (.inl x3), some (.inl x4), some (.inl x5), some (.inl x6), some (.inl x7)], [], (am_sh, am_mm U8)) R
            refine ev_seg (σ1 := ((d + 1), 100, 117, [some (.inr (.inr 86)), some (.inl x1), some (.inl x2), some (.inl x3), some (.inl x4), some (.inl x5), some (.inl x6), some (.inl (w32 (x7 + 1)))], [], (am_sh, am_mm U8))) 2 (fun _ => rfl) ?_
            exact ha221a1aa2a
        · have ha221a2 := ha221a.2 hc
          refine ev_seg (σ1 := ((d + 1), 100, 117, [some (.inr (.inr 86)), some (.inl x1), some (.inl x2), some (.inl x3), some (.inl x4), some (.inl x5), some (.inl x6), some (.inl (w32 (x7 + 1)))], [], (am_sh, am_mm U5))) 3 (fun _ => rfl) ?_
          exact ha221a2
      · have ha222 := ha22.2 hc
        refine ev_br (P := ¬ x2 = x7) (σ1 := ((d + 1), 100, 193, [some (.inr (.inr 86)), some (.inl x1), some (.inl x2), some (.inl x3), some (.inl x4), some (.inl x5), some (.inl x6), some (.inl x7)], [], (am_sh, am_mm U))) (σ2 := ((d + 1), 100, 145, [some (.inr (.inr 86)), some (.inl x1), some (.inl x2), some (.inl x3), some (.inl x4), some (.inl x5), some (.inl x6), some (.inl x7)], [], (am_sh, am_mm U))) 3 (fun _ => rfl) (fun hc => ?_) (fun hc => ?_)
        · have ha2221 := ha222.1 hc
          refine ev_seg (σ1 := ((d + 1), 100, 117, [some (.inr (.inr 86)), some (.inl x1), some (.inl x2), some (.inl x3), some (.inl x4), some (.inl x5), some (.inl x6), some (.inl (w32 (x7 + 1)))], [], (am_sh, am_mm U))) 2 (fun _ => rfl) ?_
          exact ha2221
        · have ha2222 := ha222.2 hc
          refine ev_seg (σ1 := ((d + 1), 100, 153, [some (.inr (.inr 86)), some (.inl x1), some (.inl x2), some (.inl x3), some (.inl x4), some (.inl x5), some (.inl x6), some (.inl x7)], [.inl x7, .inl x6, .inl x5, .inl x1, .inr (.inr 86)], (am_sh, am_mm U))) 5 (fun _ => rfl) ?_
          obtain ⟨r9, U9, ha2222c, ha2222a⟩ := ha2222
          refine ev_cal (σc := (d, 202, 0, [some (.inr (.inr 86)), some (.inl x1), some (.inl x5), some (.inl x6), some (.inl x7), none, none], [], (am_sh, am_mm U))) (fun _ => rfl) ha2222c ?_
          show Ev (am_kz N X) ((d + 1), 100, 156, [some (.inr (.inr 86)), some (.inl x1), some (.inl x2), some (.inl x3), some (.inl x4), some (.inl x5), some (.inl x6), some (.inl x7)], [.inl r9], (am_sh, am_mm U9)) R
          refine ev_br (P := ¬ r9 = 0) (σ1 := ((d + 1), 100, 162, [some (.inr (.inr 86)), some (.inl x1), some (.inl x2), some (.inl x3), some (.inl x4), some (.inl x5), some (.inl x6), some (.inl x7)], [], (am_sh, am_mm U9))) (σ2 := ((d + 1), 100, 159, [some (.inr (.inr 86)), some (.inl x1), some (.inl x2), some (.inl x3), some (.inl x4), some (.inl x5), some (.inl x6), some (.inl x7)], [], (am_sh, am_mm U9))) 1 (fun _ => rfl) (fun hc => ?_) (fun hc => ?_)
          · have ha2222a1 := ha2222a.1 hc
            refine ev_seg (σ1 := ((d + 1), 100, 172, [some (.inr (.inr 86)), some (.inl x1), some (.inl x2), some (.inl x3), some (.inl x4), some (.inl x5), some (.inl x6), some (.inl x7)], [.inl x7, .inl x1, .inr (.inr 86), .inl x6, .inl x4, .inl x1, .inr (.inr 86)], (am_sh, am_mm U9))) 7 (fun _ => rfl) ?_
            obtain ⟨r10, U10, ha2222a1c, ha2222a1a⟩ := ha2222a1
            refine ev_cal (σc := (d, 203, 0, [some (.inr (.inr 86)), some (.inl x1), some (.inl x7)], [], (am_sh, am_mm U9))) (fun _ => rfl) ha2222a1c ?_
            show Ev (am_kz N X) ((d + 1), 100, 175, [some (.inr (.inr 86)), some (.inl x1), some (.inl x2), some (.inl x3), some (.inl x4), some (.inl x5), some (.inl x6), some (.inl x7)], [.inl r10, .inl x6, .inl x4, .inl x1, .inr (.inr 86)], (am_sh, am_mm U10)) R
            refine ev_seg (σ1 := ((d + 1), 100, 176, [some (.inr (.inr 86)), some (.inl x1), some (.inl x2), some (.inl x3), some (.inl x4), some (.inl x5), some (.inl x6), some (.inl x7)], [.inr (.inl r10), .inl x6, .inl x4, .inl x1, .inr (.inr 86)], (am_sh, am_mm U10))) 1 (fun _ => rfl) ?_
            obtain ⟨r11, U11, ha2222a1ac, ha2222a1aa⟩ := ha2222a1a
            refine ev_cal (σc := (d, 136, 0, [some (.inr (.inr 86)), some (.inl x1), some (.inl x4), some (.inl x6), some (.inr (.inl r10)), none], [], (am_sh, am_mm U10))) (fun _ => rfl) ha2222a1ac ?_
            show Ev (am_kz N X) ((d + 1), 100, 179, [some (.inr (.inr 86)), some (.inl x1), some (.inl x2), some (.inl x3), some (.inl x4), some (.inl x5), some (.inl x6), some (.inl x7)], [.inl r11], (am_sh, am_mm U11)) R
            refine ev_br (P := ¬ r11 = 0) (σ1 := ((d + 1), 100, 193, [some (.inr (.inr 86)), some (.inl x1), some (.inl x2), some (.inl x3), some (.inl x4), some (.inl x5), some (.inl x6), some (.inl x7)], [], (am_sh, am_mm U11))) (σ2 := ((d + 1), 100, 182, [some (.inr (.inr 86)), some (.inl x1), some (.inl x2), some (.inl x3), some (.inl x4), some (.inl x5), some (.inl x6), some (.inl x7)], [], (am_sh, am_mm U11))) 1 (fun _ => rfl) (fun hc => ?_) (fun hc => ?_)
            · have ha2222a1aa1 := ha2222a1aa.1 hc
              refine ev_seg (σ1 := ((d + 1), 100, 117, [some (.inr (.inr 86)), some (.inl x1), some (.inl x2), some (.inl x3), some (.inl x4), some (.inl x5), some (.inl x6), some (.inl (w32 (x7 + 1)))], [], (am_sh, am_mm U11))) 2 (fun _ => rfl) ?_
              exact ha2222a1aa1
            · have ha2222a1aa2 := ha2222a1aa.2 hc
              refine ev_seg (σ1 := ((d + 1), 100, 190, [some (.inr (.inr 86)), some (.inl x1), some (.inl x2), some (.inl x3), some (.inl x4), some (.inl x5), some (.inl x6), some (.inl x7)], [.inl x3, .inl x7, .inl x6, .inl x4, .inr (.inr 86)], (am_sh, am_mm U11))) 5 (fun _ => rfl) ?_
              obtain ⟨U12, ha2222a1aa2c, ha2222a1aa2a⟩ := ha2222a1aa2
              refine ev_cal (σc := (d, 201, 0, [some (.inr (.inr 86)), some (.inl x4), some (.inl x6), some (.inl x7), some (.inl x3)], [], (am_sh, am_mm U11))) (fun _ => rfl) ha2222a1aa2c ?_
              show Ev (am_kz N X) ((d + 1), 100, 193, [some (.inr (.inr 86)), some (.inl x1), some (.inl x2), some (.inl x3), some (.inl x4), some (.inl x5), some (.inl x6), some (.inl x7)], [], (am_sh, am_mm U12)) R
              refine ev_seg (σ1 := ((d + 1), 100, 117, [some (.inr (.inr 86)), some (.inl x1), some (.inl x2), some (.inl x3), some (.inl x4), some (.inl x5), some (.inl x6), some (.inl (w32 (x7 + 1)))], [], (am_sh, am_mm U12))) 2 (fun _ => rfl) ?_
              exact ha2222a1aa2a
          · have ha2222a2 := ha2222a.2 hc
            refine ev_seg (σ1 := ((d + 1), 100, 117, [some (.inr (.inr 86)), some (.inl x1), some (.inl x2), some (.inl x3), some (.inl x4), some (.inl x5), some (.inl x6), some (.inl (w32 (x7 + 1)))], [], (am_sh, am_mm U9))) 3 (fun _ => rfl) ?_
            exact ha2222a2
set_option maxRecDepth 8000 in
theorem st101_0 (N : Nat) (X : Nat → Int) (d : Nat) (x0 x1 : Int) (U : Nat → Nat → Int) (R : Option am_V × am_M) (h : R = (some (.inl (am_and (am_shr x0 (w32 (25 - (w32 (5 * x1))))) 31)), (am_sh, am_mm U))) : Ev (am_kz N X) (d, 101, 0, [some (.inl x0), some (.inl x1)], [], (am_sh, am_mm U)) R := by
  subst h
  exact ev_end 10 (fun _ => rfl)
set_option maxRecDepth 8000 in
theorem st102_1_0 (N : Nat) (X : Nat → Int) (d : Nat) (x1 : Int) (U : Nat → Nat → Int) (R : Option am_V × am_M) (h : (((x1 < 0 : Prop)) → R = (some (.inl 0), (am_sh, am_mm U))) ∧ (¬ (x1 < 0) → ((((U 3 1) ≤ x1 : Prop)) → R = (some (.inl 0), (am_sh, am_mm U))) ∧ (¬ ((U 3 1) ≤ x1) → R = (some (.inl 1), (am_sh, am_mm U))))) : Ev (am_kz N X) (d, 102, 0, [some (.inr (.inr 1)), some (.inl x1)], [], (am_sh, am_mm U)) R := by
  refine ev_br (P := x1 < 0) (σ1 := (d, 102, 19, [some (.inr (.inr 1)), some (.inl x1)], [], (am_sh, am_mm U))) (σ2 := (d, 102, 4, [some (.inr (.inr 1)), some (.inl x1)], [], (am_sh, am_mm U))) 2 (fun _ => rfl) (fun hc => ?_) (fun hc => ?_)
  · have h1 := h.1 hc
    subst h1
    exact ev_end 2 (fun _ => rfl)
  · have h2 := h.2 hc
    refine ev_br (P := (U 3 1) ≤ x1) (σ1 := (d, 102, 19, [some (.inr (.inr 1)), some (.inl x1)], [], (am_sh, am_mm U))) (σ2 := (d, 102, 15, [some (.inr (.inr 1)), some (.inl x1)], [], (am_sh, am_mm U))) 5 (fun _ => rfl) (fun hc => ?_) (fun hc => ?_)
    · have h21 := h2.1 hc
      subst h21
      exact ev_end 2 (fun _ => rfl)
    · have h22 := h2.2 hc
      subst h22
      exact ev_end 3 (fun _ => rfl)
set_option maxRecDepth 8000 in
theorem st103_0 (N : Nat) (X : Nat → Int) (d : Nat) (x0 x1 x2 : Int) (U : Nat → Nat → Int) (R : Option am_V × am_M) (h : (((x0 < x1 : Prop)) → R = (some (.inl 0), (am_sh, am_mm U))) ∧ (¬ (x0 < x1) → (((x2 < x0 : Prop)) → R = (some (.inl 0), (am_sh, am_mm U))) ∧ (¬ (x2 < x0) → R = (some (.inl 1), (am_sh, am_mm U))))) : Ev (am_kz N X) (d, 103, 0, [some (.inl x0), some (.inl x1), some (.inl x2)], [], (am_sh, am_mm U)) R := by
  refine ev_br (P := x0 < x1) (σ1 := (d, 103, 14, [some (.inl x0), some (.inl x1), some (.inl x2)], [], (am_sh, am_mm U))) (σ2 := (d, 103, 5, [some (.inl x0), some (.inl x1), some (.inl x2)], [], (am_sh, am_mm U))) 3 (fun _ => rfl) (fun hc => ?_) (fun hc => ?_)
  · have h1 := h.1 hc
    subst h1
    exact ev_end 2 (fun _ => rfl)
  · have h2 := h.2 hc
    refine ev_br (P := x2 < x0) (σ1 := (d, 103, 14, [some (.inl x0), some (.inl x1), some (.inl x2)], [], (am_sh, am_mm U))) (σ2 := (d, 103, 10, [some (.inl x0), some (.inl x1), some (.inl x2)], [], (am_sh, am_mm U))) 3 (fun _ => rfl) (fun hc => ?_) (fun hc => ?_)
    · have h21 := h2.1 hc
      subst h21
      exact ev_end 2 (fun _ => rfl)
    · have h22 := h2.2 hc
      subst h22
      exact ev_end 3 (fun _ => rfl)
set_option maxRecDepth 8000 in
theorem st104_86_0 (N : Nat) (X : Nat → Int) (d : Nat) (x1 x2 : Int) (U : Nat → Nat → Int) (R : Option am_V × am_M) (h : (((¬ x2 = 0 : Prop)) → (0 ≤ x1 ∧ x1 < 2) ∧ R = (some (.inl (U 90 x1.toNat)), (am_sh, am_mm U))) ∧ (¬ (¬ x2 = 0) → (0 ≤ x1 ∧ x1 < 2) ∧ R = (some (.inl (U 88 x1.toNat)), (am_sh, am_mm U)))) : Ev (am_kz N X) (d, 104, 0, [some (.inr (.inr 86)), some (.inl x1), some (.inl x2)], [], (am_sh, am_mm U)) R := by
  refine ev_br (P := ¬ x2 = 0) (σ1 := (d, 104, 13, [some (.inr (.inr 86)), some (.inl x1), some (.inl x2)], [], (am_sh, am_mm U))) (σ2 := (d, 104, 4, [some (.inr (.inr 86)), some (.inl x1), some (.inl x2)], [], (am_sh, am_mm U))) 2 (fun _ => rfl) (fun hc => ?_) (fun hc => ?_)
  · have h1 := h.1 hc
    refine ev_seg (σ1 := (d, 104, 18, [some (.inr (.inr 86)), some (.inl x1), some (.inl x2)], [.inl x1, .inr (.inr 90)], (am_sh, am_mm U))) 3 (fun _ => rfl) ?_
    refine eu_iald 90 (n := 2) rfl (by decide) rfl (fun _ => rfl) h1.1 ?_
    have h1a := h1.2
    subst h1a
    exact ev_end 1 (fun _ => rfl)
  · have h2 := h.2 hc
    refine ev_seg (σ1 := (d, 104, 9, [some (.inr (.inr 86)), some (.inl x1), some (.inl x2)], [.inl x1, .inr (.inr 88)], (am_sh, am_mm U))) 3 (fun _ => rfl) ?_
    refine eu_iald 88 (n := 2) rfl (by decide) rfl (fun _ => rfl) h2.1 ?_
    have h2a := h2.2
    subst h2a
    exact ev_end 2 (fun _ => rfl)
set_option maxRecDepth 8000 in
theorem st105_86_0 (N : Nat) (X : Nat → Int) (d : Nat) (x1 x2 x3 : Int) (U : Nat → Nat → Int) (R : Option am_V × am_M) (h : (((¬ x2 = 0 : Prop)) → (0 ≤ (w32 ((w32 (12 * x1)) + x3)) ∧ (w32 ((w32 (12 * x1)) + x3)) < 24) ∧ R = (some (.inr (.inl (U 91 (w32 ((w32 (12 * x1)) + x3)).toNat))), (am_sh, am_mm U))) ∧ (¬ (¬ x2 = 0) → (0 ≤ (w32 ((w32 (4 * x1)) + x3)) ∧ (w32 ((w32 (4 * x1)) + x3)) < 8) ∧ R = (some (.inr (.inl (U 89 (w32 ((w32 (4 * x1)) + x3)).toNat))), (am_sh, am_mm U)))) : Ev (am_kz N X) (d, 105, 0, [some (.inr (.inr 86)), some (.inl x1), some (.inl x2), some (.inl x3)], [], (am_sh, am_mm U)) R := by
  refine ev_br (P := ¬ x2 = 0) (σ1 := (d, 105, 17, [some (.inr (.inr 86)), some (.inl x1), some (.inl x2), some (.inl x3)], [], (am_sh, am_mm U))) (σ2 := (d, 105, 4, [some (.inr (.inr 86)), some (.inl x1), some (.inl x2), some (.inl x3)], [], (am_sh, am_mm U))) 2 (fun _ => rfl) (fun hc => ?_) (fun hc => ?_)
  · have h1 := h.1 hc
    refine ev_seg (σ1 := (d, 105, 27, [some (.inr (.inr 86)), some (.inl x1), some (.inl x2), some (.inl x3)], [.inl (w32 ((w32 (12 * x1)) + x3)), .inr (.inr 91)], (am_sh, am_mm U))) 7 (fun _ => rfl) ?_
    refine eu_lald 91 (n := 24) rfl (by decide) rfl (fun _ => rfl) h1.1 ?_
    have h1a := h1.2
    subst h1a
    exact ev_end 1 (fun _ => rfl)
  · have h2 := h.2 hc
    refine ev_seg (σ1 := (d, 105, 13, [some (.inr (.inr 86)), some (.inl x1), some (.inl x2), some (.inl x3)], [.inl (w32 ((w32 (4 * x1)) + x3)), .inr (.inr 89)], (am_sh, am_mm U))) 7 (fun _ => rfl) ?_
    refine eu_lald 89 (n := 8) rfl (by decide) rfl (fun _ => rfl) h2.1 ?_
    have h2a := h2.2
    subst h2a
    exact ev_end 2 (fun _ => rfl)
set_option maxRecDepth 8000 in
theorem st106_16_0 (N : Nat) (X : Nat → Int) (d : Nat) (x1 : Int) (U : Nat → Nat → Int) (R : Option am_V × am_M) (h : (0 ≤ x1 ∧ x1 < 12) ∧ ∃ (r1 : Int) (U1 : Nat → Nat → Int), Ev (am_kz N X) (d, 98, 0, [some (.inl (U 19 x1.toNat))], [], (am_sh, am_mm U)) (some (.inl r1), (am_sh, am_mm U1)) ∧ R = (some (.inl r1), (am_sh, am_mm U1))) : Ev (am_kz N X) ((d + 1), 106, 0, [some (.inr (.inr 16)), some (.inl x1)], [], (am_sh, am_mm U)) R := by
  refine ev_seg (σ1 := ((d + 1), 106, 5, [some (.inr (.inr 16)), some (.inl x1)], [.inl x1, .inr (.inr 19)], (am_sh, am_mm U))) 3 (fun _ => rfl) ?_
  refine eu_iald 19 (n := 12) rfl (by decide) rfl (fun _ => rfl) h.1 ?_
  have ha := h.2
  obtain ⟨r1, U1, hac, haa⟩ := ha
  refine ev_cal (σc := (d, 98, 0, [some (.inl (U 19 x1.toNat))], [], (am_sh, am_mm U))) (fun _ => rfl) hac ?_
  show Ev (am_kz N X) ((d + 1), 106, 9, [some (.inr (.inr 16)), some (.inl x1)], [.inl r1], (am_sh, am_mm U1)) R
  subst haa
  exact ev_end 1 (fun _ => rfl)
set_option maxRecDepth 8000 in
theorem st107_0 (N : Nat) (X : Nat → Int) (d : Nat) (x0 x1 : Int) (U : Nat → Nat → Int) (R : Option am_V × am_M) (h : (((0 ≤ x1 : Prop)) → Ev (am_kz N X) (d, 107, 10, [some (.inl x0), some (.inl x1), some (.inl x1), some (.inl 0)], [], (am_sh, am_mm U)) R) ∧ (¬ (0 ≤ x1) → R = (some (.inl (-1)), (am_sh, am_mm U)))) : Ev (am_kz N X) (d, 107, 0, [some (.inl x0), some (.inl x1), none, none], [], (am_sh, am_mm U)) R := by
  refine ev_br (P := 0 ≤ x1) (σ1 := (d, 107, 6, [some (.inl x0), some (.inl x1), none, none], [], (am_sh, am_mm U))) (σ2 := (d, 107, 4, [some (.inl x0), some (.inl x1), none, none], [], (am_sh, am_mm U))) 2 (fun _ => rfl) (fun hc => ?_) (fun hc => ?_)
  · have h1 := h.1 hc
    refine ev_seg (σ1 := (d, 107, 10, [some (.inl x0), some (.inl x1), some (.inl x1), some (.inl 0)], [], (am_sh, am_mm U))) 4 (fun _ => rfl) ?_
    exact h1
  · have h2 := h.2 hc
    subst h2
    exact ev_end 2 (fun _ => rfl)
set_option maxRecDepth 8000 in
theorem st107_10 (N : Nat) (X : Nat → Int) (d : Nat) (x0 x1 x2 x3 : Int) (U : Nat → Nat → Int) (R : Option am_V × am_M) (h : (((32 ≤ x3 : Prop)) → R = (some (.inl (-1)), (am_sh, am_mm U))) ∧ (¬ (32 ≤ x3) → (((¬ (am_and (am_ushr x0 x3) 1) = 1 : Prop)) → Ev (am_kz N X) (d, 107, 10, [some (.inl x0), some (.inl x1), some (.inl x2), some (.inl (w32 (x3 + 1)))], [], (am_sh, am_mm U)) R) ∧ (¬ (¬ (am_and (am_ushr x0 x3) 1) = 1) → (((¬ x2 = 0 : Prop)) → Ev (am_kz N X) (d, 107, 10, [some (.inl x0), some (.inl x1), some (.inl (w32 (x2 + (-1)))), some (.inl (w32 (x3 + 1)))], [], (am_sh, am_mm U)) R) ∧ (¬ (¬ x2 = 0) → R = (some (.inl x3), (am_sh, am_mm U)))))) : Ev (am_kz N X) (d, 107, 10, [some (.inl x0), some (.inl x1), some (.inl x2), some (.inl x3)], [], (am_sh, am_mm U)) R := by
  refine ev_br (P := 32 ≤ x3) (σ1 := (d, 107, 40, [some (.inl x0), some (.inl x1), some (.inl x2), some (.inl x3)], [], (am_sh, am_mm U))) (σ2 := (d, 107, 16, [some (.inl x0), some (.inl x1), some (.inl x2), some (.inl x3)], [], (am_sh, am_mm U))) 3 (fun _ => rfl) (fun hc => ?_) (fun hc => ?_)
  · have h1 := h.1 hc
    subst h1
    exact ev_end 2 (fun _ => rfl)
  · have h2 := h.2 hc
    refine ev_br (P := ¬ (am_and (am_ushr x0 x3) 1) = 1) (σ1 := (d, 107, 34, [some (.inl x0), some (.inl x1), some (.inl x2), some (.inl x3)], [], (am_sh, am_mm U))) (σ2 := (d, 107, 25, [some (.inl x0), some (.inl x1), some (.inl x2), some (.inl x3)], [], (am_sh, am_mm U))) 7 (fun _ => rfl) (fun hc => ?_) (fun hc => ?_)
    · have h21 := h2.1 hc
      refine ev_seg (σ1 := (d, 107, 10, [some (.inl x0), some (.inl x1), some (.inl x2), some (.inl (w32 (x3 + 1)))], [], (am_sh, am_mm U))) 2 (fun _ => rfl) ?_
      exact h21
    · have h22 := h2.2 hc
      refine ev_br (P := ¬ x2 = 0) (σ1 := (d, 107, 31, [some (.inl x0), some (.inl x1), some (.inl x2), some (.inl x3)], [], (am_sh, am_mm U))) (σ2 := (d, 107, 29, [some (.inl x0), some (.inl x1), some (.inl x2), some (.inl x3)], [], (am_sh, am_mm U))) 2 (fun _ => rfl) (fun hc => ?_) (fun hc => ?_)
      · have h221 := h22.1 hc
        refine ev_seg (σ1 := (d, 107, 10, [some (.inl x0), some (.inl x1), some (.inl (w32 (x2 + (-1)))), some (.inl (w32 (x3 + 1)))], [], (am_sh, am_mm U))) 3 (fun _ => rfl) ?_
        exact h221
      · have h222 := h22.2 hc
        subst h222
        exact ev_end 2 (fun _ => rfl)
set_option maxRecDepth 8000 in
theorem st112_86_0 (N : Nat) (X : Nat → Int) (d : Nat) (x1 x2 : Int) (U : Nat → Nat → Int) (R : Option am_V × am_M) (h : Ev (am_kz N X) (d, 112, 5, [some (.inr (.inr 86)), some (.inl x1), some (.inl x2), some (.inl 0), some (.inl 0)], [], (am_sh, am_mm U)) R) : Ev (am_kz N X) (d, 112, 0, [some (.inr (.inr 86)), some (.inl x1), some (.inl x2), none, none], [], (am_sh, am_mm U)) R := by
  refine ev_seg (σ1 := (d, 112, 5, [some (.inr (.inr 86)), some (.inl x1), some (.inl x2), some (.inl 0), some (.inl 0)], [], (am_sh, am_mm U))) 4 (fun _ => rfl) ?_
  exact h
set_option maxRecDepth 8000 in
theorem st112_86_5 (N : Nat) (X : Nat → Int) (d : Nat) (x1 x2 x3 x4 : Int) (U : Nat → Nat → Int) (R : Option am_V × am_M) (h : (((x2 ≤ x4 : Prop)) → R = (some (.inl x3), (am_sh, am_mm U))) ∧ (¬ (x2 ≤ x4) → (0 ≤ (w32 ((w32 (12 * x1)) + x4)) ∧ (w32 ((w32 (12 * x1)) + x4)) < 24) ∧ (0 ≤ (w32 ((w32 (12 * x1)) + x2)) ∧ (w32 ((w32 (12 * x1)) + x2)) < 24) ∧ (((¬ (U 92 (w32 ((w32 (12 * x1)) + x4)).toNat) = (U 92 (w32 ((w32 (12 * x1)) + x2)).toNat) : Prop)) → Ev (am_kz N X) (d, 112, 5, [some (.inr (.inr 86)), some (.inl x1), some (.inl x2), some (.inl (w32 (x3 + 0))), some (.inl (w32 (x4 + 1)))], [], (am_sh, am_mm U)) R) ∧ (¬ (¬ (U 92 (w32 ((w32 (12 * x1)) + x4)).toNat) = (U 92 (w32 ((w32 (12 * x1)) + x2)).toNat)) → Ev (am_kz N X) (d, 112, 5, [some (.inr (.inr 86)), some (.inl x1), some (.inl x2), some (.inl (w32 (x3 + 1))), some (.inl (w32 (x4 + 1)))], [], (am_sh, am_mm U)) R))) : Ev (am_kz N X) (d, 112, 5, [some (.inr (.inr 86)), some (.inl x1), some (.inl x2), some (.inl x3), some (.inl x4)], [], (am_sh, am_mm U)) R := by
  refine ev_br (P := x2 ≤ x4) (σ1 := (d, 112, 51, [some (.inr (.inr 86)), some (.inl x1), some (.inl x2), some (.inl x3), some (.inl x4)], [], (am_sh, am_mm U))) (σ2 := (d, 112, 11, [some (.inr (.inr 86)), some (.inl x1), some (.inl x2), some (.inl x3), some (.inl x4)], [], (am_sh, am_mm U))) 3 (fun _ => rfl) (fun hc => ?_) (fun hc => ?_)
  · have h1 := h.1 hc
    subst h1
    exact ev_end 2 (fun _ => rfl)
  · have h2 := h.2 hc
    refine ev_seg (σ1 := (d, 112, 23, [some (.inr (.inr 86)), some (.inl x1), some (.inl x2), some (.inl x3), some (.inl x4)], [.inl (w32 ((w32 (12 * x1)) + x4)), .inr (.inr 92), .inl x3], (am_sh, am_mm U))) 8 (fun _ => rfl) ?_
    refine eu_iald 92 (n := 24) rfl (by decide) rfl (fun _ => rfl) h2.1 ?_
    have h2a := h2.2
    refine ev_seg (σ1 := (d, 112, 34, [some (.inr (.inr 86)), some (.inl x1), some (.inl x2), some (.inl x3), some (.inl x4)], [.inl (w32 ((w32 (12 * x1)) + x2)), .inr (.inr 92), .inl (U 92 (w32 ((w32 (12 * x1)) + x4)).toNat), .inl x3], (am_sh, am_mm U))) 7 (fun _ => rfl) ?_
    refine eu_iald 92 (n := 24) rfl (by decide) rfl (fun _ => rfl) h2a.1 ?_
    have h2aa := h2a.2
    refine ev_br (P := ¬ (U 92 (w32 ((w32 (12 * x1)) + x4)).toNat) = (U 92 (w32 ((w32 (12 * x1)) + x2)).toNat)) (σ1 := (d, 112, 42, [some (.inr (.inr 86)), some (.inl x1), some (.inl x2), some (.inl x3), some (.inl x4)], [.inl x3], (am_sh, am_mm U))) (σ2 := (d, 112, 38, [some (.inr (.inr 86)), some (.inl x1), some (.inl x2), some (.inl x3), some (.inl x4)], [.inl x3], (am_sh, am_mm U))) 1 (fun _ => rfl) (fun hc => ?_) (fun hc => ?_)
    · have h2aa1 := h2aa.1 hc
      refine ev_seg (σ1 := (d, 112, 5, [some (.inr (.inr 86)), some (.inl x1), some (.inl x2), some (.inl (w32 (x3 + 0))), some (.inl (w32 (x4 + 1)))], [], (am_sh, am_mm U))) 5 (fun _ => rfl) ?_
      exact h2aa1
    · have h2aa2 := h2aa.2 hc
      refine ev_seg (σ1 := (d, 112, 5, [some (.inr (.inr 86)), some (.inl x1), some (.inl x2), some (.inl (w32 (x3 + 1))), some (.inl (w32 (x4 + 1)))], [], (am_sh, am_mm U))) 6 (fun _ => rfl) ?_
      exact h2aa2
set_option maxRecDepth 8000 in
theorem st111_86_0 (N : Nat) (X : Nat → Int) (d : Nat) (x1 x2 : Int) (U : Nat → Nat → Int) (R : Option am_V × am_M) (h : Ev (am_kz N X) ((d + 1), 111, 5, [some (.inr (.inr 86)), some (.inl x1), some (.inl x2), some (.inl 0), some (.inl 0)], [], (am_sh, am_mm U)) R) : Ev (am_kz N X) ((d + 1), 111, 0, [some (.inr (.inr 86)), some (.inl x1), some (.inl x2), none, none], [], (am_sh, am_mm U)) R := by
  refine ev_seg (σ1 := ((d + 1), 111, 5, [some (.inr (.inr 86)), some (.inl x1), some (.inl x2), some (.inl 0), some (.inl 0)], [], (am_sh, am_mm U))) 4 (fun _ => rfl) ?_
  exact h
set_option maxRecDepth 8000 in
theorem st111_86_5 (N : Nat) (X : Nat → Int) (d : Nat) (x1 x2 x3 x4 : Int) (U : Nat → Nat → Int) (R : Option am_V × am_M) (h : (0 ≤ x1 ∧ x1 < 22) ∧ ((((U 122 x1.toNat) ≤ x4 : Prop)) → R = (some (.inl x3), (am_sh, am_mm U))) ∧ (¬ ((U 122 x1.toNat) ≤ x4) → ∃ (r1 : Int) (U1 : Nat → Nat → Int), Ev (am_kz N X) (d, 200, 0, [some (.inr (.inr 86)), some (.inl x1), some (.inl x4)], [], (am_sh, am_mm U)) (some (.inl r1), (am_sh, am_mm U1)) ∧ (((¬ r1 = x2 : Prop)) → Ev (am_kz N X) ((d + 1), 111, 5, [some (.inr (.inr 86)), some (.inl x1), some (.inl x2), some (.inl (w32 (x3 + 0))), some (.inl (w32 (x4 + 1)))], [], (am_sh, am_mm U1)) R) ∧ (¬ (¬ r1 = x2) → Ev (am_kz N X) ((d + 1), 111, 5, [some (.inr (.inr 86)), some (.inl x1), some (.inl x2), some (.inl (w32 (x3 + 1))), some (.inl (w32 (x4 + 1)))], [], (am_sh, am_mm U1)) R))) : Ev (am_kz N X) ((d + 1), 111, 5, [some (.inr (.inr 86)), some (.inl x1), some (.inl x2), some (.inl x3), some (.inl x4)], [], (am_sh, am_mm U)) R := by
  refine ev_seg (σ1 := ((d + 1), 111, 12, [some (.inr (.inr 86)), some (.inl x1), some (.inl x2), some (.inl x3), some (.inl x4)], [.inl x1, .inr (.inr 122), .inl x4], (am_sh, am_mm U))) 4 (fun _ => rfl) ?_
  refine eu_iald 122 (n := 22) rfl (by decide) rfl (fun _ => rfl) h.1 ?_
  have ha := h.2
  refine ev_br (P := (U 122 x1.toNat) ≤ x4) (σ1 := ((d + 1), 111, 41, [some (.inr (.inr 86)), some (.inl x1), some (.inl x2), some (.inl x3), some (.inl x4)], [], (am_sh, am_mm U))) (σ2 := ((d + 1), 111, 16, [some (.inr (.inr 86)), some (.inl x1), some (.inl x2), some (.inl x3), some (.inl x4)], [], (am_sh, am_mm U))) 1 (fun _ => rfl) (fun hc => ?_) (fun hc => ?_)
  · have ha1 := ha.1 hc
    subst ha1
    exact ev_end 2 (fun _ => rfl)
  · have ha2 := ha.2 hc
    refine ev_seg (σ1 := ((d + 1), 111, 21, [some (.inr (.inr 86)), some (.inl x1), some (.inl x2), some (.inl x3), some (.inl x4)], [.inl x4, .inl x1, .inr (.inr 86), .inl x3], (am_sh, am_mm U))) 4 (fun _ => rfl) ?_
    obtain ⟨r1, U1, ha2c, ha2a⟩ := ha2
    refine ev_cal (σc := (d, 200, 0, [some (.inr (.inr 86)), some (.inl x1), some (.inl x4)], [], (am_sh, am_mm U))) (fun _ => rfl) ha2c ?_
    show Ev (am_kz N X) ((d + 1), 111, 24, [some (.inr (.inr 86)), some (.inl x1), some (.inl x2), some (.inl x3), some (.inl x4)], [.inl r1, .inl x3], (am_sh, am_mm U1)) R
    refine ev_br (P := ¬ r1 = x2) (σ1 := ((d + 1), 111, 32, [some (.inr (.inr 86)), some (.inl x1), some (.inl x2), some (.inl x3), some (.inl x4)], [.inl x3], (am_sh, am_mm U1))) (σ2 := ((d + 1), 111, 28, [some (.inr (.inr 86)), some (.inl x1), some (.inl x2), some (.inl x3), some (.inl x4)], [.inl x3], (am_sh, am_mm U1))) 2 (fun _ => rfl) (fun hc => ?_) (fun hc => ?_)
    · have ha2a1 := ha2a.1 hc
      refine ev_seg (σ1 := ((d + 1), 111, 5, [some (.inr (.inr 86)), some (.inl x1), some (.inl x2), some (.inl (w32 (x3 + 0))), some (.inl (w32 (x4 + 1)))], [], (am_sh, am_mm U1))) 5 (fun _ => rfl) ?_
      exact ha2a1
    · have ha2a2 := ha2a.2 hc
      refine ev_seg (σ1 := ((d + 1), 111, 5, [some (.inr (.inr 86)), some (.inl x1), some (.inl x2), some (.inl (w32 (x3 + 1))), some (.inl (w32 (x4 + 1)))], [], (am_sh, am_mm U1))) 6 (fun _ => rfl) ?_
      exact ha2a2
set_option maxRecDepth 8000 in
theorem st113_86_0 (N : Nat) (X : Nat → Int) (d : Nat) (x1 x2 x3 : Int) (U : Nat → Nat → Int) (R : Option am_V × am_M) (h : (((¬ x2 = x3 : Prop)) → (0 ≤ (w32 ((w32 (12 * x1)) + x2)) ∧ (w32 ((w32 (12 * x1)) + x2)) < 24) ∧ (0 ≤ (w32 ((w32 (12 * x1)) + x3)) ∧ (w32 ((w32 (12 * x1)) + x3)) < 24) ∧ (((¬ (U 92 (w32 ((w32 (12 * x1)) + x2)).toNat) = (U 92 (w32 ((w32 (12 * x1)) + x3)).toNat) : Prop)) → Ev (am_kz N X) ((d + 1), 113, 64, [some (.inr (.inr 86)), some (.inl x1), some (.inl x2), some (.inl x3), some (.inl 0), none], [], (am_sh, am_mm U)) R) ∧ (¬ (¬ (U 92 (w32 ((w32 (12 * x1)) + x2)).toNat) = (U 92 (w32 ((w32 (12 * x1)) + x3)).toNat)) → ∃ (r1 : Int) (U1 : Nat → Nat → Int), Ev (am_kz N X) (d, 112, 0, [some (.inr (.inr 86)), some (.inl x1), some (.inl x2), none, none], [], (am_sh, am_mm U)) (some (.inl r1), (am_sh, am_mm U1)) ∧ ∃ (r2 : Int) (U2 : Nat → Nat → Int), Ev (am_kz N X) (d, 112, 0, [some (.inr (.inr 86)), some (.inl x1), some (.inl x3), none, none], [], (am_sh, am_mm U1)) (some (.inl r2), (am_sh, am_mm U2)) ∧ ((((w32 (r1 - r2)) = 1 : Prop)) → R = (some (.inl 1), (am_sh, am_mm U2))) ∧ (¬ ((w32 (r1 - r2)) = 1) → (((¬ (w32 (r1 - r2)) = (-1) : Prop)) → Ev (am_kz N X) ((d + 1), 113, 64, [some (.inr (.inr 86)), some (.inl x1), some (.inl x2), some (.inl x3), some (.inl 0), none], [], (am_sh, am_mm U2)) R) ∧ (¬ (¬ (w32 (r1 - r2)) = (-1)) → R = (some (.inl 1), (am_sh, am_mm U2)))))) ∧ (¬ (¬ x2 = x3) → R = (some (.inl 0), (am_sh, am_mm U)))) : Ev (am_kz N X) ((d + 1), 113, 0, [some (.inr (.inr 86)), some (.inl x1), some (.inl x2), some (.inl x3), none, none], [], (am_sh, am_mm U)) R := by
  refine ev_br (P := ¬ x2 = x3) (σ1 := ((d + 1), 113, 7, [some (.inr (.inr 86)), some (.inl x1), some (.inl x2), some (.inl x3), none, none], [], (am_sh, am_mm U))) (σ2 := ((d + 1), 113, 5, [some (.inr (.inr 86)), some (.inl x1), some (.inl x2), some (.inl x3), none, none], [], (am_sh, am_mm U))) 3 (fun _ => rfl) (fun hc => ?_) (fun hc => ?_)
  · have h1 := h.1 hc
    refine ev_seg (σ1 := ((d + 1), 113, 17, [some (.inr (.inr 86)), some (.inl x1), some (.inl x2), some (.inl x3), none, none], [.inl (w32 ((w32 (12 * x1)) + x2)), .inr (.inr 92)], (am_sh, am_mm U))) 7 (fun _ => rfl) ?_
    refine eu_iald 92 (n := 24) rfl (by decide) rfl (fun _ => rfl) h1.1 ?_
    have h1a := h1.2
    refine ev_seg (σ1 := ((d + 1), 113, 28, [some (.inr (.inr 86)), some (.inl x1), some (.inl x2), some (.inl x3), none, none], [.inl (w32 ((w32 (12 * x1)) + x3)), .inr (.inr 92), .inl (U 92 (w32 ((w32 (12 * x1)) + x2)).toNat)], (am_sh, am_mm U))) 7 (fun _ => rfl) ?_
    refine eu_iald 92 (n := 24) rfl (by decide) rfl (fun _ => rfl) h1a.1 ?_
    have h1aa := h1a.2
    refine ev_br (P := ¬ (U 92 (w32 ((w32 (12 * x1)) + x2)).toNat) = (U 92 (w32 ((w32 (12 * x1)) + x3)).toNat)) (σ1 := ((d + 1), 113, 61, [some (.inr (.inr 86)), some (.inl x1), some (.inl x2), some (.inl x3), none, none], [], (am_sh, am_mm U))) (σ2 := ((d + 1), 113, 32, [some (.inr (.inr 86)), some (.inl x1), some (.inl x2), some (.inl x3), none, none], [], (am_sh, am_mm U))) 1 (fun _ => rfl) (fun hc => ?_) (fun hc => ?_)
    · have h1aa1 := h1aa.1 hc
      refine ev_seg (σ1 := ((d + 1), 113, 64, [some (.inr (.inr 86)), some (.inl x1), some (.inl x2), some (.inl x3), some (.inl 0), none], [], (am_sh, am_mm U))) 2 (fun _ => rfl) ?_
      exact h1aa1
    · have h1aa2 := h1aa.2 hc
      refine ev_seg (σ1 := ((d + 1), 113, 35, [some (.inr (.inr 86)), some (.inl x1), some (.inl x2), some (.inl x3), none, none], [.inl x2, .inl x1, .inr (.inr 86)], (am_sh, am_mm U))) 3 (fun _ => rfl) ?_
      obtain ⟨r1, U1, h1aa2c, h1aa2a⟩ := h1aa2
      refine ev_cal (σc := (d, 112, 0, [some (.inr (.inr 86)), some (.inl x1), some (.inl x2), none, none], [], (am_sh, am_mm U))) (fun _ => rfl) h1aa2c ?_
      show Ev (am_kz N X) ((d + 1), 113, 38, [some (.inr (.inr 86)), some (.inl x1), some (.inl x2), some (.inl x3), none, none], [.inl r1], (am_sh, am_mm U1)) R
      refine ev_seg (σ1 := ((d + 1), 113, 41, [some (.inr (.inr 86)), some (.inl x1), some (.inl x2), some (.inl x3), none, none], [.inl x3, .inl x1, .inr (.inr 86), .inl r1], (am_sh, am_mm U1))) 3 (fun _ => rfl) ?_
      obtain ⟨r2, U2, h1aa2ac, h1aa2aa⟩ := h1aa2a
      refine ev_cal (σc := (d, 112, 0, [some (.inr (.inr 86)), some (.inl x1), some (.inl x3), none, none], [], (am_sh, am_mm U1))) (fun _ => rfl) h1aa2ac ?_
      show Ev (am_kz N X) ((d + 1), 113, 44, [some (.inr (.inr 86)), some (.inl x1), some (.inl x2), some (.inl x3), none, none], [.inl r2, .inl r1], (am_sh, am_mm U2)) R
      refine ev_br (P := (w32 (r1 - r2)) = 1) (σ1 := ((d + 1), 113, 59, [some (.inr (.inr 86)), some (.inl x1), some (.inl x2), some (.inl x3), some (.inl (w32 (r1 - r2))), none], [], (am_sh, am_mm U2))) (σ2 := ((d + 1), 113, 53, [some (.inr (.inr 86)), some (.inl x1), some (.inl x2), some (.inl x3), some (.inl (w32 (r1 - r2))), none], [], (am_sh, am_mm U2))) 5 (fun _ => rfl) (fun hc => ?_) (fun hc => ?_)
      · have h1aa2aa1 := h1aa2aa.1 hc
        subst h1aa2aa1
        exact ev_end 2 (fun _ => rfl)
      · have h1aa2aa2 := h1aa2aa.2 hc
        refine ev_br (P := ¬ (w32 (r1 - r2)) = (-1)) (σ1 := ((d + 1), 113, 61, [some (.inr (.inr 86)), some (.inl x1), some (.inl x2), some (.inl x3), some (.inl (w32 (r1 - r2))), none], [], (am_sh, am_mm U2))) (σ2 := ((d + 1), 113, 59, [some (.inr (.inr 86)), some (.inl x1), some (.inl x2), some (.inl x3), some (.inl (w32 (r1 - r2))), none], [], (am_sh, am_mm U2))) 3 (fun _ => rfl) (fun hc => ?_) (fun hc => ?_)
        · have h1aa2aa21 := h1aa2aa2.1 hc
          refine ev_seg (σ1 := ((d + 1), 113, 64, [some (.inr (.inr 86)), some (.inl x1), some (.inl x2), some (.inl x3), some (.inl 0), none], [], (am_sh, am_mm U2))) 2 (fun _ => rfl) ?_
          exact h1aa2aa21
        · have h1aa2aa22 := h1aa2aa2.2 hc
          subst h1aa2aa22
          exact ev_end 2 (fun _ => rfl)
  · have h2 := h.2 hc
    subst h2
    exact ev_end 2 (fun _ => rfl)
set_option maxRecDepth 8000 in
theorem st113_86_64 (N : Nat) (X : Nat → Int) (d : Nat) (x1 x2 x3 x4 : Int) (U : Nat → Nat → Int) (R : Option am_V × am_M) (h : (0 ≤ x1 ∧ x1 < 2) ∧ ((((U 94 x1.toNat) ≤ x4 : Prop)) → R = (some (.inl 0), (am_sh, am_mm U))) ∧ (¬ ((U 94 x1.toNat) ≤ x4) → (0 ≤ (w32 ((w32 (10 * x1)) + x4)) ∧ (w32 ((w32 (10 * x1)) + x4)) < 20) ∧ (((¬ (U 95 (w32 ((w32 (10 * x1)) + x4)).toNat) = x2 : Prop)) → (0 ≤ (w32 ((w32 (10 * x1)) + x4)) ∧ (w32 ((w32 (10 * x1)) + x4)) < 20) ∧ (((¬ (U 95 (w32 ((w32 (10 * x1)) + x4)).toNat) = x3 : Prop)) → Ev (am_kz N X) ((d + 1), 113, 64, [some (.inr (.inr 86)), some (.inl x1), some (.inl x2), some (.inl x3), some (.inl (w32 (x4 + 1))), some (.inl (w32 ((w32 (10 * x1)) + x4)))], [], (am_sh, am_mm U)) R) ∧ (¬ (¬ (U 95 (w32 ((w32 (10 * x1)) + x4)).toNat) = x3) → (0 ≤ (w32 ((w32 (10 * x1)) + x4)) ∧ (w32 ((w32 (10 * x1)) + x4)) < 20) ∧ (((¬ (U 96 (w32 ((w32 (10 * x1)) + x4)).toNat) = x2 : Prop)) → Ev (am_kz N X) ((d + 1), 113, 64, [some (.inr (.inr 86)), some (.inl x1), some (.inl x2), some (.inl x3), some (.inl (w32 (x4 + 1))), some (.inl (w32 ((w32 (10 * x1)) + x4)))], [], (am_sh, am_mm U)) R) ∧ (¬ (¬ (U 96 (w32 ((w32 (10 * x1)) + x4)).toNat) = x2) → R = (some (.inl 1), (am_sh, am_mm U))))) ∧ (¬ (¬ (U 95 (w32 ((w32 (10 * x1)) + x4)).toNat) = x2) → (0 ≤ (w32 ((w32 (10 * x1)) + x4)) ∧ (w32 ((w32 (10 * x1)) + x4)) < 20) ∧ ((((U 96 (w32 ((w32 (10 * x1)) + x4)).toNat) = x3 : Prop)) → R = (some (.inl 1), (am_sh, am_mm U))) ∧ (¬ ((U 96 (w32 ((w32 (10 * x1)) + x4)).toNat) = x3) → (0 ≤ (w32 ((w32 (10 * x1)) + x4)) ∧ (w32 ((w32 (10 * x1)) + x4)) < 20) ∧ (((¬ (U 95 (w32 ((w32 (10 * x1)) + x4)).toNat) = x3 : Prop)) → Ev (am_kz N X) ((d + 1), 113, 64, [some (.inr (.inr 86)), some (.inl x1), some (.inl x2), some (.inl x3), some (.inl (w32 (x4 + 1))), some (.inl (w32 ((w32 (10 * x1)) + x4)))], [], (am_sh, am_mm U)) R) ∧ (¬ (¬ (U 95 (w32 ((w32 (10 * x1)) + x4)).toNat) = x3) → (0 ≤ (w32 ((w32 (10 * x1)) + x4)) ∧ (w32 ((w32 (10 * x1)) + x4)) < 20) ∧ (((¬ (U 96 (w32 ((w32 (10 * x1)) + x4)).toNat) = x2 : Prop)) → Ev (am_kz N X) ((d + 1), 113, 64, [some (.inr (.inr 86)), some (.inl x1), some (.inl x2), some (.inl x3), some (.inl (w32 (x4 + 1))), some (.inl (w32 ((w32 (10 * x1)) + x4)))], [], (am_sh, am_mm U)) R) ∧ (¬ (¬ (U 96 (w32 ((w32 (10 * x1)) + x4)).toNat) = x2) → R = (some (.inl 1), (am_sh, am_mm U)))))))) : Ev (am_kz N X) ((d + 1), 113, 64, [some (.inr (.inr 86)), some (.inl x1), some (.inl x2), some (.inl x3), some (.inl x4), none], [], (am_sh, am_mm U)) R := by
  refine ev_seg (σ1 := ((d + 1), 113, 71, [some (.inr (.inr 86)), some (.inl x1), some (.inl x2), some (.inl x3), some (.inl x4), none], [.inl x1, .inr (.inr 94), .inl x4], (am_sh, am_mm U))) 4 (fun _ => rfl) ?_
  refine eu_iald 94 (n := 2) rfl (by decide) rfl (fun _ => rfl) h.1 ?_
  have ha := h.2
  refine ev_br (P := (U 94 x1.toNat) ≤ x4) (σ1 := ((d + 1), 113, 136, [some (.inr (.inr 86)), some (.inl x1), some (.inl x2), some (.inl x3), some (.inl x4), none], [], (am_sh, am_mm U))) (σ2 := ((d + 1), 113, 75, [some (.inr (.inr 86)), some (.inl x1), some (.inl x2), some (.inl x3), some (.inl x4), none], [], (am_sh, am_mm U))) 1 (fun _ => rfl) (fun hc => ?_) (fun hc => ?_)
  · have ha1 := ha.1 hc
    subst ha1
    exact ev_end 2 (fun _ => rfl)
  · have ha2 := ha.2 hc
    refine ev_seg (σ1 := ((d + 1), 113, 90, [some (.inr (.inr 86)), some (.inl x1), some (.inl x2), some (.inl x3), some (.inl x4), some (.inl (w32 ((w32 (10 * x1)) + x4)))], [.inl (w32 ((w32 (10 * x1)) + x4)), .inr (.inr 95)], (am_sh, am_mm U))) 9 (fun _ => rfl) ?_
    refine eu_iald 95 (n := 20) rfl (by decide) rfl (fun _ => rfl) ha2.1 ?_
    have ha2a := ha2.2
    refine ev_br (P := ¬ (U 95 (w32 ((w32 (10 * x1)) + x4)).toNat) = x2) (σ1 := ((d + 1), 113, 106, [some (.inr (.inr 86)), some (.inl x1), some (.inl x2), some (.inl x3), some (.inl x4), some (.inl (w32 ((w32 (10 * x1)) + x4)))], [], (am_sh, am_mm U))) (σ2 := ((d + 1), 113, 95, [some (.inr (.inr 86)), some (.inl x1), some (.inl x2), some (.inl x3), some (.inl x4), some (.inl (w32 ((w32 (10 * x1)) + x4)))], [], (am_sh, am_mm U))) 2 (fun _ => rfl) (fun hc => ?_) (fun hc => ?_)
    · have ha2a1 := ha2a.1 hc
      refine ev_seg (σ1 := ((d + 1), 113, 112, [some (.inr (.inr 86)), some (.inl x1), some (.inl x2), some (.inl x3), some (.inl x4), some (.inl (w32 ((w32 (10 * x1)) + x4)))], [.inl (w32 ((w32 (10 * x1)) + x4)), .inr (.inr 95)], (am_sh, am_mm U))) 3 (fun _ => rfl) ?_
      refine eu_iald 95 (n := 20) rfl (by decide) rfl (fun _ => rfl) ha2a1.1 ?_
      have ha2a1a := ha2a1.2
      refine ev_br (P := ¬ (U 95 (w32 ((w32 (10 * x1)) + x4)).toNat) = x3) (σ1 := ((d + 1), 113, 130, [some (.inr (.inr 86)), some (.inl x1), some (.inl x2), some (.inl x3), some (.inl x4), some (.inl (w32 ((w32 (10 * x1)) + x4)))], [], (am_sh, am_mm U))) (σ2 := ((d + 1), 113, 117, [some (.inr (.inr 86)), some (.inl x1), some (.inl x2), some (.inl x3), some (.inl x4), some (.inl (w32 ((w32 (10 * x1)) + x4)))], [], (am_sh, am_mm U))) 2 (fun _ => rfl) (fun hc => ?_) (fun hc => ?_)
      · have ha2a1a1 := ha2a1a.1 hc
        refine ev_seg (σ1 := ((d + 1), 113, 64, [some (.inr (.inr 86)), some (.inl x1), some (.inl x2), some (.inl x3), some (.inl (w32 (x4 + 1))), some (.inl (w32 ((w32 (10 * x1)) + x4)))], [], (am_sh, am_mm U))) 2 (fun _ => rfl) ?_
        exact ha2a1a1
      · have ha2a1a2 := ha2a1a.2 hc
        refine ev_seg (σ1 := ((d + 1), 113, 123, [some (.inr (.inr 86)), some (.inl x1), some (.inl x2), some (.inl x3), some (.inl x4), some (.inl (w32 ((w32 (10 * x1)) + x4)))], [.inl (w32 ((w32 (10 * x1)) + x4)), .inr (.inr 96)], (am_sh, am_mm U))) 3 (fun _ => rfl) ?_
        refine eu_iald 96 (n := 20) rfl (by decide) rfl (fun _ => rfl) ha2a1a2.1 ?_
        have ha2a1a2a := ha2a1a2.2
        refine ev_br (P := ¬ (U 96 (w32 ((w32 (10 * x1)) + x4)).toNat) = x2) (σ1 := ((d + 1), 113, 130, [some (.inr (.inr 86)), some (.inl x1), some (.inl x2), some (.inl x3), some (.inl x4), some (.inl (w32 ((w32 (10 * x1)) + x4)))], [], (am_sh, am_mm U))) (σ2 := ((d + 1), 113, 128, [some (.inr (.inr 86)), some (.inl x1), some (.inl x2), some (.inl x3), some (.inl x4), some (.inl (w32 ((w32 (10 * x1)) + x4)))], [], (am_sh, am_mm U))) 2 (fun _ => rfl) (fun hc => ?_) (fun hc => ?_)
        · have ha2a1a2a1 := ha2a1a2a.1 hc
          refine ev_seg (σ1 := ((d + 1), 113, 64, [some (.inr (.inr 86)), some (.inl x1), some (.inl x2), some (.inl x3), some (.inl (w32 (x4 + 1))), some (.inl (w32 ((w32 (10 * x1)) + x4)))], [], (am_sh, am_mm U))) 2 (fun _ => rfl) ?_
          exact ha2a1a2a1
        · have ha2a1a2a2 := ha2a1a2a.2 hc
          subst ha2a1a2a2
          exact ev_end 2 (fun _ => rfl)
    · have ha2a2 := ha2a.2 hc
      refine ev_seg (σ1 := ((d + 1), 113, 101, [some (.inr (.inr 86)), some (.inl x1), some (.inl x2), some (.inl x3), some (.inl x4), some (.inl (w32 ((w32 (10 * x1)) + x4)))], [.inl (w32 ((w32 (10 * x1)) + x4)), .inr (.inr 96)], (am_sh, am_mm U))) 3 (fun _ => rfl) ?_
      refine eu_iald 96 (n := 20) rfl (by decide) rfl (fun _ => rfl) ha2a2.1 ?_
      have ha2a2a := ha2a2.2
      refine ev_br (P := (U 96 (w32 ((w32 (10 * x1)) + x4)).toNat) = x3) (σ1 := ((d + 1), 113, 128, [some (.inr (.inr 86)), some (.inl x1), some (.inl x2), some (.inl x3), some (.inl x4), some (.inl (w32 ((w32 (10 * x1)) + x4)))], [], (am_sh, am_mm U))) (σ2 := ((d + 1), 113, 106, [some (.inr (.inr 86)), some (.inl x1), some (.inl x2), some (.inl x3), some (.inl x4), some (.inl (w32 ((w32 (10 * x1)) + x4)))], [], (am_sh, am_mm U))) 2 (fun _ => rfl) (fun hc => ?_) (fun hc => ?_)
      · have ha2a2a1 := ha2a2a.1 hc
        subst ha2a2a1
        exact ev_end 2 (fun _ => rfl)
      · have ha2a2a2 := ha2a2a.2 hc
        refine ev_seg (σ1 := ((d + 1), 113, 112, [some (.inr (.inr 86)), some (.inl x1), some (.inl x2), some (.inl x3), some (.inl x4), some (.inl (w32 ((w32 (10 * x1)) + x4)))], [.inl (w32 ((w32 (10 * x1)) + x4)), .inr (.inr 95)], (am_sh, am_mm U))) 3 (fun _ => rfl) ?_
        refine eu_iald 95 (n := 20) rfl (by decide) rfl (fun _ => rfl) ha2a2a2.1 ?_
        have ha2a2a2a := ha2a2a2.2
        refine ev_br (P := ¬ (U 95 (w32 ((w32 (10 * x1)) + x4)).toNat) = x3) (σ1 := ((d + 1), 113, 130, [some (.inr (.inr 86)), some (.inl x1), some (.inl x2), some (.inl x3), some (.inl x4), some (.inl (w32 ((w32 (10 * x1)) + x4)))], [], (am_sh, am_mm U))) (σ2 := ((d + 1), 113, 117, [some (.inr (.inr 86)), some (.inl x1), some (.inl x2), some (.inl x3), some (.inl x4), some (.inl (w32 ((w32 (10 * x1)) + x4)))], [], (am_sh, am_mm U))) 2 (fun _ => rfl) (fun hc => ?_) (fun hc => ?_)
        · have ha2a2a2a1 := ha2a2a2a.1 hc
          refine ev_seg (σ1 := ((d + 1), 113, 64, [some (.inr (.inr 86)), some (.inl x1), some (.inl x2), some (.inl x3), some (.inl (w32 (x4 + 1))), some (.inl (w32 ((w32 (10 * x1)) + x4)))], [], (am_sh, am_mm U))) 2 (fun _ => rfl) ?_
          exact ha2a2a2a1
        · have ha2a2a2a2 := ha2a2a2a.2 hc
          refine ev_seg (σ1 := ((d + 1), 113, 123, [some (.inr (.inr 86)), some (.inl x1), some (.inl x2), some (.inl x3), some (.inl x4), some (.inl (w32 ((w32 (10 * x1)) + x4)))], [.inl (w32 ((w32 (10 * x1)) + x4)), .inr (.inr 96)], (am_sh, am_mm U))) 3 (fun _ => rfl) ?_
          refine eu_iald 96 (n := 20) rfl (by decide) rfl (fun _ => rfl) ha2a2a2a2.1 ?_
          have ha2a2a2a2a := ha2a2a2a2.2
          refine ev_br (P := ¬ (U 96 (w32 ((w32 (10 * x1)) + x4)).toNat) = x2) (σ1 := ((d + 1), 113, 130, [some (.inr (.inr 86)), some (.inl x1), some (.inl x2), some (.inl x3), some (.inl x4), some (.inl (w32 ((w32 (10 * x1)) + x4)))], [], (am_sh, am_mm U))) (σ2 := ((d + 1), 113, 128, [some (.inr (.inr 86)), some (.inl x1), some (.inl x2), some (.inl x3), some (.inl x4), some (.inl (w32 ((w32 (10 * x1)) + x4)))], [], (am_sh, am_mm U))) 2 (fun _ => rfl) (fun hc => ?_) (fun hc => ?_)
          · have ha2a2a2a2a1 := ha2a2a2a2a.1 hc
            refine ev_seg (σ1 := ((d + 1), 113, 64, [some (.inr (.inr 86)), some (.inl x1), some (.inl x2), some (.inl x3), some (.inl (w32 (x4 + 1))), some (.inl (w32 ((w32 (10 * x1)) + x4)))], [], (am_sh, am_mm U))) 2 (fun _ => rfl) ?_
            exact ha2a2a2a2a1
          · have ha2a2a2a2a2 := ha2a2a2a2a.2 hc
            subst ha2a2a2a2a2
            exact ev_end 2 (fun _ => rfl)
set_option maxRecDepth 8000 in
theorem st110_86_0 (N : Nat) (X : Nat → Int) (d : Nat) (x1 : Int) (U : Nat → Nat → Int) (R : Option am_V × am_M) (h : (0 ≤ (w32 ((w32 (12 * (U 86 13))) + x1)) ∧ (w32 ((w32 (12 * (U 86 13))) + x1)) < 24) ∧ R = (some (.inl (U 93 (w32 ((w32 (12 * (U 86 13))) + x1)).toNat)), (am_sh, am_mm U))) : Ev (am_kz N X) (d, 110, 0, [some (.inr (.inr 86)), some (.inl x1)], [], (am_sh, am_mm U)) R := by
  refine ev_seg (σ1 := (d, 110, 13, [some (.inr (.inr 86)), some (.inl x1)], [.inl (w32 ((w32 (12 * (U 86 13))) + x1)), .inr (.inr 93)], (am_sh, am_mm U))) 8 (fun _ => rfl) ?_
  refine eu_iald 93 (n := 24) rfl (by decide) rfl (fun _ => rfl) h.1 ?_
  have ha := h.2
  subst ha
  exact ev_end 1 (fun _ => rfl)
set_option maxRecDepth 8000 in
theorem st109_86_0 (N : Nat) (X : Nat → Int) (d : Nat) (x1 : Int) (U : Nat → Nat → Int) (R : Option am_V × am_M) (h : (0 ≤ (w32 ((w32 (12 * (U 86 13))) + x1)) ∧ (w32 ((w32 (12 * (U 86 13))) + x1)) < 24) ∧ R = (some (.inl (U 92 (w32 ((w32 (12 * (U 86 13))) + x1)).toNat)), (am_sh, am_mm U))) : Ev (am_kz N X) (d, 109, 0, [some (.inr (.inr 86)), some (.inl x1)], [], (am_sh, am_mm U)) R := by
  refine ev_seg (σ1 := (d, 109, 13, [some (.inr (.inr 86)), some (.inl x1)], [.inl (w32 ((w32 (12 * (U 86 13))) + x1)), .inr (.inr 92)], (am_sh, am_mm U))) 8 (fun _ => rfl) ?_
  refine eu_iald 92 (n := 24) rfl (by decide) rfl (fun _ => rfl) h.1 ?_
  have ha := h.2
  subst ha
  exact ev_end 1 (fun _ => rfl)
set_option maxRecDepth 8000 in
theorem st108_86_0 (N : Nat) (X : Nat → Int) (d : Nat) (x1 : Int) (U : Nat → Nat → Int) (R : Option am_V × am_M) (h : (((x1 < 0 : Prop)) → R = (some (.inl 0), (am_sh, am_mm U))) ∧ (¬ (x1 < 0) → (0 ≤ (U 86 13) ∧ (U 86 13) < 2) ∧ ((((U 90 (U 86 13).toNat) ≤ x1 : Prop)) → R = (some (.inl 0), (am_sh, am_mm U))) ∧ (¬ ((U 90 (U 86 13).toNat) ≤ x1) → R = (some (.inl 1), (am_sh, am_mm U))))) : Ev (am_kz N X) (d, 108, 0, [some (.inr (.inr 86)), some (.inl x1)], [], (am_sh, am_mm U)) R := by
  refine ev_br (P := x1 < 0) (σ1 := (d, 108, 21, [some (.inr (.inr 86)), some (.inl x1)], [], (am_sh, am_mm U))) (σ2 := (d, 108, 4, [some (.inr (.inr 86)), some (.inl x1)], [], (am_sh, am_mm U))) 2 (fun _ => rfl) (fun hc => ?_) (fun hc => ?_)
  · have h1 := h.1 hc
    subst h1
    exact ev_end 2 (fun _ => rfl)
  · have h2 := h.2 hc
    refine ev_seg (σ1 := (d, 108, 13, [some (.inr (.inr 86)), some (.inl x1)], [.inl (U 86 13), .inr (.inr 90), .inl x1], (am_sh, am_mm U))) 5 (fun _ => rfl) ?_
    refine eu_iald 90 (n := 2) rfl (by decide) rfl (fun _ => rfl) h2.1 ?_
    have h2a := h2.2
    refine ev_br (P := (U 90 (U 86 13).toNat) ≤ x1) (σ1 := (d, 108, 21, [some (.inr (.inr 86)), some (.inl x1)], [], (am_sh, am_mm U))) (σ2 := (d, 108, 17, [some (.inr (.inr 86)), some (.inl x1)], [], (am_sh, am_mm U))) 1 (fun _ => rfl) (fun hc => ?_) (fun hc => ?_)
    · have h2a1 := h2a.1 hc
      subst h2a1
      exact ev_end 2 (fun _ => rfl)
    · have h2a2 := h2a.2 hc
      subst h2a2
      exact ev_end 3 (fun _ => rfl)
set_option maxRecDepth 8000 in
theorem st114_1_0 (N : Nat) (X : Nat → Int) (d : Nat) (x1 : Int) (U : Nat → Nat → Int) (R : Option am_V × am_M) (h : (((x1 < 0 : Prop)) → R = (some (.inl 0), (am_sh, am_mm U))) ∧ (¬ (x1 < 0) → ((((U 16 0) ≤ x1 : Prop)) → R = (some (.inl 0), (am_sh, am_mm U))) ∧ (¬ ((U 16 0) ≤ x1) → R = (some (.inl 1), (am_sh, am_mm U))))) : Ev (am_kz N X) (d, 114, 0, [some (.inr (.inr 1)), some (.inl x1)], [], (am_sh, am_mm U)) R := by
  refine ev_br (P := x1 < 0) (σ1 := (d, 114, 19, [some (.inr (.inr 1)), some (.inl x1)], [], (am_sh, am_mm U))) (σ2 := (d, 114, 4, [some (.inr (.inr 1)), some (.inl x1)], [], (am_sh, am_mm U))) 2 (fun _ => rfl) (fun hc => ?_) (fun hc => ?_)
  · have h1 := h.1 hc
    subst h1
    exact ev_end 2 (fun _ => rfl)
  · have h2 := h.2 hc
    refine ev_br (P := (U 16 0) ≤ x1) (σ1 := (d, 114, 19, [some (.inr (.inr 1)), some (.inl x1)], [], (am_sh, am_mm U))) (σ2 := (d, 114, 15, [some (.inr (.inr 1)), some (.inl x1)], [], (am_sh, am_mm U))) 5 (fun _ => rfl) (fun hc => ?_) (fun hc => ?_)
    · have h21 := h2.1 hc
      subst h21
      exact ev_end 2 (fun _ => rfl)
    · have h22 := h2.2 hc
      subst h22
      exact ev_end 3 (fun _ => rfl)
set_option maxRecDepth 8000 in
theorem st115_86_0 (N : Nat) (X : Nat → Int) (d : Nat) (x1 : Int) (U : Nat → Nat → Int) (R : Option am_V × am_M) (h : (((x1 < 0 : Prop)) → R = (some (.inl 0), (am_sh, am_mm U))) ∧ (¬ (x1 < 0) → ((((U 122 0) ≤ x1 : Prop)) → R = (some (.inl 0), (am_sh, am_mm U))) ∧ (¬ ((U 122 0) ≤ x1) → R = (some (.inl 1), (am_sh, am_mm U))))) : Ev (am_kz N X) (d, 115, 0, [some (.inr (.inr 86)), some (.inl x1)], [], (am_sh, am_mm U)) R := by
  refine ev_br (P := x1 < 0) (σ1 := (d, 115, 18, [some (.inr (.inr 86)), some (.inl x1)], [], (am_sh, am_mm U))) (σ2 := (d, 115, 4, [some (.inr (.inr 86)), some (.inl x1)], [], (am_sh, am_mm U))) 2 (fun _ => rfl) (fun hc => ?_) (fun hc => ?_)
  · have h1 := h.1 hc
    subst h1
    exact ev_end 2 (fun _ => rfl)
  · have h2 := h.2 hc
    refine ev_seg (σ1 := (d, 115, 10, [some (.inr (.inr 86)), some (.inl x1)], [.inl 0, .inr (.inr 122), .inl x1], (am_sh, am_mm U))) 4 (fun _ => rfl) ?_
    refine eu_iald 122 (n := 22) rfl (by decide) rfl (fun _ => rfl) (by decide) ?_
    show Ev (am_kz N X) (d, 115, 11, [some (.inr (.inr 86)), some (.inl x1)], [.inl (U 122 0), .inl x1], (am_sh, am_mm U)) R
    refine ev_br (P := (U 122 0) ≤ x1) (σ1 := (d, 115, 18, [some (.inr (.inr 86)), some (.inl x1)], [], (am_sh, am_mm U))) (σ2 := (d, 115, 14, [some (.inr (.inr 86)), some (.inl x1)], [], (am_sh, am_mm U))) 1 (fun _ => rfl) (fun hc => ?_) (fun hc => ?_)
    · have h21 := h2.1 hc
      subst h21
      exact ev_end 2 (fun _ => rfl)
    · have h22 := h2.2 hc
      subst h22
      exact ev_end 3 (fun _ => rfl)
set_option maxRecDepth 8000 in
theorem st116_45_0 (N : Nat) (X : Nat → Int) (d : Nat) (x1 : Int) (U : Nat → Nat → Int) (R : Option am_V × am_M) (h : ∃ U1 : Nat → Nat → Int, Ev (am_kz N X) (d, 199, 0, [some (.inr (.inr 45)), none, none], [], (am_sh, am_mm U)) (none, (am_sh, am_mm U1)) ∧ Ev (am_kz N X) ((d + 1), 116, 8, [some (.inr (.inr 45)), some (.inl x1), some (.inl 0), some (.inl 0), none], [], (am_sh, am_mm U1)) R) : Ev (am_kz N X) ((d + 1), 116, 0, [some (.inr (.inr 45)), some (.inl x1), none, none, none], [], (am_sh, am_mm U)) R := by
  refine ev_seg (σ1 := ((d + 1), 116, 1, [some (.inr (.inr 45)), some (.inl x1), none, none, none], [.inr (.inr 45)], (am_sh, am_mm U))) 1 (fun _ => rfl) ?_
  obtain ⟨U1, hc, ha⟩ := h
  refine ev_cal (σc := (d, 199, 0, [some (.inr (.inr 45)), none, none], [], (am_sh, am_mm U))) (fun _ => rfl) hc ?_
  show Ev (am_kz N X) ((d + 1), 116, 4, [some (.inr (.inr 45)), some (.inl x1), none, none, none], [], (am_sh, am_mm U1)) R
  refine ev_seg (σ1 := ((d + 1), 116, 8, [some (.inr (.inr 45)), some (.inl x1), some (.inl 0), some (.inl 0), none], [], (am_sh, am_mm U1))) 4 (fun _ => rfl) ?_
  exact ha
set_option maxRecDepth 8000 in
theorem st116_45_8 (N : Nat) (X : Nat → Int) (d : Nat) (x1 x2 x3 : Int) (U : Nat → Nat → Int) (R : Option am_V × am_M) (h : (((8 ≤ x3 : Prop)) → R = (some (.inl x2), (am_sh, am_mm U))) ∧ (¬ (8 ≤ x3) → (0 ≤ (w32 ((w32 (16 * x3)) + x1)) ∧ (w32 ((w32 (16 * x3)) + x1)) < 128) ∧ ∃ (r1 : Int) (U1 : Nat → Nat → Int), Ev (am_kz N X) (d, 98, 0, [some (.inl (U 47 (w32 ((w32 (16 * x3)) + x1)).toNat))], [], (am_sh, am_mm U)) (some (.inl r1), (am_sh, am_mm U1)) ∧ Ev (am_kz N X) ((d + 1), 116, 34, [some (.inr (.inr 45)), some (.inl x1), some (.inl (w32 (x2 + r1))), some (.inl x3), some (.inl 0)], [], (am_sh, am_mm U1)) R)) : Ev (am_kz N X) ((d + 1), 116, 8, [some (.inr (.inr 45)), some (.inl x1), some (.inl x2), some (.inl x3), none], [], (am_sh, am_mm U)) R := by
  refine ev_br (P := 8 ≤ x3) (σ1 := ((d + 1), 116, 72, [some (.inr (.inr 45)), some (.inl x1), some (.inl x2), some (.inl x3), none], [], (am_sh, am_mm U))) (σ2 := ((d + 1), 116, 14, [some (.inr (.inr 45)), some (.inl x1), some (.inl x2), some (.inl x3), none], [], (am_sh, am_mm U))) 3 (fun _ => rfl) (fun hc => ?_) (fun hc => ?_)
  · have h1 := h.1 hc
    subst h1
    exact ev_end 2 (fun _ => rfl)
  · have h2 := h.2 hc
    refine ev_seg (σ1 := ((d + 1), 116, 25, [some (.inr (.inr 45)), some (.inl x1), some (.inl x2), some (.inl x3), none], [.inl (w32 ((w32 (16 * x3)) + x1)), .inr (.inr 47), .inl x2], (am_sh, am_mm U))) 8 (fun _ => rfl) ?_
    refine eu_iald 47 (n := 128) rfl (by decide) rfl (fun _ => rfl) h2.1 ?_
    have h2a := h2.2
    obtain ⟨r1, U1, h2ac, h2aa⟩ := h2a
    refine ev_cal (σc := (d, 98, 0, [some (.inl (U 47 (w32 ((w32 (16 * x3)) + x1)).toNat))], [], (am_sh, am_mm U))) (fun _ => rfl) h2ac ?_
    show Ev (am_kz N X) ((d + 1), 116, 29, [some (.inr (.inr 45)), some (.inl x1), some (.inl x2), some (.inl x3), none], [.inl r1, .inl x2], (am_sh, am_mm U1)) R
    refine ev_seg (σ1 := ((d + 1), 116, 34, [some (.inr (.inr 45)), some (.inl x1), some (.inl (w32 (x2 + r1))), some (.inl x3), some (.inl 0)], [], (am_sh, am_mm U1))) 4 (fun _ => rfl) ?_
    exact h2aa
set_option maxRecDepth 8000 in
theorem st116_45_34 (N : Nat) (X : Nat → Int) (d : Nat) (x1 x2 x3 x4 : Int) (U : Nat → Nat → Int) (R : Option am_V × am_M) (h : (((16 ≤ x4 : Prop)) → Ev (am_kz N X) ((d + 1), 116, 8, [some (.inr (.inr 45)), some (.inl x1), some (.inl x2), some (.inl (w32 (x3 + 1))), some (.inl x4)], [], (am_sh, am_mm U)) R) ∧ (¬ (16 ≤ x4) → (0 ≤ (w32 ((w32 (16 * x3)) + x4)) ∧ (w32 ((w32 (16 * x3)) + x4)) < 128) ∧ Ev (am_kz N X) ((d + 1), 116, 34, [some (.inr (.inr 45)), some (.inl x1), some (.inl (w32 (x2 + (am_and (am_shr (U 47 (w32 ((w32 (16 * x3)) + x4)).toNat) x1) 1)))), some (.inl x3), some (.inl (w32 (x4 + 1)))], [], (am_sh, am_mm U)) R)) : Ev (am_kz N X) ((d + 1), 116, 34, [some (.inr (.inr 45)), some (.inl x1), some (.inl x2), some (.inl x3), some (.inl x4)], [], (am_sh, am_mm U)) R := by
  refine ev_br (P := 16 ≤ x4) (σ1 := ((d + 1), 116, 66, [some (.inr (.inr 45)), some (.inl x1), some (.inl x2), some (.inl x3), some (.inl x4)], [], (am_sh, am_mm U))) (σ2 := ((d + 1), 116, 41, [some (.inr (.inr 45)), some (.inl x1), some (.inl x2), some (.inl x3), some (.inl x4)], [], (am_sh, am_mm U))) 3 (fun _ => rfl) (fun hc => ?_) (fun hc => ?_)
  · have h1 := h.1 hc
    refine ev_seg (σ1 := ((d + 1), 116, 8, [some (.inr (.inr 45)), some (.inl x1), some (.inl x2), some (.inl (w32 (x3 + 1))), some (.inl x4)], [], (am_sh, am_mm U))) 2 (fun _ => rfl) ?_
    exact h1
  · have h2 := h.2 hc
    refine ev_seg (σ1 := ((d + 1), 116, 53, [some (.inr (.inr 45)), some (.inl x1), some (.inl x2), some (.inl x3), some (.inl x4)], [.inl (w32 ((w32 (16 * x3)) + x4)), .inr (.inr 47), .inl x2], (am_sh, am_mm U))) 8 (fun _ => rfl) ?_
    refine eu_iald 47 (n := 128) rfl (by decide) rfl (fun _ => rfl) h2.1 ?_
    have h2a := h2.2
    refine ev_seg (σ1 := ((d + 1), 116, 34, [some (.inr (.inr 45)), some (.inl x1), some (.inl (w32 (x2 + (am_and (am_shr (U 47 (w32 ((w32 (16 * x3)) + x4)).toNat) x1) 1)))), some (.inl x3), some (.inl (w32 (x4 + 1)))], [], (am_sh, am_mm U))) 8 (fun _ => rfl) ?_
    exact h2a
set_option maxRecDepth 8000 in
theorem st117_1_0 (N : Nat) (X : Nat → Int) (d : Nat) (x1 : Int) (U : Nat → Nat → Int) (R : Option am_V × am_M) (h : ∃ (r1 : Int) (U1 : Nat → Nat → Int), Ev (am_kz N X) (d, 204, 0, [some (.inr (.inr 45)), some (.inl x1), none], [], (am_sh, am_mm U)) (some (.inl r1), (am_sh, am_mm U1)) ∧ ∃ (r2 : Int) (U2 : Nat → Nat → Int), Ev (am_kz N X) (d, 205, 0, [some (.inr (.inr 45)), some (.inl x1), none, none, none], [], (am_sh, am_mm U1)) (some (.inl r2), (am_sh, am_mm U2)) ∧ Ev (am_kz N X) ((d + 1), 117, 23, [some (.inr (.inr 1)), some (.inl x1), some (.inl (am_or r1 r2)), some (.inl 0), some (.inl 0)], [], (am_sh, am_mm U2)) R) : Ev (am_kz N X) ((d + 1), 117, 0, [some (.inr (.inr 1)), some (.inl x1), none, none, none], [], (am_sh, am_mm U)) R := by
  refine ev_seg (σ1 := ((d + 1), 117, 5, [some (.inr (.inr 1)), some (.inl x1), none, none, none], [.inl x1, .inr (.inr 45)], (am_sh, am_mm U))) 3 (fun _ => rfl) ?_
  obtain ⟨r1, U1, hc, ha⟩ := h
  refine ev_cal (σc := (d, 204, 0, [some (.inr (.inr 45)), some (.inl x1), none], [], (am_sh, am_mm U))) (fun _ => rfl) hc ?_
  show Ev (am_kz N X) ((d + 1), 117, 8, [some (.inr (.inr 1)), some (.inl x1), none, none, none], [.inl r1], (am_sh, am_mm U1)) R
  refine ev_seg (σ1 := ((d + 1), 117, 13, [some (.inr (.inr 1)), some (.inl x1), none, none, none], [.inl x1, .inr (.inr 45), .inl r1], (am_sh, am_mm U1))) 3 (fun _ => rfl) ?_
  obtain ⟨r2, U2, hac, haa⟩ := ha
  refine ev_cal (σc := (d, 205, 0, [some (.inr (.inr 45)), some (.inl x1), none, none, none], [], (am_sh, am_mm U1))) (fun _ => rfl) hac ?_
  show Ev (am_kz N X) ((d + 1), 117, 16, [some (.inr (.inr 1)), some (.inl x1), none, none, none], [.inl r2, .inl r1], (am_sh, am_mm U2)) R
  refine ev_seg (σ1 := ((d + 1), 117, 23, [some (.inr (.inr 1)), some (.inl x1), some (.inl (am_or r1 r2)), some (.inl 0), some (.inl 0)], [], (am_sh, am_mm U2))) 6 (fun _ => rfl) ?_
  exact haa
set_option maxRecDepth 8000 in
theorem st117_1_23 (N : Nat) (X : Nat → Int) (d : Nat) (x1 x2 x3 x4 : Int) (U : Nat → Nat → Int) (R : Option am_V × am_M) (h : ((((U 16 0) ≤ x4 : Prop)) → R = (some (.inl x3), (am_sh, am_mm U))) ∧ (¬ ((U 16 0) ≤ x4) → (((¬ (am_and (am_shr x2 x4) 1) = 1 : Prop)) → Ev (am_kz N X) ((d + 1), 117, 23, [some (.inr (.inr 1)), some (.inl x1), some (.inl x2), some (.inl x3), some (.inl (w32 (x4 + 1)))], [], (am_sh, am_mm U)) R) ∧ (¬ (¬ (am_and (am_shr x2 x4) 1) = 1) → (0 ≤ x1 ∧ x1 < 16) ∧ (0 ≤ x4 ∧ x4 < 16) ∧ ∃ (r1 : Int) (U1 : Nat → Nat → Int), Ev (am_kz N X) (d, 153, 0, [some (.inl (U 17 x1.toNat)), some (.inl (U 17 x4.toNat)), none, none, none, none], [], (am_sh, am_mm U)) (some (.inl r1), (am_sh, am_mm U1)) ∧ (((r1 ≤ 1 : Prop)) → Ev (am_kz N X) ((d + 1), 117, 23, [some (.inr (.inr 1)), some (.inl x1), some (.inl x2), some (.inl x3), some (.inl (w32 (x4 + 1)))], [], (am_sh, am_mm U1)) R) ∧ (¬ (r1 ≤ 1) → Ev (am_kz N X) ((d + 1), 117, 23, [some (.inr (.inr 1)), some (.inl x1), some (.inl x2), some (.inl (am_or x3 (am_shl 1 x4))), some (.inl (w32 (x4 + 1)))], [], (am_sh, am_mm U1)) R)))) : Ev (am_kz N X) ((d + 1), 117, 23, [some (.inr (.inr 1)), some (.inl x1), some (.inl x2), some (.inl x3), some (.inl x4)], [], (am_sh, am_mm U)) R := by
  refine ev_br (P := (U 16 0) ≤ x4) (σ1 := ((d + 1), 117, 84, [some (.inr (.inr 1)), some (.inl x1), some (.inl x2), some (.inl x3), some (.inl x4)], [], (am_sh, am_mm U))) (σ2 := ((d + 1), 117, 35, [some (.inr (.inr 1)), some (.inl x1), some (.inl x2), some (.inl x3), some (.inl x4)], [], (am_sh, am_mm U))) 5 (fun _ => rfl) (fun hc => ?_) (fun hc => ?_)
  · have h1 := h.1 hc
    subst h1
    exact ev_end 2 (fun _ => rfl)
  · have h2 := h.2 hc
    refine ev_br (P := ¬ (am_and (am_shr x2 x4) 1) = 1) (σ1 := ((d + 1), 117, 78, [some (.inr (.inr 1)), some (.inl x1), some (.inl x2), some (.inl x3), some (.inl x4)], [], (am_sh, am_mm U))) (σ2 := ((d + 1), 117, 45, [some (.inr (.inr 1)), some (.inl x1), some (.inl x2), some (.inl x3), some (.inl x4)], [], (am_sh, am_mm U))) 7 (fun _ => rfl) (fun hc => ?_) (fun hc => ?_)
    · have h21 := h2.1 hc
      refine ev_seg (σ1 := ((d + 1), 117, 23, [some (.inr (.inr 1)), some (.inl x1), some (.inl x2), some (.inl x3), some (.inl (w32 (x4 + 1)))], [], (am_sh, am_mm U))) 2 (fun _ => rfl) ?_
      exact h21
    · have h22 := h2.2 hc
      refine ev_seg (σ1 := ((d + 1), 117, 53, [some (.inr (.inr 1)), some (.inl x1), some (.inl x2), some (.inl x3), some (.inl x4)], [.inl x1, .inr (.inr 17)], (am_sh, am_mm U))) 4 (fun _ => rfl) ?_
      refine eu_iald 17 (n := 16) rfl (by decide) rfl (fun _ => rfl) h22.1 ?_
      have h22a := h22.2
      refine ev_seg (σ1 := ((d + 1), 117, 63, [some (.inr (.inr 1)), some (.inl x1), some (.inl x2), some (.inl x3), some (.inl x4)], [.inl x4, .inr (.inr 17), .inl (U 17 x1.toNat)], (am_sh, am_mm U))) 4 (fun _ => rfl) ?_
      refine eu_iald 17 (n := 16) rfl (by decide) rfl (fun _ => rfl) h22a.1 ?_
      have h22aa := h22a.2
      obtain ⟨r1, U1, h22aac, h22aaa⟩ := h22aa
      refine ev_cal (σc := (d, 153, 0, [some (.inl (U 17 x1.toNat)), some (.inl (U 17 x4.toNat)), none, none, none, none], [], (am_sh, am_mm U))) (fun _ => rfl) h22aac ?_
      show Ev (am_kz N X) ((d + 1), 117, 67, [some (.inr (.inr 1)), some (.inl x1), some (.inl x2), some (.inl x3), some (.inl x4)], [.inl r1], (am_sh, am_mm U1)) R
      refine ev_br (P := r1 ≤ 1) (σ1 := ((d + 1), 117, 78, [some (.inr (.inr 1)), some (.inl x1), some (.inl x2), some (.inl x3), some (.inl x4)], [], (am_sh, am_mm U1))) (σ2 := ((d + 1), 117, 71, [some (.inr (.inr 1)), some (.inl x1), some (.inl x2), some (.inl x3), some (.inl x4)], [], (am_sh, am_mm U1))) 2 (fun _ => rfl) (fun hc => ?_) (fun hc => ?_)
      · have h22aaa1 := h22aaa.1 hc
        refine ev_seg (σ1 := ((d + 1), 117, 23, [some (.inr (.inr 1)), some (.inl x1), some (.inl x2), some (.inl x3), some (.inl (w32 (x4 + 1)))], [], (am_sh, am_mm U1))) 2 (fun _ => rfl) ?_
        exact h22aaa1
      · have h22aaa2 := h22aaa.2 hc
        refine ev_seg (σ1 := ((d + 1), 117, 23, [some (.inr (.inr 1)), some (.inl x1), some (.inl x2), some (.inl (am_or x3 (am_shl 1 x4))), some (.inl (w32 (x4 + 1)))], [], (am_sh, am_mm U1))) 8 (fun _ => rfl) ?_
        exact h22aaa2
set_option maxRecDepth 8000 in
theorem st119_16_0 (N : Nat) (X : Nat → Int) (d : Nat) (x1 : Int) (U : Nat → Nat → Int) (R : Option am_V × am_M) (h : (0 ≤ x1 ∧ x1 < 16) ∧ (((0 ≤ (am_lcmp (U 20 x1.toNat) 0) : Prop)) → (0 ≤ x1 ∧ x1 < 16) ∧ R = (some (.inr (.inl (U 20 x1.toNat))), (am_sh, am_mm U))) ∧ (¬ (0 ≤ (am_lcmp (U 20 x1.toNat) 0)) → (0 ≤ x1 ∧ x1 < 16) ∧ ∃ (r1 : Int) (U1 : Nat → Nat → Int), Ev (am_kz N X) (d, 206, 0, [some (.inl (if 0 ≤ (U 17 x1.toNat) then (U 17 x1.toNat) else w32 (-(U 17 x1.toNat)))), none, none, none, none, none, none, none, none], [], (am_sh, am_mm U)) (some (.inr (.inl r1)), (am_sh, am_mm U1)) ∧ (0 ≤ x1 ∧ x1 < 16) ∧ (0 ≤ x1 ∧ x1 < 16) ∧ R = (some (.inr (.inl ((am_upd U1 20 x1.toNat r1) 20 x1.toNat))), (am_sh, am_mm (am_upd U1 20 x1.toNat r1))))) : Ev (am_kz N X) ((d + 1), 119, 0, [some (.inr (.inr 16)), some (.inl x1)], [], (am_sh, am_mm U)) R := by
  refine ev_seg (σ1 := ((d + 1), 119, 5, [some (.inr (.inr 16)), some (.inl x1)], [.inl x1, .inr (.inr 20)], (am_sh, am_mm U))) 3 (fun _ => rfl) ?_
  refine eu_lald 20 (n := 16) rfl (by decide) rfl (fun _ => rfl) h.1 ?_
  have ha := h.2
  refine ev_br (P := 0 ≤ (am_lcmp (U 20 x1.toNat) 0)) (σ1 := ((d + 1), 119, 29, [some (.inr (.inr 16)), some (.inl x1)], [], (am_sh, am_mm U))) (σ2 := ((d + 1), 119, 11, [some (.inr (.inr 16)), some (.inl x1)], [], (am_sh, am_mm U))) 3 (fun _ => rfl) (fun hc => ?_) (fun hc => ?_)
  · have ha1 := ha.1 hc
    refine ev_seg (σ1 := ((d + 1), 119, 34, [some (.inr (.inr 16)), some (.inl x1)], [.inl x1, .inr (.inr 20)], (am_sh, am_mm U))) 3 (fun _ => rfl) ?_
    refine eu_lald 20 (n := 16) rfl (by decide) rfl (fun _ => rfl) ha1.1 ?_
    have ha1a := ha1.2
    subst ha1a
    exact ev_end 1 (fun _ => rfl)
  · have ha2 := ha.2 hc
    refine ev_seg (σ1 := ((d + 1), 119, 21, [some (.inr (.inr 16)), some (.inl x1)], [.inl x1, .inr (.inr 17), .inl x1, .inr (.inr 20)], (am_sh, am_mm U))) 6 (fun _ => rfl) ?_
    refine eu_iald 17 (n := 16) rfl (by decide) rfl (fun _ => rfl) ha2.1 ?_
    have ha2a := ha2.2
    refine ev_seg (σ1 := ((d + 1), 119, 25, [some (.inr (.inr 16)), some (.inl x1)], [.inl (if 0 ≤ (U 17 x1.toNat) then (U 17 x1.toNat) else w32 (-(U 17 x1.toNat))), .inl x1, .inr (.inr 20)], (am_sh, am_mm U))) 1 (fun _ => rfl) ?_
    obtain ⟨r1, U1, ha2ac, ha2aa⟩ := ha2a
    refine ev_cal (σc := (d, 206, 0, [some (.inl (if 0 ≤ (U 17 x1.toNat) then (U 17 x1.toNat) else w32 (-(U 17 x1.toNat)))), none, none, none, none, none, none, none, none], [], (am_sh, am_mm U))) (fun _ => rfl) ha2ac ?_
    show Ev (am_kz N X) ((d + 1), 119, 28, [some (.inr (.inr 16)), some (.inl x1)], [.inr (.inl r1), .inl x1, .inr (.inr 20)], (am_sh, am_mm U1)) R
    refine eu_last 20 (n := 16) rfl (by decide) rfl (fun _ => rfl) ha2aa.1 ?_
    have ha2aaa := ha2aa.2
    refine ev_seg (σ1 := ((d + 1), 119, 34, [some (.inr (.inr 16)), some (.inl x1)], [.inl x1, .inr (.inr 20)], (am_sh, am_mm (am_upd U1 20 x1.toNat r1)))) 3 (fun _ => rfl) ?_
    refine eu_lald 20 (n := 16) rfl (by decide) rfl (fun _ => rfl) ha2aaa.1 ?_
    have ha2aaaa := ha2aaa.2
    subst ha2aaaa
    exact ev_end 1 (fun _ => rfl)
set_option maxRecDepth 8000 in
theorem st123_0 (N : Nat) (X : Nat → Int) (d : Nat) (x0 : Int) (U : Nat → Nat → Int) (R : Option am_V × am_M) (h : ((((am_lcmp x0 1) ≤ 0 : Prop)) → Ev (am_kz N X) (d, 123, 17, [some (.inr (.inl x0)), none, some (.inr (.inl 0)), none, some (.inr (.inl 2)), none], [], (am_sh, am_mm U)) R) ∧ (¬ ((am_lcmp x0 1) ≤ 0) → Ev (am_kz N X) (d, 123, 17, [some (.inr (.inl x0)), none, some (.inr (.inl 1)), none, some (.inr (.inl 2)), none], [], (am_sh, am_mm U)) R)) : Ev (am_kz N X) (d, 123, 0, [some (.inr (.inl x0)), none, none, none, none, none], [], (am_sh, am_mm U)) R := by
  refine ev_br (P := (am_lcmp x0 1) ≤ 0) (σ1 := (d, 123, 10, [some (.inr (.inl x0)), none, none, none, none, none], [], (am_sh, am_mm U))) (σ2 := (d, 123, 6, [some (.inr (.inl x0)), none, none, none, none, none], [], (am_sh, am_mm U))) 4 (fun _ => rfl) (fun hc => ?_) (fun hc => ?_)
  · have h1 := h.1 hc
    refine ev_seg (σ1 := (d, 123, 17, [some (.inr (.inl x0)), none, some (.inr (.inl 0)), none, some (.inr (.inl 2)), none], [], (am_sh, am_mm U))) 4 (fun _ => rfl) ?_
    exact h1
  · have h2 := h.2 hc
    refine ev_seg (σ1 := (d, 123, 17, [some (.inr (.inl x0)), none, some (.inr (.inl 1)), none, some (.inr (.inl 2)), none], [], (am_sh, am_mm U))) 5 (fun _ => rfl) ?_
    exact h2
set_option maxRecDepth 8000 in
theorem st123_17 (N : Nat) (X : Nat → Int) (d : Nat) (x0 x2 x4 : Int) (U : Nat → Nat → Int) (R : Option am_V × am_M) (h : (((0 < (am_lcmp (w64 (x4 * x4)) x0) : Prop)) → R = (some (.inr (.inl x2)), (am_sh, am_mm U))) ∧ (¬ (0 < (am_lcmp (w64 (x4 * x4)) x0)) → x4 ≠ 0 ∧ ((((am_lcmp (Int.tmod x0 x4) 0) = 0 : Prop)) → (((¬ (am_lcmp (w64 (x4 * x4)) x0) = 0 : Prop)) → x4 ≠ 0 ∧ Ev (am_kz N X) (d, 123, 17, [some (.inr (.inl x0)), none, some (.inr (.inl (w64 (x2 + (w64 (x4 + (w64 (Int.tdiv x0 x4)))))))), none, some (.inr (.inl (w64 (x4 + 1)))), none], [], (am_sh, am_mm U)) R) ∧ (¬ (¬ (am_lcmp (w64 (x4 * x4)) x0) = 0) → Ev (am_kz N X) (d, 123, 17, [some (.inr (.inl x0)), none, some (.inr (.inl (w64 (x2 + x4)))), none, some (.inr (.inl (w64 (x4 + 1)))), none], [], (am_sh, am_mm U)) R)) ∧ (¬ ((am_lcmp (Int.tmod x0 x4) 0) = 0) → Ev (am_kz N X) (d, 123, 17, [some (.inr (.inl x0)), none, some (.inr (.inl x2)), none, some (.inr (.inl (w64 (x4 + 1)))), none], [], (am_sh, am_mm U)) R))) : Ev (am_kz N X) (d, 123, 17, [some (.inr (.inl x0)), none, some (.inr (.inl x2)), none, some (.inr (.inl x4)), none], [], (am_sh, am_mm U)) R := by
  refine ev_br (P := 0 < (am_lcmp (w64 (x4 * x4)) x0)) (σ1 := (d, 123, 73, [some (.inr (.inl x0)), none, some (.inr (.inl x2)), none, some (.inr (.inl x4)), none], [], (am_sh, am_mm U))) (σ2 := (d, 123, 27, [some (.inr (.inl x0)), none, some (.inr (.inl x2)), none, some (.inr (.inl x4)), none], [], (am_sh, am_mm U))) 6 (fun _ => rfl) (fun hc => ?_) (fun hc => ?_)
  · have h1 := h.1 hc
    subst h1
    exact ev_end 2 (fun _ => rfl)
  · have h2 := h.2 hc
    refine ev_seg (σ1 := (d, 123, 30, [some (.inr (.inl x0)), none, some (.inr (.inl x2)), none, some (.inr (.inl x4)), none], [.inr (.inl x4), .inr (.inl x0)], (am_sh, am_mm U))) 2 (fun _ => rfl) ?_
    refine ev_lrem rfl h2.1 ?_
    have h2a := h2.2
    refine ev_br (P := (am_lcmp (Int.tmod x0 x4) 0) = 0) (σ1 := (d, 123, 39, [some (.inr (.inl x0)), none, some (.inr (.inl x2)), none, some (.inr (.inl x4)), none], [], (am_sh, am_mm U))) (σ2 := (d, 123, 36, [some (.inr (.inl x0)), none, some (.inr (.inl x2)), none, some (.inr (.inl x4)), none], [], (am_sh, am_mm U))) 3 (fun _ => rfl) (fun hc => ?_) (fun hc => ?_)
    · have h2a1 := h2a.1 hc
      refine ev_br (P := ¬ (am_lcmp (w64 (x4 * x4)) x0) = 0) (σ1 := (d, 123, 55, [some (.inr (.inl x0)), none, some (.inr (.inl x2)), none, some (.inr (.inl x4)), none], [.inr (.inl x2)], (am_sh, am_mm U))) (σ2 := (d, 123, 50, [some (.inr (.inl x0)), none, some (.inr (.inl x2)), none, some (.inr (.inl x4)), none], [.inr (.inl x2)], (am_sh, am_mm U))) 7 (fun _ => rfl) (fun hc => ?_) (fun hc => ?_)
      · have h2a11 := h2a1.1 hc
        refine ev_seg (σ1 := (d, 123, 60, [some (.inr (.inl x0)), none, some (.inr (.inl x2)), none, some (.inr (.inl x4)), none], [.inr (.inl x4), .inr (.inl x0), .inr (.inl x4), .inr (.inl x2)], (am_sh, am_mm U))) 3 (fun _ => rfl) ?_
        refine ev_ldiv rfl h2a11.1 ?_
        have h2a11a := h2a11.2
        refine ev_seg (σ1 := (d, 123, 17, [some (.inr (.inl x0)), none, some (.inr (.inl (w64 (x2 + (w64 (x4 + (w64 (Int.tdiv x0 x4)))))))), none, some (.inr (.inl (w64 (x4 + 1)))), none], [], (am_sh, am_mm U))) 8 (fun _ => rfl) ?_
        exact h2a11a
      · have h2a12 := h2a1.2 hc
        refine ev_seg (σ1 := (d, 123, 17, [some (.inr (.inl x0)), none, some (.inr (.inl (w64 (x2 + x4)))), none, some (.inr (.inl (w64 (x4 + 1)))), none], [], (am_sh, am_mm U))) 9 (fun _ => rfl) ?_
        exact h2a12
    · have h2a2 := h2a.2 hc
      refine ev_seg (σ1 := (d, 123, 17, [some (.inr (.inl x0)), none, some (.inr (.inl x2)), none, some (.inr (.inl (w64 (x4 + 1)))), none], [], (am_sh, am_mm U))) 6 (fun _ => rfl) ?_
      exact h2a2
set_option maxRecDepth 8000 in
theorem st120_86_0 (N : Nat) (X : Nat → Int) (d : Nat) (x1 x2 : Int) (U : Nat → Nat → Int) (R : Option am_V × am_M) (h : ∃ (r1 : Int) (U1 : Nat → Nat → Int), Ev (am_kz N X) (d, 207, 0, [some (.inr (.inr 86)), some (.inl x1), some (.inl x2)], [], (am_sh, am_mm U)) (some (.inl r1), (am_sh, am_mm U1)) ∧ (((r1 = 0 : Prop)) → R = (some (.inl 0), (am_sh, am_mm U1))) ∧ (¬ (r1 = 0) → (0 ≤ x1 ∧ x1 < 352) ∧ (0 ≤ x2 ∧ x2 < 352) ∧ ∃ (r2 : Int) (U2 : Nat → Nat → Int), Ev (am_kz N X) (d, 154, 0, [some (.inr (.inl (U1 123 x1.toNat))), none, some (.inr (.inl (U1 123 x2.toNat))), none, none, none, none, none, none, none], [], (am_sh, am_mm U1)) (some (.inr (.inl r2)), (am_sh, am_mm U2)) ∧ ((((am_lcmp r2 1) ≤ 0 : Prop)) → R = (some (.inl 0), (am_sh, am_mm U2))) ∧ (¬ ((am_lcmp r2 1) ≤ 0) → R = (some (.inl 1), (am_sh, am_mm U2))))) : Ev (am_kz N X) ((d + 1), 120, 0, [some (.inr (.inr 86)), some (.inl x1), some (.inl x2)], [], (am_sh, am_mm U)) R := by
  refine ev_seg (σ1 := ((d + 1), 120, 3, [some (.inr (.inr 86)), some (.inl x1), some (.inl x2)], [.inl x2, .inl x1, .inr (.inr 86)], (am_sh, am_mm U))) 3 (fun _ => rfl) ?_
  obtain ⟨r1, U1, hc, ha⟩ := h
  refine ev_cal (σc := (d, 207, 0, [some (.inr (.inr 86)), some (.inl x1), some (.inl x2)], [], (am_sh, am_mm U))) (fun _ => rfl) hc ?_
  show Ev (am_kz N X) ((d + 1), 120, 6, [some (.inr (.inr 86)), some (.inl x1), some (.inl x2)], [.inl r1], (am_sh, am_mm U1)) R
  refine ev_br (P := r1 = 0) (σ1 := ((d + 1), 120, 35, [some (.inr (.inr 86)), some (.inl x1), some (.inl x2)], [], (am_sh, am_mm U1))) (σ2 := ((d + 1), 120, 9, [some (.inr (.inr 86)), some (.inl x1), some (.inl x2)], [], (am_sh, am_mm U1))) 1 (fun _ => rfl) (fun hc => ?_) (fun hc => ?_)
  · have ha1 := ha.1 hc
    subst ha1
    exact ev_end 2 (fun _ => rfl)
  · have ha2 := ha.2 hc
    refine ev_seg (σ1 := ((d + 1), 120, 14, [some (.inr (.inr 86)), some (.inl x1), some (.inl x2)], [.inl x1, .inr (.inr 123)], (am_sh, am_mm U1))) 3 (fun _ => rfl) ?_
    refine eu_iald 123 (n := 352) rfl (by decide) rfl (fun _ => rfl) ha2.1 ?_
    have ha2a := ha2.2
    refine ev_seg (σ1 := ((d + 1), 120, 21, [some (.inr (.inr 86)), some (.inl x1), some (.inl x2)], [.inl x2, .inr (.inr 123), .inr (.inl (U1 123 x1.toNat))], (am_sh, am_mm U1))) 4 (fun _ => rfl) ?_
    refine eu_iald 123 (n := 352) rfl (by decide) rfl (fun _ => rfl) ha2a.1 ?_
    have ha2aa := ha2a.2
    refine ev_seg (σ1 := ((d + 1), 120, 23, [some (.inr (.inr 86)), some (.inl x1), some (.inl x2)], [.inr (.inl (U1 123 x2.toNat)), .inr (.inl (U1 123 x1.toNat))], (am_sh, am_mm U1))) 1 (fun _ => rfl) ?_
    obtain ⟨r2, U2, ha2aac, ha2aaa⟩ := ha2aa
    refine ev_cal (σc := (d, 154, 0, [some (.inr (.inl (U1 123 x1.toNat))), none, some (.inr (.inl (U1 123 x2.toNat))), none, none, none, none, none, none, none], [], (am_sh, am_mm U1))) (fun _ => rfl) ha2aac ?_
    show Ev (am_kz N X) ((d + 1), 120, 26, [some (.inr (.inr 86)), some (.inl x1), some (.inl x2)], [.inr (.inl r2)], (am_sh, am_mm U2)) R
    refine ev_br (P := (am_lcmp r2 1) ≤ 0) (σ1 := ((d + 1), 120, 35, [some (.inr (.inr 86)), some (.inl x1), some (.inl x2)], [], (am_sh, am_mm U2))) (σ2 := ((d + 1), 120, 31, [some (.inr (.inr 86)), some (.inl x1), some (.inl x2)], [], (am_sh, am_mm U2))) 3 (fun _ => rfl) (fun hc => ?_) (fun hc => ?_)
    · have ha2aaa1 := ha2aaa.1 hc
      subst ha2aaa1
      exact ev_end 2 (fun _ => rfl)
    · have ha2aaa2 := ha2aaa.2 hc
      subst ha2aaa2
      exact ev_end 3 (fun _ => rfl)
set_option maxRecDepth 8000 in
theorem st122_0 (N : Nat) (X : Nat → Int) (d : Nat) (x0 : Int) (U : Nat → Nat → Int) (R : Option am_V × am_M) (h : ((((am_lcmp x0 1) ≤ 0 : Prop)) → R = (some (.inl 0), (am_sh, am_mm U))) ∧ (¬ ((am_lcmp x0 1) ≤ 0) → ∃ (r1 : Int) (U1 : Nat → Nat → Int), Ev (am_kz N X) (d, 209, 0, [some (.inr (.inl x0)), none, some (.inr (.inl 2)), none, none, none, none, none, none, none], [], (am_sh, am_mm U)) (some (.inl r1), (am_sh, am_mm U1)) ∧ (((r1 = 0 : Prop)) → R = (some (.inl 0), (am_sh, am_mm U1))) ∧ (¬ (r1 = 0) → ∃ (r2 : Int) (U2 : Nat → Nat → Int), Ev (am_kz N X) (d, 209, 0, [some (.inr (.inl x0)), none, some (.inr (.inl 3)), none, none, none, none, none, none, none], [], (am_sh, am_mm U1)) (some (.inl r2), (am_sh, am_mm U2)) ∧ (((r2 = 0 : Prop)) → R = (some (.inl 0), (am_sh, am_mm U2))) ∧ (¬ (r2 = 0) → ∃ (r3 : Int) (U3 : Nat → Nat → Int), Ev (am_kz N X) (d, 209, 0, [some (.inr (.inl x0)), none, some (.inr (.inl 5)), none, none, none, none, none, none, none], [], (am_sh, am_mm U2)) (some (.inl r3), (am_sh, am_mm U3)) ∧ (((r3 = 0 : Prop)) → R = (some (.inl 0), (am_sh, am_mm U3))) ∧ (¬ (r3 = 0) → ∃ (r4 : Int) (U4 : Nat → Nat → Int), Ev (am_kz N X) (d, 209, 0, [some (.inr (.inl x0)), none, some (.inr (.inl 7)), none, none, none, none, none, none, none], [], (am_sh, am_mm U3)) (some (.inl r4), (am_sh, am_mm U4)) ∧ (((r4 = 0 : Prop)) → R = (some (.inl 0), (am_sh, am_mm U4))) ∧ (¬ (r4 = 0) → R = (some (.inl 1), (am_sh, am_mm U4)))))))) : Ev (am_kz N X) ((d + 1), 122, 0, [some (.inr (.inl x0)), none], [], (am_sh, am_mm U)) R := by
  refine ev_br (P := (am_lcmp x0 1) ≤ 0) (σ1 := ((d + 1), 122, 50, [some (.inr (.inl x0)), none], [], (am_sh, am_mm U))) (σ2 := ((d + 1), 122, 6, [some (.inr (.inl x0)), none], [], (am_sh, am_mm U))) 4 (fun _ => rfl) (fun hc => ?_) (fun hc => ?_)
  · have h1 := h.1 hc
    subst h1
    exact ev_end 2 (fun _ => rfl)
  · have h2 := h.2 hc
    refine ev_seg (σ1 := ((d + 1), 122, 10, [some (.inr (.inl x0)), none], [.inr (.inl 2), .inr (.inl x0)], (am_sh, am_mm U))) 2 (fun _ => rfl) ?_
    obtain ⟨r1, U1, h2c, h2a⟩ := h2
    refine ev_cal (σc := (d, 209, 0, [some (.inr (.inl x0)), none, some (.inr (.inl 2)), none, none, none, none, none, none, none], [], (am_sh, am_mm U))) (fun _ => rfl) h2c ?_
    show Ev (am_kz N X) ((d + 1), 122, 13, [some (.inr (.inl x0)), none], [.inl r1], (am_sh, am_mm U1)) R
    refine ev_br (P := r1 = 0) (σ1 := ((d + 1), 122, 50, [some (.inr (.inl x0)), none], [], (am_sh, am_mm U1))) (σ2 := ((d + 1), 122, 16, [some (.inr (.inl x0)), none], [], (am_sh, am_mm U1))) 1 (fun _ => rfl) (fun hc => ?_) (fun hc => ?_)
    · have h2a1 := h2a.1 hc
      subst h2a1
      exact ev_end 2 (fun _ => rfl)
    · have h2a2 := h2a.2 hc
      refine ev_seg (σ1 := ((d + 1), 122, 20, [some (.inr (.inl x0)), none], [.inr (.inl 3), .inr (.inl x0)], (am_sh, am_mm U1))) 2 (fun _ => rfl) ?_
      obtain ⟨r2, U2, h2a2c, h2a2a⟩ := h2a2
      refine ev_cal (σc := (d, 209, 0, [some (.inr (.inl x0)), none, some (.inr (.inl 3)), none, none, none, none, none, none, none], [], (am_sh, am_mm U1))) (fun _ => rfl) h2a2c ?_
      show Ev (am_kz N X) ((d + 1), 122, 23, [some (.inr (.inl x0)), none], [.inl r2], (am_sh, am_mm U2)) R
      refine ev_br (P := r2 = 0) (σ1 := ((d + 1), 122, 50, [some (.inr (.inl x0)), none], [], (am_sh, am_mm U2))) (σ2 := ((d + 1), 122, 26, [some (.inr (.inl x0)), none], [], (am_sh, am_mm U2))) 1 (fun _ => rfl) (fun hc => ?_) (fun hc => ?_)
      · have h2a2a1 := h2a2a.1 hc
        subst h2a2a1
        exact ev_end 2 (fun _ => rfl)
      · have h2a2a2 := h2a2a.2 hc
        refine ev_seg (σ1 := ((d + 1), 122, 30, [some (.inr (.inl x0)), none], [.inr (.inl 5), .inr (.inl x0)], (am_sh, am_mm U2))) 2 (fun _ => rfl) ?_
        obtain ⟨r3, U3, h2a2a2c, h2a2a2a⟩ := h2a2a2
        refine ev_cal (σc := (d, 209, 0, [some (.inr (.inl x0)), none, some (.inr (.inl 5)), none, none, none, none, none, none, none], [], (am_sh, am_mm U2))) (fun _ => rfl) h2a2a2c ?_
        show Ev (am_kz N X) ((d + 1), 122, 33, [some (.inr (.inl x0)), none], [.inl r3], (am_sh, am_mm U3)) R
        refine ev_br (P := r3 = 0) (σ1 := ((d + 1), 122, 50, [some (.inr (.inl x0)), none], [], (am_sh, am_mm U3))) (σ2 := ((d + 1), 122, 36, [some (.inr (.inl x0)), none], [], (am_sh, am_mm U3))) 1 (fun _ => rfl) (fun hc => ?_) (fun hc => ?_)
        · have h2a2a2a1 := h2a2a2a.1 hc
          subst h2a2a2a1
          exact ev_end 2 (fun _ => rfl)
        · have h2a2a2a2 := h2a2a2a.2 hc
          refine ev_seg (σ1 := ((d + 1), 122, 40, [some (.inr (.inl x0)), none], [.inr (.inl 7), .inr (.inl x0)], (am_sh, am_mm U3))) 2 (fun _ => rfl) ?_
          obtain ⟨r4, U4, h2a2a2a2c, h2a2a2a2a⟩ := h2a2a2a2
          refine ev_cal (σc := (d, 209, 0, [some (.inr (.inl x0)), none, some (.inr (.inl 7)), none, none, none, none, none, none, none], [], (am_sh, am_mm U3))) (fun _ => rfl) h2a2a2a2c ?_
          show Ev (am_kz N X) ((d + 1), 122, 43, [some (.inr (.inl x0)), none], [.inl r4], (am_sh, am_mm U4)) R
          refine ev_br (P := r4 = 0) (σ1 := ((d + 1), 122, 50, [some (.inr (.inl x0)), none], [], (am_sh, am_mm U4))) (σ2 := ((d + 1), 122, 46, [some (.inr (.inl x0)), none], [], (am_sh, am_mm U4))) 1 (fun _ => rfl) (fun hc => ?_) (fun hc => ?_)
          · have h2a2a2a2a1 := h2a2a2a2a.1 hc
            subst h2a2a2a2a1
            exact ev_end 2 (fun _ => rfl)
          · have h2a2a2a2a2 := h2a2a2a2a.2 hc
            subst h2a2a2a2a2
            exact ev_end 3 (fun _ => rfl)
set_option maxRecDepth 8000 in
theorem st121_86_0 (N : Nat) (X : Nat → Int) (d : Nat) (x1 : Int) (U : Nat → Nat → Int) (R : Option am_V × am_M) (h : (0 ≤ x1 ∧ x1 < 352) ∧ ∃ (r1 : Int) (U1 : Nat → Nat → Int), Ev (am_kz N X) (d, 208, 0, [some (.inr (.inl (U 123 x1.toNat))), none], [], (am_sh, am_mm U)) (some (.inr (.inl r1)), (am_sh, am_mm U1)) ∧ R = (some (.inr (.inl r1)), (am_sh, am_mm U1))) : Ev (am_kz N X) ((d + 1), 121, 0, [some (.inr (.inr 86)), some (.inl x1)], [], (am_sh, am_mm U)) R := by
  refine ev_seg (σ1 := ((d + 1), 121, 5, [some (.inr (.inr 86)), some (.inl x1)], [.inl x1, .inr (.inr 123)], (am_sh, am_mm U))) 3 (fun _ => rfl) ?_
  refine eu_iald 123 (n := 352) rfl (by decide) rfl (fun _ => rfl) h.1 ?_
  have ha := h.2
  refine ev_seg (σ1 := ((d + 1), 121, 7, [some (.inr (.inr 86)), some (.inl x1)], [.inr (.inl (U 123 x1.toNat))], (am_sh, am_mm U))) 1 (fun _ => rfl) ?_
  obtain ⟨r1, U1, hac, haa⟩ := ha
  refine ev_cal (σc := (d, 208, 0, [some (.inr (.inl (U 123 x1.toNat))), none], [], (am_sh, am_mm U))) (fun _ => rfl) hac ?_
  show Ev (am_kz N X) ((d + 1), 121, 10, [some (.inr (.inr 86)), some (.inl x1)], [.inr (.inl r1)], (am_sh, am_mm U1)) R
  subst haa
  exact ev_end 1 (fun _ => rfl)
set_option maxRecDepth 8000 in
theorem st126_0 (N : Nat) (X : Nat → Int) (d : Nat) (x0 : Int) (U : Nat → Nat → Int) (R : Option am_V × am_M) (h : R = (some (.inl (Int.tmod (w32 (Int.tdiv x0 32)) 16)), (am_sh, am_mm U))) : Ev (am_kz N X) (d, 126, 0, [some (.inl x0)], [], (am_sh, am_mm U)) R := by
  refine ev_seg (σ1 := (d, 126, 3, [some (.inl x0)], [.inl 32, .inl x0], (am_sh, am_mm U))) 2 (fun _ => rfl) ?_
  refine ev_idiv rfl (by decide) ?_
  refine ev_seg (σ1 := (d, 126, 6, [some (.inl x0)], [.inl 16, .inl (w32 (Int.tdiv x0 32))], (am_sh, am_mm U))) 1 (fun _ => rfl) ?_
  refine ev_irem rfl (by decide) ?_
  subst h
  exact ev_end 1 (fun _ => rfl)
set_option maxRecDepth 8000 in
theorem st125_0 (N : Nat) (X : Nat → Int) (d : Nat) (x0 : Int) (U : Nat → Nat → Int) (R : Option am_V × am_M) (h : R = (some (.inl (w32 (Int.tdiv (w32 (Int.tdiv x0 32)) 16))), (am_sh, am_mm U))) : Ev (am_kz N X) (d, 125, 0, [some (.inl x0)], [], (am_sh, am_mm U)) R := by
  refine ev_seg (σ1 := (d, 125, 3, [some (.inl x0)], [.inl 32, .inl x0], (am_sh, am_mm U))) 2 (fun _ => rfl) ?_
  refine ev_idiv rfl (by decide) ?_
  refine ev_seg (σ1 := (d, 125, 6, [some (.inl x0)], [.inl 16, .inl (w32 (Int.tdiv x0 32))], (am_sh, am_mm U))) 1 (fun _ => rfl) ?_
  refine ev_idiv rfl (by decide) ?_
  subst h
  exact ev_end 1 (fun _ => rfl)
set_option maxRecDepth 8000 in
theorem st127_0 (N : Nat) (X : Nat → Int) (d : Nat) (x0 : Int) (U : Nat → Nat → Int) (R : Option am_V × am_M) (h : (((¬ (Int.tmod x0 32) = 16 : Prop)) → R = (some (.inl (Int.tmod x0 32)), (am_sh, am_mm U))) ∧ (¬ (¬ (Int.tmod x0 32) = 16) → R = (some (.inl (-1)), (am_sh, am_mm U)))) : Ev (am_kz N X) (d, 127, 0, [some (.inl x0)], [], (am_sh, am_mm U)) R := by
  refine ev_seg (σ1 := (d, 127, 3, [some (.inl x0)], [.inl 32, .inl x0], (am_sh, am_mm U))) 2 (fun _ => rfl) ?_
  refine ev_irem rfl (by decide) ?_
  refine ev_br (P := ¬ (Int.tmod x0 32) = 16) (σ1 := (d, 127, 13, [some (.inl x0)], [], (am_sh, am_mm U))) (σ2 := (d, 127, 9, [some (.inl x0)], [], (am_sh, am_mm U))) 2 (fun _ => rfl) (fun hc => ?_) (fun hc => ?_)
  · have h1 := h.1 hc
    refine ev_seg (σ1 := (d, 127, 16, [some (.inl x0)], [.inl 32, .inl x0], (am_sh, am_mm U))) 2 (fun _ => rfl) ?_
    refine ev_irem rfl (by decide) ?_
    subst h1
    exact ev_end 1 (fun _ => rfl)
  · have h2 := h.2 hc
    subst h2
    exact ev_end 3 (fun _ => rfl)
set_option maxRecDepth 8000 in
theorem st124_45_0 (N : Nat) (X : Nat → Int) (d : Nat) (x1 : Int) (U : Nat → Nat → Int) (R : Option am_V × am_M) (h : ∃ U1 : Nat → Nat → Int, Ev (am_kz N X) (d, 199, 0, [some (.inr (.inr 45)), none, none], [], (am_sh, am_mm U)) (none, (am_sh, am_mm U1)) ∧ Ev (am_kz N X) ((d + 1), 124, 8, [some (.inr (.inr 45)), some (.inl x1), some (.inl x1), some (.inl 0), none], [], (am_sh, am_mm U1)) R) : Ev (am_kz N X) ((d + 1), 124, 0, [some (.inr (.inr 45)), some (.inl x1), none, none, none], [], (am_sh, am_mm U)) R := by
  refine ev_seg (σ1 := ((d + 1), 124, 1, [some (.inr (.inr 45)), some (.inl x1), none, none, none], [.inr (.inr 45)], (am_sh, am_mm U))) 1 (fun _ => rfl) ?_
  obtain ⟨U1, hc, ha⟩ := h
  refine ev_cal (σc := (d, 199, 0, [some (.inr (.inr 45)), none, none], [], (am_sh, am_mm U))) (fun _ => rfl) hc ?_
  show Ev (am_kz N X) ((d + 1), 124, 4, [some (.inr (.inr 45)), some (.inl x1), none, none, none], [], (am_sh, am_mm U1)) R
  refine ev_seg (σ1 := ((d + 1), 124, 8, [some (.inr (.inr 45)), some (.inl x1), some (.inl x1), some (.inl 0), none], [], (am_sh, am_mm U1))) 4 (fun _ => rfl) ?_
  exact ha
set_option maxRecDepth 8000 in
theorem st124_45_8 (N : Nat) (X : Nat → Int) (d : Nat) (x1 x2 x3 : Int) (U : Nat → Nat → Int) (R : Option am_V × am_M) (h : (((128 ≤ x3 : Prop)) → R = (some (.inl (-1)), (am_sh, am_mm U))) ∧ (¬ (128 ≤ x3) → (((x2 < 0 : Prop)) → R = (some (.inl (-1)), (am_sh, am_mm U))) ∧ (¬ (x2 < 0) → (0 ≤ x3 ∧ x3 < 128) ∧ ∃ (r1 : Int) (U1 : Nat → Nat → Int), Ev (am_kz N X) (d, 98, 0, [some (.inl (U 47 x3.toNat))], [], (am_sh, am_mm U)) (some (.inl r1), (am_sh, am_mm U1)) ∧ (((r1 ≤ x2 : Prop)) → Ev (am_kz N X) ((d + 1), 124, 8, [some (.inr (.inr 45)), some (.inl x1), some (.inl (w32 (x2 - r1))), some (.inl (w32 (x3 + 1))), some (.inl r1)], [], (am_sh, am_mm U1)) R) ∧ (¬ (r1 ≤ x2) → (0 ≤ x3 ∧ x3 < 128) ∧ ∃ (r2 : Int) (U2 : Nat → Nat → Int), Ev (am_kz N X) (d, 107, 0, [some (.inl (U1 47 x3.toNat)), some (.inl x2), none, none], [], (am_sh, am_mm U1)) (some (.inl r2), (am_sh, am_mm U2)) ∧ R = (some (.inl (w32 ((w32 (32 * x3)) + r2))), (am_sh, am_mm U2)))))) : Ev (am_kz N X) ((d + 1), 124, 8, [some (.inr (.inr 45)), some (.inl x1), some (.inl x2), some (.inl x3), none], [], (am_sh, am_mm U)) R := by
  refine ev_br (P := 128 ≤ x3) (σ1 := ((d + 1), 124, 65, [some (.inr (.inr 45)), some (.inl x1), some (.inl x2), some (.inl x3), none], [], (am_sh, am_mm U))) (σ2 := ((d + 1), 124, 17, [some (.inr (.inr 45)), some (.inl x1), some (.inl x2), some (.inl x3), none], [], (am_sh, am_mm U))) 5 (fun _ => rfl) (fun hc => ?_) (fun hc => ?_)
  · have h1 := h.1 hc
    subst h1
    exact ev_end 2 (fun _ => rfl)
  · have h2 := h.2 hc
    refine ev_br (P := x2 < 0) (σ1 := ((d + 1), 124, 65, [some (.inr (.inr 45)), some (.inl x1), some (.inl x2), some (.inl x3), none], [], (am_sh, am_mm U))) (σ2 := ((d + 1), 124, 21, [some (.inr (.inr 45)), some (.inl x1), some (.inl x2), some (.inl x3), none], [], (am_sh, am_mm U))) 2 (fun _ => rfl) (fun hc => ?_) (fun hc => ?_)
    · have h21 := h2.1 hc
      subst h21
      exact ev_end 2 (fun _ => rfl)
    · have h22 := h2.2 hc
      refine ev_seg (σ1 := ((d + 1), 124, 26, [some (.inr (.inr 45)), some (.inl x1), some (.inl x2), some (.inl x3), none], [.inl x3, .inr (.inr 47)], (am_sh, am_mm U))) 3 (fun _ => rfl) ?_
      refine eu_iald 47 (n := 128) rfl (by decide) rfl (fun _ => rfl) h22.1 ?_
      have h22a := h22.2
      obtain ⟨r1, U1, h22ac, h22aa⟩ := h22a
      refine ev_cal (σc := (d, 98, 0, [some (.inl (U 47 x3.toNat))], [], (am_sh, am_mm U))) (fun _ => rfl) h22ac ?_
      show Ev (am_kz N X) ((d + 1), 124, 30, [some (.inr (.inr 45)), some (.inl x1), some (.inl x2), some (.inl x3), none], [.inl r1], (am_sh, am_mm U1)) R
      refine ev_br (P := r1 ≤ x2) (σ1 := ((d + 1), 124, 54, [some (.inr (.inr 45)), some (.inl x1), some (.inl x2), some (.inl x3), some (.inl r1)], [], (am_sh, am_mm U1))) (σ2 := ((d + 1), 124, 38, [some (.inr (.inr 45)), some (.inl x1), some (.inl x2), some (.inl x3), some (.inl r1)], [], (am_sh, am_mm U1))) 4 (fun _ => rfl) (fun hc => ?_) (fun hc => ?_)
      · have h22aa1 := h22aa.1 hc
        refine ev_seg (σ1 := ((d + 1), 124, 8, [some (.inr (.inr 45)), some (.inl x1), some (.inl (w32 (x2 - r1))), some (.inl (w32 (x3 + 1))), some (.inl r1)], [], (am_sh, am_mm U1))) 6 (fun _ => rfl) ?_
        exact h22aa1
      · have h22aa2 := h22aa.2 hc
        refine ev_seg (σ1 := ((d + 1), 124, 47, [some (.inr (.inr 45)), some (.inl x1), some (.inl x2), some (.inl x3), some (.inl r1)], [.inl x3, .inr (.inr 47), .inl (w32 (32 * x3))], (am_sh, am_mm U1))) 6 (fun _ => rfl) ?_
        refine eu_iald 47 (n := 128) rfl (by decide) rfl (fun _ => rfl) h22aa2.1 ?_
        have h22aa2a := h22aa2.2
        refine ev_seg (σ1 := ((d + 1), 124, 49, [some (.inr (.inr 45)), some (.inl x1), some (.inl x2), some (.inl x3), some (.inl r1)], [.inl x2, .inl (U1 47 x3.toNat), .inl (w32 (32 * x3))], (am_sh, am_mm U1))) 1 (fun _ => rfl) ?_
        obtain ⟨r2, U2, h22aa2ac, h22aa2aa⟩ := h22aa2a
        refine ev_cal (σc := (d, 107, 0, [some (.inl (U1 47 x3.toNat)), some (.inl x2), none, none], [], (am_sh, am_mm U1))) (fun _ => rfl) h22aa2ac ?_
        show Ev (am_kz N X) ((d + 1), 124, 52, [some (.inr (.inr 45)), some (.inl x1), some (.inl x2), some (.inl x3), some (.inl r1)], [.inl r2, .inl (w32 (32 * x3))], (am_sh, am_mm U2)) R
        subst h22aa2aa
        exact ev_end 2 (fun _ => rfl)
set_option maxRecDepth 8000 in
theorem st128_45_0 (N : Nat) (X : Nat → Int) (d : Nat) (x1 x2 : Int) (U : Nat → Nat → Int) (R : Option am_V × am_M) (h : (0 ≤ x1 ∧ x1 < 16) ∧ ((((U 18 x1.toNat) = x2 : Prop)) → R = (some (.inl 0), (am_sh, am_mm U))) ∧ (¬ ((U 18 x1.toNat) = x2) → ∃ (r1 : Int) (U1 : Nat → Nat → Int), Ev (am_kz N X) (d, 106, 0, [some (.inr (.inr 16)), some (.inl x2)], [], (am_sh, am_mm U)) (some (.inl r1), (am_sh, am_mm U1)) ∧ (0 ≤ x2 ∧ x2 < 12) ∧ (((r1 < (U1 8 x2.toNat) : Prop)) → ∃ U2 : Nat → Nat → Int, Ev (am_kz N X) (d, 138, 0, [some (.inr (.inr 16)), some (.inl x1), some (.inl x2), none], [], (am_sh, am_mm U1)) (none, (am_sh, am_mm U2)) ∧ ∃ (r3 : Int) (U3 : Nat → Nat → Int), Ev (am_kz N X) (d, 210, 0, [some (.inr (.inr 45)), some (.inl x1), none, none, none], [], (am_sh, am_mm U2)) (some (.inl r3), (am_sh, am_mm U3)) ∧ ∃ U4 : Nat → Nat → Int, Ev (am_kz N X) (d, 138, 0, [some (.inr (.inr 16)), some (.inl x1), some (.inl (U 18 x1.toNat)), none], [], (am_sh, am_mm U3)) (none, (am_sh, am_mm U4)) ∧ (((¬ r3 = 0 : Prop)) → R = (some (.inl 0), (am_sh, am_mm U4))) ∧ (¬ (¬ r3 = 0) → R = (some (.inl 1), (am_sh, am_mm U4)))) ∧ (¬ (r1 < (U1 8 x2.toNat)) → R = (some (.inl 0), (am_sh, am_mm U1))))) : Ev (am_kz N X) ((d + 1), 128, 0, [some (.inr (.inr 45)), some (.inl x1), some (.inl x2), none, none], [], (am_sh, am_mm U)) R := by
  refine ev_seg (σ1 := ((d + 1), 128, 8, [some (.inr (.inr 45)), some (.inl x1), some (.inl x2), none, none], [.inl x1, .inr (.inr 18)], (am_sh, am_mm U))) 4 (fun _ => rfl) ?_
  refine eu_iald 18 (n := 16) rfl (by decide) rfl (fun _ => rfl) h.1 ?_
  have ha := h.2
  refine ev_br (P := (U 18 x1.toNat) = x2) (σ1 := ((d + 1), 128, 35, [some (.inr (.inr 45)), some (.inl x1), some (.inl x2), some (.inl (U 18 x1.toNat)), none], [], (am_sh, am_mm U))) (σ2 := ((d + 1), 128, 15, [some (.inr (.inr 45)), some (.inl x1), some (.inl x2), some (.inl (U 18 x1.toNat)), none], [], (am_sh, am_mm U))) 4 (fun _ => rfl) (fun hc => ?_) (fun hc => ?_)
  · have ha1 := ha.1 hc
    subst ha1
    exact ev_end 2 (fun _ => rfl)
  · have ha2 := ha.2 hc
    refine ev_seg (σ1 := ((d + 1), 128, 20, [some (.inr (.inr 45)), some (.inl x1), some (.inl x2), some (.inl (U 18 x1.toNat)), none], [.inl x2, .inr (.inr 16)], (am_sh, am_mm U))) 3 (fun _ => rfl) ?_
    obtain ⟨r1, U1, ha2c, ha2a⟩ := ha2
    refine ev_cal (σc := (d, 106, 0, [some (.inr (.inr 16)), some (.inl x2)], [], (am_sh, am_mm U))) (fun _ => rfl) ha2c ?_
    show Ev (am_kz N X) ((d + 1), 128, 23, [some (.inr (.inr 45)), some (.inl x1), some (.inl x2), some (.inl (U 18 x1.toNat)), none], [.inl r1], (am_sh, am_mm U1)) R
    refine ev_seg (σ1 := ((d + 1), 128, 31, [some (.inr (.inr 45)), some (.inl x1), some (.inl x2), some (.inl (U 18 x1.toNat)), none], [.inl x2, .inr (.inr 8), .inl r1], (am_sh, am_mm U1))) 4 (fun _ => rfl) ?_
    refine eu_iald 8 (n := 12) rfl (by decide) rfl (fun _ => rfl) ha2a.1 ?_
    have ha2aa := ha2a.2
    refine ev_br (P := r1 < (U1 8 x2.toNat)) (σ1 := ((d + 1), 128, 37, [some (.inr (.inr 45)), some (.inl x1), some (.inl x2), some (.inl (U 18 x1.toNat)), none], [], (am_sh, am_mm U1))) (σ2 := ((d + 1), 128, 35, [some (.inr (.inr 45)), some (.inl x1), some (.inl x2), some (.inl (U 18 x1.toNat)), none], [], (am_sh, am_mm U1))) 1 (fun _ => rfl) (fun hc => ?_) (fun hc => ?_)
    · have ha2aa1 := ha2aa.1 hc
      refine ev_seg (σ1 := ((d + 1), 128, 43, [some (.inr (.inr 45)), some (.inl x1), some (.inl x2), some (.inl (U 18 x1.toNat)), none], [.inl x2, .inl x1, .inr (.inr 16)], (am_sh, am_mm U1))) 4 (fun _ => rfl) ?_
      obtain ⟨U2, ha2aa1c, ha2aa1a⟩ := ha2aa1
      refine ev_cal (σc := (d, 138, 0, [some (.inr (.inr 16)), some (.inl x1), some (.inl x2), none], [], (am_sh, am_mm U1))) (fun _ => rfl) ha2aa1c ?_
      show Ev (am_kz N X) ((d + 1), 128, 46, [some (.inr (.inr 45)), some (.inl x1), some (.inl x2), some (.inl (U 18 x1.toNat)), none], [], (am_sh, am_mm U2)) R
      refine ev_seg (σ1 := ((d + 1), 128, 48, [some (.inr (.inr 45)), some (.inl x1), some (.inl x2), some (.inl (U 18 x1.toNat)), none], [.inl x1, .inr (.inr 45)], (am_sh, am_mm U2))) 2 (fun _ => rfl) ?_
      obtain ⟨r3, U3, ha2aa1ac, ha2aa1aa⟩ := ha2aa1a
      refine ev_cal (σc := (d, 210, 0, [some (.inr (.inr 45)), some (.inl x1), none, none, none], [], (am_sh, am_mm U2))) (fun _ => rfl) ha2aa1ac ?_
      show Ev (am_kz N X) ((d + 1), 128, 51, [some (.inr (.inr 45)), some (.inl x1), some (.inl x2), some (.inl (U 18 x1.toNat)), none], [.inl r3], (am_sh, am_mm U3)) R
      refine ev_seg (σ1 := ((d + 1), 128, 59, [some (.inr (.inr 45)), some (.inl x1), some (.inl x2), some (.inl (U 18 x1.toNat)), some (.inl r3)], [.inl (U 18 x1.toNat), .inl x1, .inr (.inr 16)], (am_sh, am_mm U3))) 5 (fun _ => rfl) ?_
      obtain ⟨U4, ha2aa1aac, ha2aa1aaa⟩ := ha2aa1aa
      refine ev_cal (σc := (d, 138, 0, [some (.inr (.inr 16)), some (.inl x1), some (.inl (U 18 x1.toNat)), none], [], (am_sh, am_mm U3))) (fun _ => rfl) ha2aa1aac ?_
      show Ev (am_kz N X) ((d + 1), 128, 62, [some (.inr (.inr 45)), some (.inl x1), some (.inl x2), some (.inl (U 18 x1.toNat)), some (.inl r3)], [], (am_sh, am_mm U4)) R
      refine ev_br (P := ¬ r3 = 0) (σ1 := ((d + 1), 128, 71, [some (.inr (.inr 45)), some (.inl x1), some (.inl x2), some (.inl (U 18 x1.toNat)), some (.inl r3)], [], (am_sh, am_mm U4))) (σ2 := ((d + 1), 128, 67, [some (.inr (.inr 45)), some (.inl x1), some (.inl x2), some (.inl (U 18 x1.toNat)), some (.inl r3)], [], (am_sh, am_mm U4))) 2 (fun _ => rfl) (fun hc => ?_) (fun hc => ?_)
      · have ha2aa1aaa1 := ha2aa1aaa.1 hc
        subst ha2aa1aaa1
        exact ev_end 2 (fun _ => rfl)
      · have ha2aa1aaa2 := ha2aa1aaa.2 hc
        subst ha2aa1aaa2
        exact ev_end 3 (fun _ => rfl)
    · have ha2aa2 := ha2aa.2 hc
      subst ha2aa2
      exact ev_end 2 (fun _ => rfl)
set_option maxRecDepth 8000 in
theorem st129_86_0 (N : Nat) (X : Nat → Int) (d : Nat) (x1 x2 x3 : Int) (U : Nat → Nat → Int) (R : Option am_V × am_M) (h : ∃ (r1 : Int) (U1 : Nat → Nat → Int), Ev (am_kz N X) (d, 200, 0, [some (.inr (.inr 86)), some (.inl x1), some (.inl x2)], [], (am_sh, am_mm U)) (some (.inl r1), (am_sh, am_mm U1)) ∧ (((r1 = x3 : Prop)) → R = (some (.inl 0), (am_sh, am_mm U1))) ∧ (¬ (r1 = x3) → ∃ (r2 : Int) (U2 : Nat → Nat → Int), Ev (am_kz N X) (d, 111, 0, [some (.inr (.inr 86)), some (.inl x1), some (.inl x3), none, none], [], (am_sh, am_mm U1)) (some (.inl r2), (am_sh, am_mm U2)) ∧ ∃ (r3 : Int) (U3 : Nat → Nat → Int), Ev (am_kz N X) (d, 110, 0, [some (.inr (.inr 86)), some (.inl x3)], [], (am_sh, am_mm U2)) (some (.inl r3), (am_sh, am_mm U3)) ∧ (((r2 < r3 : Prop)) → (0 ≤ (w32 ((w32 (16 * x1)) + x2)) ∧ (w32 ((w32 (16 * x1)) + x2)) < 352) ∧ ∃ (r4 : Int) (U4 : Nat → Nat → Int), Ev (am_kz N X) (d, 100, 0, [some (.inr (.inr 86)), some (.inl x1), some (.inl x2), some (.inl (-1)), none, none, none, none], [], (am_sh, am_mm (am_upd U3 124 (w32 ((w32 (16 * x1)) + x2)).toNat x3))) (some (.inl r4), (am_sh, am_mm U4)) ∧ (((¬ r4 = 0 : Prop)) → (0 ≤ (w32 ((w32 (16 * x1)) + x2)) ∧ (w32 ((w32 (16 * x1)) + x2)) < 352) ∧ R = (some (.inl 0), (am_sh, am_mm (am_upd U4 124 (w32 ((w32 (16 * x1)) + x2)).toNat r1)))) ∧ (¬ (¬ r4 = 0) → (0 ≤ (w32 ((w32 (16 * x1)) + x2)) ∧ (w32 ((w32 (16 * x1)) + x2)) < 352) ∧ R = (some (.inl 1), (am_sh, am_mm (am_upd U4 124 (w32 ((w32 (16 * x1)) + x2)).toNat r1))))) ∧ (¬ (r2 < r3) → R = (some (.inl 0), (am_sh, am_mm U3))))) : Ev (am_kz N X) ((d + 1), 129, 0, [some (.inr (.inr 86)), some (.inl x1), some (.inl x2), some (.inl x3), none, none], [], (am_sh, am_mm U)) R := by
  refine ev_seg (σ1 := ((d + 1), 129, 3, [some (.inr (.inr 86)), some (.inl x1), some (.inl x2), some (.inl x3), none, none], [.inl x2, .inl x1, .inr (.inr 86)], (am_sh, am_mm U))) 3 (fun _ => rfl) ?_
  obtain ⟨r1, U1, hc, ha⟩ := h
  refine ev_cal (σc := (d, 200, 0, [some (.inr (.inr 86)), some (.inl x1), some (.inl x2)], [], (am_sh, am_mm U))) (fun _ => rfl) hc ?_
  show Ev (am_kz N X) ((d + 1), 129, 6, [some (.inr (.inr 86)), some (.inl x1), some (.inl x2), some (.inl x3), none, none], [.inl r1], (am_sh, am_mm U1)) R
  refine ev_br (P := r1 = x3) (σ1 := ((d + 1), 129, 28, [some (.inr (.inr 86)), some (.inl x1), some (.inl x2), some (.inl x3), some (.inl r1), none], [], (am_sh, am_mm U1))) (σ2 := ((d + 1), 129, 14, [some (.inr (.inr 86)), some (.inl x1), some (.inl x2), some (.inl x3), some (.inl r1), none], [], (am_sh, am_mm U1))) 4 (fun _ => rfl) (fun hc => ?_) (fun hc => ?_)
  · have ha1 := ha.1 hc
    subst ha1
    exact ev_end 2 (fun _ => rfl)
  · have ha2 := ha.2 hc
    refine ev_seg (σ1 := ((d + 1), 129, 17, [some (.inr (.inr 86)), some (.inl x1), some (.inl x2), some (.inl x3), some (.inl r1), none], [.inl x3, .inl x1, .inr (.inr 86)], (am_sh, am_mm U1))) 3 (fun _ => rfl) ?_
    obtain ⟨r2, U2, ha2c, ha2a⟩ := ha2
    refine ev_cal (σc := (d, 111, 0, [some (.inr (.inr 86)), some (.inl x1), some (.inl x3), none, none], [], (am_sh, am_mm U1))) (fun _ => rfl) ha2c ?_
    show Ev (am_kz N X) ((d + 1), 129, 20, [some (.inr (.inr 86)), some (.inl x1), some (.inl x2), some (.inl x3), some (.inl r1), none], [.inl r2], (am_sh, am_mm U2)) R
    refine ev_seg (σ1 := ((d + 1), 129, 22, [some (.inr (.inr 86)), some (.inl x1), some (.inl x2), some (.inl x3), some (.inl r1), none], [.inl x3, .inr (.inr 86), .inl r2], (am_sh, am_mm U2))) 2 (fun _ => rfl) ?_
    obtain ⟨r3, U3, ha2ac, ha2aa⟩ := ha2a
    refine ev_cal (σc := (d, 110, 0, [some (.inr (.inr 86)), some (.inl x3)], [], (am_sh, am_mm U2))) (fun _ => rfl) ha2ac ?_
    show Ev (am_kz N X) ((d + 1), 129, 25, [some (.inr (.inr 86)), some (.inl x1), some (.inl x2), some (.inl x3), some (.inl r1), none], [.inl r3, .inl r2], (am_sh, am_mm U3)) R
    refine ev_br (P := r2 < r3) (σ1 := ((d + 1), 129, 30, [some (.inr (.inr 86)), some (.inl x1), some (.inl x2), some (.inl x3), some (.inl r1), none], [], (am_sh, am_mm U3))) (σ2 := ((d + 1), 129, 28, [some (.inr (.inr 86)), some (.inl x1), some (.inl x2), some (.inl x3), some (.inl r1), none], [], (am_sh, am_mm U3))) 1 (fun _ => rfl) (fun hc => ?_) (fun hc => ?_)
    · have ha2aa1 := ha2aa.1 hc
      refine ev_seg (σ1 := ((d + 1), 129, 41, [some (.inr (.inr 86)), some (.inl x1), some (.inl x2), some (.inl x3), some (.inl r1), none], [.inl x3, .inl (w32 ((w32 (16 * x1)) + x2)), .inr (.inr 124)], (am_sh, am_mm U3))) 8 (fun _ => rfl) ?_
      refine eu_iast 124 (n := 352) rfl (by decide) rfl (fun _ => rfl) ha2aa1.1 ?_
      have ha2aa1a := ha2aa1.2
      refine ev_seg (σ1 := ((d + 1), 129, 46, [some (.inr (.inr 86)), some (.inl x1), some (.inl x2), some (.inl x3), some (.inl r1), none], [.inl (-1), .inl x2, .inl x1, .inr (.inr 86)], (am_sh, am_mm (am_upd U3 124 (w32 ((w32 (16 * x1)) + x2)).toNat x3)))) 4 (fun _ => rfl) ?_
      obtain ⟨r4, U4, ha2aa1ac, ha2aa1aa⟩ := ha2aa1a
      refine ev_cal (σc := (d, 100, 0, [some (.inr (.inr 86)), some (.inl x1), some (.inl x2), some (.inl (-1)), none, none, none, none], [], (am_sh, am_mm (am_upd U3 124 (w32 ((w32 (16 * x1)) + x2)).toNat x3)))) (fun _ => rfl) ha2aa1ac ?_
      show Ev (am_kz N X) ((d + 1), 129, 49, [some (.inr (.inr 86)), some (.inl x1), some (.inl x2), some (.inl x3), some (.inl r1), none], [.inl r4], (am_sh, am_mm U4)) R
      refine ev_br (P := ¬ r4 = 0) (σ1 := ((d + 1), 129, 56, [some (.inr (.inr 86)), some (.inl x1), some (.inl x2), some (.inl x3), some (.inl r1), none], [], (am_sh, am_mm U4))) (σ2 := ((d + 1), 129, 52, [some (.inr (.inr 86)), some (.inl x1), some (.inl x2), some (.inl x3), some (.inl r1), none], [], (am_sh, am_mm U4))) 1 (fun _ => rfl) (fun hc => ?_) (fun hc => ?_)
      · have ha2aa1aa1 := ha2aa1aa.1 hc
        refine ev_seg (σ1 := ((d + 1), 129, 71, [some (.inr (.inr 86)), some (.inl x1), some (.inl x2), some (.inl x3), some (.inl r1), some (.inl 0)], [.inl r1, .inl (w32 ((w32 (16 * x1)) + x2)), .inr (.inr 124)], (am_sh, am_mm U4))) 10 (fun _ => rfl) ?_
        refine eu_iast 124 (n := 352) rfl (by decide) rfl (fun _ => rfl) ha2aa1aa1.1 ?_
        have ha2aa1aa1a := ha2aa1aa1.2
        subst ha2aa1aa1a
        exact ev_end 2 (fun _ => rfl)
      · have ha2aa1aa2 := ha2aa1aa.2 hc
        refine ev_seg (σ1 := ((d + 1), 129, 71, [some (.inr (.inr 86)), some (.inl x1), some (.inl x2), some (.inl x3), some (.inl r1), some (.inl 1)], [.inl r1, .inl (w32 ((w32 (16 * x1)) + x2)), .inr (.inr 124)], (am_sh, am_mm U4))) 11 (fun _ => rfl) ?_
        refine eu_iast 124 (n := 352) rfl (by decide) rfl (fun _ => rfl) ha2aa1aa2.1 ?_
        have ha2aa1aa2a := ha2aa1aa2.2
        subst ha2aa1aa2a
        exact ev_end 2 (fun _ => rfl)
    · have ha2aa2 := ha2aa.2 hc
      subst ha2aa2
      exact ev_end 2 (fun _ => rfl)
set_option maxRecDepth 8000 in
theorem st131_48_0 (N : Nat) (X : Nat → Int) (d : Nat) (x1 : Int) (U : Nat → Nat → Int) (R : Option am_V × am_M) (h : (((x1 = (-1) : Prop)) → R = (some (.inl (U 48 8)), (am_sh, am_mm U))) ∧ (¬ (x1 = (-1)) → (((¬ (U 48 8) = (-1) : Prop)) → Ev (am_kz N X) (d, 131, 20, [some (.inr (.inr 48)), some (.inl x1), some (.inl 0)], [], (am_sh, am_mm U)) R) ∧ (¬ (¬ (U 48 8) = (-1)) → R = (some (.inl (U 48 8)), (am_sh, am_mm U))))) : Ev (am_kz N X) (d, 131, 0, [some (.inr (.inr 48)), some (.inl x1), none], [], (am_sh, am_mm U)) R := by
  refine ev_br (P := x1 = (-1)) (σ1 := (d, 131, 13, [some (.inr (.inr 48)), some (.inl x1), none], [], (am_sh, am_mm U))) (σ2 := (d, 131, 5, [some (.inr (.inr 48)), some (.inl x1), none], [], (am_sh, am_mm U))) 3 (fun _ => rfl) (fun hc => ?_) (fun hc => ?_)
  · have h1 := h.1 hc
    subst h1
    exact ev_end 3 (fun _ => rfl)
  · have h2 := h.2 hc
    refine ev_br (P := ¬ (U 48 8) = (-1)) (σ1 := (d, 131, 18, [some (.inr (.inr 48)), some (.inl x1), none], [], (am_sh, am_mm U))) (σ2 := (d, 131, 13, [some (.inr (.inr 48)), some (.inl x1), none], [], (am_sh, am_mm U))) 4 (fun _ => rfl) (fun hc => ?_) (fun hc => ?_)
    · have h21 := h2.1 hc
      refine ev_seg (σ1 := (d, 131, 20, [some (.inr (.inr 48)), some (.inl x1), some (.inl 0)], [], (am_sh, am_mm U))) 2 (fun _ => rfl) ?_
      exact h21
    · have h22 := h2.2 hc
      subst h22
      exact ev_end 3 (fun _ => rfl)
set_option maxRecDepth 8000 in
theorem st131_48_20 (N : Nat) (X : Nat → Int) (d : Nat) (x1 x2 : Int) (U : Nat → Nat → Int) (R : Option am_V × am_M) (h : ((((U 48 6) ≤ x2 : Prop)) → R = (some (.inl (-1)), (am_sh, am_mm U))) ∧ (¬ ((U 48 6) ≤ x2) → (0 ≤ x2 ∧ x2 < 3) ∧ (((¬ (U 49 x2.toNat) = x1 : Prop)) → Ev (am_kz N X) (d, 131, 20, [some (.inr (.inr 48)), some (.inl x1), some (.inl (w32 (x2 + 1)))], [], (am_sh, am_mm U)) R) ∧ (¬ (¬ (U 49 x2.toNat) = x1) → (0 ≤ x2 ∧ x2 < 3) ∧ (((¬ (U 50 x2.toNat) = (-1) : Prop)) → (0 ≤ x2 ∧ x2 < 3) ∧ R = (some (.inl (U 50 x2.toNat)), (am_sh, am_mm U))) ∧ (¬ (¬ (U 50 x2.toNat) = (-1)) → R = (some (.inl 20), (am_sh, am_mm U)))))) : Ev (am_kz N X) (d, 131, 20, [some (.inr (.inr 48)), some (.inl x1), some (.inl x2)], [], (am_sh, am_mm U)) R := by
  refine ev_br (P := (U 48 6) ≤ x2) (σ1 := (d, 131, 66, [some (.inr (.inr 48)), some (.inl x1), some (.inl x2)], [], (am_sh, am_mm U))) (σ2 := (d, 131, 28, [some (.inr (.inr 48)), some (.inl x1), some (.inl x2)], [], (am_sh, am_mm U))) 4 (fun _ => rfl) (fun hc => ?_) (fun hc => ?_)
  · have h1 := h.1 hc
    subst h1
    exact ev_end 2 (fun _ => rfl)
  · have h2 := h.2 hc
    refine ev_seg (σ1 := (d, 131, 33, [some (.inr (.inr 48)), some (.inl x1), some (.inl x2)], [.inl x2, .inr (.inr 49)], (am_sh, am_mm U))) 3 (fun _ => rfl) ?_
    refine eu_iald 49 (n := 3) rfl (by decide) rfl (fun _ => rfl) h2.1 ?_
    have h2a := h2.2
    refine ev_br (P := ¬ (U 49 x2.toNat) = x1) (σ1 := (d, 131, 60, [some (.inr (.inr 48)), some (.inl x1), some (.inl x2)], [], (am_sh, am_mm U))) (σ2 := (d, 131, 38, [some (.inr (.inr 48)), some (.inl x1), some (.inl x2)], [], (am_sh, am_mm U))) 2 (fun _ => rfl) (fun hc => ?_) (fun hc => ?_)
    · have h2a1 := h2a.1 hc
      refine ev_seg (σ1 := (d, 131, 20, [some (.inr (.inr 48)), some (.inl x1), some (.inl (w32 (x2 + 1)))], [], (am_sh, am_mm U))) 2 (fun _ => rfl) ?_
      exact h2a1
    · have h2a2 := h2a.2 hc
      refine ev_seg (σ1 := (d, 131, 43, [some (.inr (.inr 48)), some (.inl x1), some (.inl x2)], [.inl x2, .inr (.inr 50)], (am_sh, am_mm U))) 3 (fun _ => rfl) ?_
      refine eu_iald 50 (n := 3) rfl (by decide) rfl (fun _ => rfl) h2a2.1 ?_
      have h2a2a := h2a2.2
      refine ev_br (P := ¬ (U 50 x2.toNat) = (-1)) (σ1 := (d, 131, 53, [some (.inr (.inr 48)), some (.inl x1), some (.inl x2)], [], (am_sh, am_mm U))) (σ2 := (d, 131, 48, [some (.inr (.inr 48)), some (.inl x1), some (.inl x2)], [], (am_sh, am_mm U))) 2 (fun _ => rfl) (fun hc => ?_) (fun hc => ?_)
      · have h2a2a1 := h2a2a.1 hc
        refine ev_seg (σ1 := (d, 131, 58, [some (.inr (.inr 48)), some (.inl x1), some (.inl x2)], [.inl x2, .inr (.inr 50)], (am_sh, am_mm U))) 3 (fun _ => rfl) ?_
        refine eu_iald 50 (n := 3) rfl (by decide) rfl (fun _ => rfl) h2a2a1.1 ?_
        have h2a2a1a := h2a2a1.2
        subst h2a2a1a
        exact ev_end 1 (fun _ => rfl)
      · have h2a2a2 := h2a2a.2 hc
        subst h2a2a2
        exact ev_end 3 (fun _ => rfl)
set_option maxRecDepth 8000 in
theorem st130_48_0 (N : Nat) (X : Nat → Int) (d : Nat) (U : Nat → Nat → Int) (R : Option am_V × am_M) (h : ((((U 48 9) = 0 : Prop)) → ∃ (r1 : Int) (U1 : Nat → Nat → Int), Ev (am_kz N X) (d, 97, 0, [some (.inr (.inr 16)), none, none], [], (am_sh, am_mm (am_upd (am_upd U 48 9 1) 48 8 (-1)))) (some (.inl r1), (am_sh, am_mm U1)) ∧ ∃ (r2 : Int) (U2 : Nat → Nat → Int), Ev (am_kz N X) (d, 98, 0, [some (.inl ((am_upd U1 48 7 r1) 48 7))], [], (am_sh, am_mm (am_upd U1 48 7 r1))) (some (.inl r2), (am_sh, am_mm U2)) ∧ (((((am_upd U2 48 6 r2) 48 6) ≤ 3 : Prop)) → Ev (am_kz N X) ((d + 1), 130, 53, [some (.inr (.inr 48)), some (.inl 1), some (.inl 0), none], [], (am_sh, am_mm (am_upd U2 48 6 r2))) R) ∧ (¬ (((am_upd U2 48 6 r2) 48 6) ≤ 3) → R = (none, (am_sh, am_mm (am_upd U2 48 6 r2))))) ∧ (¬ ((U 48 9) = 0) → R = (none, (am_sh, am_mm U)))) : Ev (am_kz N X) ((d + 1), 130, 0, [some (.inr (.inr 48)), none, none, none], [], (am_sh, am_mm U)) R := by
  refine ev_br (P := (U 48 9) = 0) (σ1 := ((d + 1), 130, 8, [some (.inr (.inr 48)), none, none, none], [], (am_sh, am_mm U))) (σ2 := ((d + 1), 130, 7, [some (.inr (.inr 48)), none, none, none], [], (am_sh, am_mm U))) 3 (fun _ => rfl) (fun hc => ?_) (fun hc => ?_)
  · have h1 := h.1 hc
    refine ev_seg (σ1 := ((d + 1), 130, 10, [some (.inr (.inr 48)), none, none, none], [.inl 1, .inr (.inr 48)], (am_sh, am_mm U))) 2 (fun _ => rfl) ?_
    refine eu_putz 48 (n := 10) rfl (by decide) rfl rfl (by decide) ?_
    refine ev_seg (σ1 := ((d + 1), 130, 15, [some (.inr (.inr 48)), none, none, none], [.inl (-1), .inr (.inr 48)], (am_sh, am_mm (am_upd U 48 9 1)))) 2 (fun _ => rfl) ?_
    refine eu_puti 48 (n := 10) rfl (by decide) rfl rfl ?_
    refine ev_seg (σ1 := ((d + 1), 130, 23, [some (.inr (.inr 48)), none, none, none], [.inr (.inr 16), .inr (.inr 48)], (am_sh, am_mm (am_upd (am_upd U 48 9 1) 48 8 (-1))))) 3 (fun _ => rfl) ?_
    obtain ⟨r1, U1, h1c, h1a⟩ := h1
    refine ev_cal (σc := (d, 97, 0, [some (.inr (.inr 16)), none, none], [], (am_sh, am_mm (am_upd (am_upd U 48 9 1) 48 8 (-1))))) (fun _ => rfl) h1c ?_
    show Ev (am_kz N X) ((d + 1), 130, 26, [some (.inr (.inr 48)), none, none, none], [.inl r1, .inr (.inr 48)], (am_sh, am_mm U1)) R
    refine eu_puti 48 (n := 10) rfl (by decide) rfl rfl ?_
    refine ev_seg (σ1 := ((d + 1), 130, 34, [some (.inr (.inr 48)), none, none, none], [.inl ((am_upd U1 48 7 r1) 48 7), .inr (.inr 48)], (am_sh, am_mm (am_upd U1 48 7 r1)))) 3 (fun _ => rfl) ?_
    obtain ⟨r2, U2, h1ac, h1aa⟩ := h1a
    refine ev_cal (σc := (d, 98, 0, [some (.inl ((am_upd U1 48 7 r1) 48 7))], [], (am_sh, am_mm (am_upd U1 48 7 r1)))) (fun _ => rfl) h1ac ?_
    show Ev (am_kz N X) ((d + 1), 130, 37, [some (.inr (.inr 48)), none, none, none], [.inl r2, .inr (.inr 48)], (am_sh, am_mm U2)) R
    refine eu_puti 48 (n := 10) rfl (by decide) rfl rfl ?_
    refine ev_br (P := ((am_upd U2 48 6 r2) 48 6) ≤ 3) (σ1 := ((d + 1), 130, 49, [some (.inr (.inr 48)), none, none, none], [], (am_sh, am_mm (am_upd U2 48 6 r2)))) (σ2 := ((d + 1), 130, 48, [some (.inr (.inr 48)), none, none, none], [], (am_sh, am_mm (am_upd U2 48 6 r2)))) 4 (fun _ => rfl) (fun hc => ?_) (fun hc => ?_)
    · have h1aa1 := h1aa.1 hc
      refine ev_seg (σ1 := ((d + 1), 130, 53, [some (.inr (.inr 48)), some (.inl 1), some (.inl 0), none], [], (am_sh, am_mm (am_upd U2 48 6 r2)))) 4 (fun _ => rfl) ?_
      exact h1aa1
    · have h1aa2 := h1aa.2 hc
      subst h1aa2
      exact ev_end 1 (fun _ => rfl)
  · have h2 := h.2 hc
    subst h2
    exact ev_end 1 (fun _ => rfl)
set_option maxRecDepth 8000 in
theorem st130_48_53 (N : Nat) (X : Nat → Int) (d : Nat) (x1 x2 : Int) (U : Nat → Nat → Int) (R : Option am_V × am_M) (h : ((((U 48 6) ≤ x2 : Prop)) → ∃ U1 : Nat → Nat → Int, Ev (am_kz N X) (d, 211, 0, [some (.inr (.inr 51)), some (.inl 0), none, none], [], (am_sh, am_mm U)) (none, (am_sh, am_mm U1)) ∧ Ev (am_kz N X) ((d + 1), 130, 103, [some (.inr (.inr 48)), some (.inl x1), some (.inl 0), none], [], (am_sh, am_mm U1)) R) ∧ (¬ ((U 48 6) ≤ x2) → ∃ (r2 : Int) (U2 : Nat → Nat → Int), Ev (am_kz N X) (d, 107, 0, [some (.inl (U 48 7)), some (.inl x2), none, none], [], (am_sh, am_mm U)) (some (.inl r2), (am_sh, am_mm U2)) ∧ (0 ≤ x2 ∧ x2 < 3) ∧ Ev (am_kz N X) ((d + 1), 130, 53, [some (.inr (.inr 48)), some (.inl (w32 (x1 * (w32 (((am_upd U2 49 x2.toNat r2) 3 1) + 1))))), some (.inl (w32 (x2 + 1))), none], [], (am_sh, am_mm (am_upd U2 49 x2.toNat r2))) R)) : Ev (am_kz N X) ((d + 1), 130, 53, [some (.inr (.inr 48)), some (.inl x1), some (.inl x2), none], [], (am_sh, am_mm U)) R := by
  refine ev_br (P := (U 48 6) ≤ x2) (σ1 := ((d + 1), 130, 93, [some (.inr (.inr 48)), some (.inl x1), some (.inl x2), none], [], (am_sh, am_mm U))) (σ2 := ((d + 1), 130, 61, [some (.inr (.inr 48)), some (.inl x1), some (.inl x2), none], [], (am_sh, am_mm U))) 4 (fun _ => rfl) (fun hc => ?_) (fun hc => ?_)
  · have h1 := h.1 hc
    refine ev_seg (σ1 := ((d + 1), 130, 98, [some (.inr (.inr 48)), some (.inl x1), some (.inl x2), none], [.inl 0, .inr (.inr 51)], (am_sh, am_mm U))) 3 (fun _ => rfl) ?_
    obtain ⟨U1, h1c, h1a⟩ := h1
    refine ev_cal (σc := (d, 211, 0, [some (.inr (.inr 51)), some (.inl 0), none, none], [], (am_sh, am_mm U))) (fun _ => rfl) h1c ?_
    show Ev (am_kz N X) ((d + 1), 130, 101, [some (.inr (.inr 48)), some (.inl x1), some (.inl x2), none], [], (am_sh, am_mm U1)) R
    refine ev_seg (σ1 := ((d + 1), 130, 103, [some (.inr (.inr 48)), some (.inl x1), some (.inl 0), none], [], (am_sh, am_mm U1))) 2 (fun _ => rfl) ?_
    exact h1a
  · have h2 := h.2 hc
    refine ev_seg (σ1 := ((d + 1), 130, 71, [some (.inr (.inr 48)), some (.inl x1), some (.inl x2), none], [.inl x2, .inl (U 48 7), .inl x2, .inr (.inr 49)], (am_sh, am_mm U))) 6 (fun _ => rfl) ?_
    obtain ⟨r2, U2, h2c, h2a⟩ := h2
    refine ev_cal (σc := (d, 107, 0, [some (.inl (U 48 7)), some (.inl x2), none, none], [], (am_sh, am_mm U))) (fun _ => rfl) h2c ?_
    show Ev (am_kz N X) ((d + 1), 130, 74, [some (.inr (.inr 48)), some (.inl x1), some (.inl x2), none], [.inl r2, .inl x2, .inr (.inr 49)], (am_sh, am_mm U2)) R
    refine eu_iast 49 (n := 3) rfl (by decide) rfl (fun _ => rfl) h2a.1 ?_
    have h2aa := h2a.2
    refine ev_seg (σ1 := ((d + 1), 130, 53, [some (.inr (.inr 48)), some (.inl (w32 (x1 * (w32 (((am_upd U2 49 x2.toNat r2) 3 1) + 1))))), some (.inl (w32 (x2 + 1))), none], [], (am_sh, am_mm (am_upd U2 49 x2.toNat r2)))) 10 (fun _ => rfl) ?_
    exact h2aa
set_option maxRecDepth 8000 in
theorem st130_48_103 (N : Nat) (X : Nat → Int) (d : Nat) (x1 x2 : Int) (U : Nat → Nat → Int) (R : Option am_V × am_M) (h : (((x1 ≤ x2 : Prop)) → R = (none, (am_sh, am_mm U))) ∧ (¬ (x1 ≤ x2) → ((((U 48 6) ≤ (U 48 8) : Prop)) → R = (none, (am_sh, am_mm U))) ∧ (¬ ((U 48 6) ≤ (U 48 8)) → ∃ (r1 : Int) (U1 : Nat → Nat → Int), Ev (am_kz N X) (d, 212, 0, [some (.inr (.inr 48)), some (.inl x2), none, none, none, none, none], [], (am_sh, am_mm U)) (some (.inl r1), (am_sh, am_mm U1)) ∧ (((r1 ≤ (U1 48 8) : Prop)) → ∃ U2 : Nat → Nat → Int, Ev (am_kz N X) (d, 215, 0, [some (.inr (.inr 48)), none], [], (am_sh, am_mm U1)) (none, (am_sh, am_mm U2)) ∧ Ev (am_kz N X) ((d + 1), 130, 103, [some (.inr (.inr 48)), some (.inl x1), some (.inl (w32 (x2 + 1))), some (.inl r1)], [], (am_sh, am_mm U2)) R) ∧ (¬ (r1 ≤ (U1 48 8)) → ∃ (r3 : Int) (U3 : Nat → Nat → Int), Ev (am_kz N X) (d, 213, 0, [some (.inr (.inr 48)), none], [], (am_sh, am_mm U1)) (some (.inl r3), (am_sh, am_mm U3)) ∧ (((r3 = 0 : Prop)) → ∃ U4 : Nat → Nat → Int, Ev (am_kz N X) (d, 215, 0, [some (.inr (.inr 48)), none], [], (am_sh, am_mm U3)) (none, (am_sh, am_mm U4)) ∧ Ev (am_kz N X) ((d + 1), 130, 103, [some (.inr (.inr 48)), some (.inl x1), some (.inl (w32 (x2 + 1))), some (.inl r1)], [], (am_sh, am_mm U4)) R) ∧ (¬ (r3 = 0) → ∃ U5 : Nat → Nat → Int, Ev (am_kz N X) (d, 214, 0, [some (.inr (.inr 48)), some (.inl r1), none], [], (am_sh, am_mm U3)) (none, (am_sh, am_mm U5)) ∧ ∃ U6 : Nat → Nat → Int, Ev (am_kz N X) (d, 215, 0, [some (.inr (.inr 48)), none], [], (am_sh, am_mm U5)) (none, (am_sh, am_mm U6)) ∧ Ev (am_kz N X) ((d + 1), 130, 103, [some (.inr (.inr 48)), some (.inl x1), some (.inl (w32 (x2 + 1))), some (.inl r1)], [], (am_sh, am_mm U6)) R))))) : Ev (am_kz N X) ((d + 1), 130, 103, [some (.inr (.inr 48)), some (.inl x1), some (.inl x2), none], [], (am_sh, am_mm U)) R := by
  refine ev_br (P := x1 ≤ x2) (σ1 := ((d + 1), 130, 155, [some (.inr (.inr 48)), some (.inl x1), some (.inl x2), none], [], (am_sh, am_mm U))) (σ2 := ((d + 1), 130, 108, [some (.inr (.inr 48)), some (.inl x1), some (.inl x2), none], [], (am_sh, am_mm U))) 3 (fun _ => rfl) (fun hc => ?_) (fun hc => ?_)
  · have h1 := h.1 hc
    subst h1
    exact ev_end 1 (fun _ => rfl)
  · have h2 := h.2 hc
    refine ev_br (P := (U 48 6) ≤ (U 48 8)) (σ1 := ((d + 1), 130, 155, [some (.inr (.inr 48)), some (.inl x1), some (.inl x2), none], [], (am_sh, am_mm U))) (σ2 := ((d + 1), 130, 119, [some (.inr (.inr 48)), some (.inl x1), some (.inl x2), none], [], (am_sh, am_mm U))) 5 (fun _ => rfl) (fun hc => ?_) (fun hc => ?_)
    · have h21 := h2.1 hc
      subst h21
      exact ev_end 1 (fun _ => rfl)
    · have h22 := h2.2 hc
      refine ev_seg (σ1 := ((d + 1), 130, 121, [some (.inr (.inr 48)), some (.inl x1), some (.inl x2), none], [.inl x2, .inr (.inr 48)], (am_sh, am_mm U))) 2 (fun _ => rfl) ?_
      obtain ⟨r1, U1, h22c, h22a⟩ := h22
      refine ev_cal (σc := (d, 212, 0, [some (.inr (.inr 48)), some (.inl x2), none, none, none, none, none], [], (am_sh, am_mm U))) (fun _ => rfl) h22c ?_
      show Ev (am_kz N X) ((d + 1), 130, 124, [some (.inr (.inr 48)), some (.inl x1), some (.inl x2), none], [.inl r1], (am_sh, am_mm U1)) R
      refine ev_br (P := r1 ≤ (U1 48 8)) (σ1 := ((d + 1), 130, 145, [some (.inr (.inr 48)), some (.inl x1), some (.inl x2), some (.inl r1)], [], (am_sh, am_mm U1))) (σ2 := ((d + 1), 130, 133, [some (.inr (.inr 48)), some (.inl x1), some (.inl x2), some (.inl r1)], [], (am_sh, am_mm U1))) 5 (fun _ => rfl) (fun hc => ?_) (fun hc => ?_)
      · have h22a1 := h22a.1 hc
        refine ev_seg (σ1 := ((d + 1), 130, 146, [some (.inr (.inr 48)), some (.inl x1), some (.inl x2), some (.inl r1)], [.inr (.inr 48)], (am_sh, am_mm U1))) 1 (fun _ => rfl) ?_
        obtain ⟨U2, h22a1c, h22a1a⟩ := h22a1
        refine ev_cal (σc := (d, 215, 0, [some (.inr (.inr 48)), none], [], (am_sh, am_mm U1))) (fun _ => rfl) h22a1c ?_
        show Ev (am_kz N X) ((d + 1), 130, 149, [some (.inr (.inr 48)), some (.inl x1), some (.inl x2), some (.inl r1)], [], (am_sh, am_mm U2)) R
        refine ev_seg (σ1 := ((d + 1), 130, 103, [some (.inr (.inr 48)), some (.inl x1), some (.inl (w32 (x2 + 1))), some (.inl r1)], [], (am_sh, am_mm U2))) 2 (fun _ => rfl) ?_
        exact h22a1a
      · have h22a2 := h22a.2 hc
        refine ev_seg (σ1 := ((d + 1), 130, 134, [some (.inr (.inr 48)), some (.inl x1), some (.inl x2), some (.inl r1)], [.inr (.inr 48)], (am_sh, am_mm U1))) 1 (fun _ => rfl) ?_
        obtain ⟨r3, U3, h22a2c, h22a2a⟩ := h22a2
        refine ev_cal (σc := (d, 213, 0, [some (.inr (.inr 48)), none], [], (am_sh, am_mm U1))) (fun _ => rfl) h22a2c ?_
        show Ev (am_kz N X) ((d + 1), 130, 137, [some (.inr (.inr 48)), some (.inl x1), some (.inl x2), some (.inl r1)], [.inl r3], (am_sh, am_mm U3)) R
        refine ev_br (P := r3 = 0) (σ1 := ((d + 1), 130, 145, [some (.inr (.inr 48)), some (.inl x1), some (.inl x2), some (.inl r1)], [], (am_sh, am_mm U3))) (σ2 := ((d + 1), 130, 140, [some (.inr (.inr 48)), some (.inl x1), some (.inl x2), some (.inl r1)], [], (am_sh, am_mm U3))) 1 (fun _ => rfl) (fun hc => ?_) (fun hc => ?_)
        · have h22a2a1 := h22a2a.1 hc
          refine ev_seg (σ1 := ((d + 1), 130, 146, [some (.inr (.inr 48)), some (.inl x1), some (.inl x2), some (.inl r1)], [.inr (.inr 48)], (am_sh, am_mm U3))) 1 (fun _ => rfl) ?_
          obtain ⟨U4, h22a2a1c, h22a2a1a⟩ := h22a2a1
          refine ev_cal (σc := (d, 215, 0, [some (.inr (.inr 48)), none], [], (am_sh, am_mm U3))) (fun _ => rfl) h22a2a1c ?_
          show Ev (am_kz N X) ((d + 1), 130, 149, [some (.inr (.inr 48)), some (.inl x1), some (.inl x2), some (.inl r1)], [], (am_sh, am_mm U4)) R
          refine ev_seg (σ1 := ((d + 1), 130, 103, [some (.inr (.inr 48)), some (.inl x1), some (.inl (w32 (x2 + 1))), some (.inl r1)], [], (am_sh, am_mm U4))) 2 (fun _ => rfl) ?_
          exact h22a2a1a
        · have h22a2a2 := h22a2a.2 hc
          refine ev_seg (σ1 := ((d + 1), 130, 142, [some (.inr (.inr 48)), some (.inl x1), some (.inl x2), some (.inl r1)], [.inl r1, .inr (.inr 48)], (am_sh, am_mm U3))) 2 (fun _ => rfl) ?_
          obtain ⟨U5, h22a2a2c, h22a2a2a⟩ := h22a2a2
          refine ev_cal (σc := (d, 214, 0, [some (.inr (.inr 48)), some (.inl r1), none], [], (am_sh, am_mm U3))) (fun _ => rfl) h22a2a2c ?_
          show Ev (am_kz N X) ((d + 1), 130, 145, [some (.inr (.inr 48)), some (.inl x1), some (.inl x2), some (.inl r1)], [], (am_sh, am_mm U5)) R
          refine ev_seg (σ1 := ((d + 1), 130, 146, [some (.inr (.inr 48)), some (.inl x1), some (.inl x2), some (.inl r1)], [.inr (.inr 48)], (am_sh, am_mm U5))) 1 (fun _ => rfl) ?_
          obtain ⟨U6, h22a2a2ac, h22a2a2aa⟩ := h22a2a2a
          refine ev_cal (σc := (d, 215, 0, [some (.inr (.inr 48)), none], [], (am_sh, am_mm U5))) (fun _ => rfl) h22a2a2ac ?_
          show Ev (am_kz N X) ((d + 1), 130, 149, [some (.inr (.inr 48)), some (.inl x1), some (.inl x2), some (.inl r1)], [], (am_sh, am_mm U6)) R
          refine ev_seg (σ1 := ((d + 1), 130, 103, [some (.inr (.inr 48)), some (.inl x1), some (.inl (w32 (x2 + 1))), some (.inl r1)], [], (am_sh, am_mm U6))) 2 (fun _ => rfl) ?_
          exact h22a2a2aa
set_option maxRecDepth 8000 in
theorem st132_86_0 (N : Nat) (X : Nat → Int) (d : Nat) (U : Nat → Nat → Int) (R : Option am_V × am_M) (h : ∃ U1 : Nat → Nat → Int, Ev (am_kz N X) (d, 144, 0, [some (.inr (.inr 86)), some (.inl 1), some (.inl 0), none], [], (am_sh, am_mm U)) (none, (am_sh, am_mm U1)) ∧ ∃ U2 : Nat → Nat → Int, Ev (am_kz N X) (d, 216, 0, [some (.inr (.inr 86)), none, none], [], (am_sh, am_mm U1)) (none, (am_sh, am_mm U2)) ∧ Ev (am_kz N X) ((d + 1), 132, 14, [some (.inr (.inr 86)), some (.inl 1), some (.inl 0), none, none, none, none, none], [], (am_sh, am_mm U2)) R) : Ev (am_kz N X) ((d + 1), 132, 0, [some (.inr (.inr 86)), none, none, none, none, none, none, none], [], (am_sh, am_mm U)) R := by
  refine ev_seg (σ1 := ((d + 1), 132, 3, [some (.inr (.inr 86)), none, none, none, none, none, none, none], [.inl 0, .inl 1, .inr (.inr 86)], (am_sh, am_mm U))) 3 (fun _ => rfl) ?_
  obtain ⟨U1, hc, ha⟩ := h
  refine ev_cal (σc := (d, 144, 0, [some (.inr (.inr 86)), some (.inl 1), some (.inl 0), none], [], (am_sh, am_mm U))) (fun _ => rfl) hc ?_
  show Ev (am_kz N X) ((d + 1), 132, 6, [some (.inr (.inr 86)), none, none, none, none, none, none, none], [], (am_sh, am_mm U1)) R
  refine ev_seg (σ1 := ((d + 1), 132, 7, [some (.inr (.inr 86)), none, none, none, none, none, none, none], [.inr (.inr 86)], (am_sh, am_mm U1))) 1 (fun _ => rfl) ?_
  obtain ⟨U2, hac, haa⟩ := ha
  refine ev_cal (σc := (d, 216, 0, [some (.inr (.inr 86)), none, none], [], (am_sh, am_mm U1))) (fun _ => rfl) hac ?_
  show Ev (am_kz N X) ((d + 1), 132, 10, [some (.inr (.inr 86)), none, none, none, none, none, none, none], [], (am_sh, am_mm U2)) R
  refine ev_seg (σ1 := ((d + 1), 132, 14, [some (.inr (.inr 86)), some (.inl 1), some (.inl 0), none, none, none, none, none], [], (am_sh, am_mm U2))) 4 (fun _ => rfl) ?_
  exact haa
set_option maxRecDepth 8000 in
theorem st132_86_14 (N : Nat) (X : Nat → Int) (d : Nat) (x1 x2 : Int) (U : Nat → Nat → Int) (R : Option am_V × am_M) (h : ((((U 86 70) ≤ x2 : Prop)) → Ev (am_kz N X) ((d + 1), 132, 46, [some (.inr (.inr 86)), some (.inl x1), some (.inl (-1)), some (.inl 0), none, none, none, none], [], (am_sh, am_mm U)) R) ∧ (¬ ((U 86 70) ≤ x2) → (0 ≤ (U 86 13) ∧ (U 86 13) < 2) ∧ Ev (am_kz N X) ((d + 1), 132, 14, [some (.inr (.inr 86)), some (.inl (w32 (x1 * (w32 ((U 90 (U 86 13).toNat) + 1))))), some (.inl (w32 (x2 + 1))), none, none, none, none, none], [], (am_sh, am_mm U)) R)) : Ev (am_kz N X) ((d + 1), 132, 14, [some (.inr (.inr 86)), some (.inl x1), some (.inl x2), none, none, none, none, none], [], (am_sh, am_mm U)) R := by
  refine ev_br (P := (U 86 70) ≤ x2) (σ1 := ((d + 1), 132, 42, [some (.inr (.inr 86)), some (.inl x1), some (.inl x2), none, none, none, none, none], [], (am_sh, am_mm U))) (σ2 := ((d + 1), 132, 22, [some (.inr (.inr 86)), some (.inl x1), some (.inl x2), none, none, none, none, none], [], (am_sh, am_mm U))) 4 (fun _ => rfl) (fun hc => ?_) (fun hc => ?_)
  · have h1 := h.1 hc
    refine ev_seg (σ1 := ((d + 1), 132, 46, [some (.inr (.inr 86)), some (.inl x1), some (.inl (-1)), some (.inl 0), none, none, none, none], [], (am_sh, am_mm U))) 4 (fun _ => rfl) ?_
    exact h1
  · have h2 := h.2 hc
    refine ev_seg (σ1 := ((d + 1), 132, 31, [some (.inr (.inr 86)), some (.inl x1), some (.inl x2), none, none, none, none, none], [.inl (U 86 13), .inr (.inr 90), .inl x1], (am_sh, am_mm U))) 5 (fun _ => rfl) ?_
    refine eu_iald 90 (n := 2) rfl (by decide) rfl (fun _ => rfl) h2.1 ?_
    have h2a := h2.2
    refine ev_seg (σ1 := ((d + 1), 132, 14, [some (.inr (.inr 86)), some (.inl (w32 (x1 * (w32 ((U 90 (U 86 13).toNat) + 1))))), some (.inl (w32 (x2 + 1))), none, none, none, none, none], [], (am_sh, am_mm U))) 6 (fun _ => rfl) ?_
    exact h2a
set_option maxRecDepth 8000 in
theorem st132_86_46 (N : Nat) (X : Nat → Int) (d : Nat) (x1 x2 x3 : Int) (U : Nat → Nat → Int) (R : Option am_V × am_M) (h : (((x1 ≤ x3 : Prop)) → R = (some (.inl x2), (am_sh, am_mm U))) ∧ (¬ (x1 ≤ x3) → Ev (am_kz N X) ((d + 1), 132, 65, [some (.inr (.inr 86)), some (.inl x1), some (.inl x2), some (.inl x3), some (.inl x3), some (.inl 0), some (.inl (w32 ((U 86 70) - 1))), none], [], (am_sh, am_mm U)) R)) : Ev (am_kz N X) ((d + 1), 132, 46, [some (.inr (.inr 86)), some (.inl x1), some (.inl x2), some (.inl x3), none, none, none, none], [], (am_sh, am_mm U)) R := by
  refine ev_br (P := x1 ≤ x3) (σ1 := ((d + 1), 132, 242, [some (.inr (.inr 86)), some (.inl x1), some (.inl x2), some (.inl x3), none, none, none, none], [], (am_sh, am_mm U))) (σ2 := ((d + 1), 132, 51, [some (.inr (.inr 86)), some (.inl x1), some (.inl x2), some (.inl x3), none, none, none, none], [], (am_sh, am_mm U))) 3 (fun _ => rfl) (fun hc => ?_) (fun hc => ?_)
  · have h1 := h.1 hc
    subst h1
    exact ev_end 2 (fun _ => rfl)
  · have h2 := h.2 hc
    refine ev_seg (σ1 := ((d + 1), 132, 65, [some (.inr (.inr 86)), some (.inl x1), some (.inl x2), some (.inl x3), some (.inl x3), some (.inl 0), some (.inl (w32 ((U 86 70) - 1))), none], [], (am_sh, am_mm U))) 9 (fun _ => rfl) ?_
    exact h2
set_option maxRecDepth 8000 in
theorem st132_86_65 (N : Nat) (X : Nat → Int) (d : Nat) (x1 x2 x3 x4 x5 x6 : Int) (U : Nat → Nat → Int) (R : Option am_V × am_M) (h : (((x6 < 0 : Prop)) → (((x5 ≤ x2 : Prop)) → Ev (am_kz N X) ((d + 1), 132, 46, [some (.inr (.inr 86)), some (.inl x1), some (.inl x2), some (.inl (w32 (x3 + 1))), some (.inl x4), some (.inl x5), some (.inl x6), none], [], (am_sh, am_mm U)) R) ∧ (¬ (x5 ≤ x2) → ∃ (r1 : Int) (U1 : Nat → Nat → Int), Ev (am_kz N X) (d, 217, 0, [some (.inr (.inr 86)), some (.inl 1), none], [], (am_sh, am_mm U)) (some (.inl r1), (am_sh, am_mm U1)) ∧ (((r1 = 0 : Prop)) → Ev (am_kz N X) ((d + 1), 132, 46, [some (.inr (.inr 86)), some (.inl x1), some (.inl x2), some (.inl (w32 (x3 + 1))), some (.inl x4), some (.inl x5), some (.inl x6), none], [], (am_sh, am_mm U1)) R) ∧ (¬ (r1 = 0) → ∃ (r2 : Int) (U2 : Nat → Nat → Int), Ev (am_kz N X) (d, 218, 0, [some (.inr (.inr 86)), none, none], [], (am_sh, am_mm U1)) (some (.inl r2), (am_sh, am_mm U2)) ∧ (((¬ r2 = 0 : Prop)) → Ev (am_kz N X) ((d + 1), 132, 197, [some (.inr (.inr 86)), some (.inl x1), some (.inl x5), some (.inl x3), some (.inl x4), some (.inl x5), some (.inl 0), none], [], (am_sh, am_mm U2)) R) ∧ (¬ (¬ r2 = 0) → Ev (am_kz N X) ((d + 1), 132, 46, [some (.inr (.inr 86)), some (.inl x1), some (.inl x2), some (.inl (w32 (x3 + 1))), some (.inl x4), some (.inl x5), some (.inl x6), none], [], (am_sh, am_mm U2)) R)))) ∧ (¬ (x6 < 0) → (0 ≤ (U 86 13) ∧ (U 86 13) < 2) ∧ (w32 ((U 90 (U 86 13).toNat) + 1)) ≠ 0 ∧ (0 ≤ (U 86 13) ∧ (U 86 13) < 2) ∧ (w32 ((U 90 (U 86 13).toNat) + 1)) ≠ 0 ∧ (0 ≤ x6 ∧ x6 < 16) ∧ (0 ≤ (U 86 13) ∧ (U 86 13) < 2) ∧ (((¬ (Int.tmod x4 (w32 ((U 90 (U 86 13).toNat) + 1))) = (U 90 (U 86 13).toNat) : Prop)) → (0 ≤ (w32 (16 + (U 126 x6.toNat))) ∧ (w32 (16 + (U 126 x6.toNat))) < 352) ∧ (0 ≤ ((am_upd U 124 (w32 (16 + (U 126 x6.toNat))).toNat (Int.tmod x4 (w32 ((U 90 (U 86 13).toNat) + 1)))) 86 13) ∧ ((am_upd U 124 (w32 (16 + (U 126 x6.toNat))).toNat (Int.tmod x4 (w32 ((U 90 (U 86 13).toNat) + 1)))) 86 13) < 2) ∧ (((¬ (Int.tmod x4 (w32 ((U 90 (U 86 13).toNat) + 1))) = ((am_upd U 124 (w32 (16 + (U 126 x6.toNat))).toNat (Int.tmod x4 (w32 ((U 90 (U 86 13).toNat) + 1)))) 90 ((am_upd U 124 (w32 (16 + (U 126 x6.toNat))).toNat (Int.tmod x4 (w32 ((U 90 (U 86 13).toNat) + 1)))) 86 13).toNat) : Prop)) → Ev (am_kz N X) ((d + 1), 132, 65, [some (.inr (.inr 86)), some (.inl x1), some (.inl x2), some (.inl x3), some (.inl (w32 (Int.tdiv x4 (w32 ((U 90 (U 86 13).toNat) + 1))))), some (.inl (w32 (x5 + 1))), some (.inl (w32 (x6 + (-1)))), some (.inl (Int.tmod x4 (w32 ((U 90 (U 86 13).toNat) + 1))))], [], (am_sh, am_mm (am_upd U 124 (w32 (16 + (U 126 x6.toNat))).toNat (Int.tmod x4 (w32 ((U 90 (U 86 13).toNat) + 1)))))) R) ∧ (¬ (¬ (Int.tmod x4 (w32 ((U 90 (U 86 13).toNat) + 1))) = ((am_upd U 124 (w32 (16 + (U 126 x6.toNat))).toNat (Int.tmod x4 (w32 ((U 90 (U 86 13).toNat) + 1)))) 90 ((am_upd U 124 (w32 (16 + (U 126 x6.toNat))).toNat (Int.tmod x4 (w32 ((U 90 (U 86 13).toNat) + 1)))) 86 13).toNat)) → Ev (am_kz N X) ((d + 1), 132, 65, [some (.inr (.inr 86)), some (.inl x1), some (.inl x2), some (.inl x3), some (.inl (w32 (Int.tdiv x4 (w32 ((U 90 (U 86 13).toNat) + 1))))), some (.inl (w32 (x5 + 0))), some (.inl (w32 (x6 + (-1)))), some (.inl (Int.tmod x4 (w32 ((U 90 (U 86 13).toNat) + 1))))], [], (am_sh, am_mm (am_upd U 124 (w32 (16 + (U 126 x6.toNat))).toNat (Int.tmod x4 (w32 ((U 90 (U 86 13).toNat) + 1)))))) R)) ∧ (¬ (¬ (Int.tmod x4 (w32 ((U 90 (U 86 13).toNat) + 1))) = (U 90 (U 86 13).toNat)) → (0 ≤ (w32 (16 + (U 126 x6.toNat))) ∧ (w32 (16 + (U 126 x6.toNat))) < 352) ∧ (0 ≤ ((am_upd U 124 (w32 (16 + (U 126 x6.toNat))).toNat (-1)) 86 13) ∧ ((am_upd U 124 (w32 (16 + (U 126 x6.toNat))).toNat (-1)) 86 13) < 2) ∧ (((¬ (Int.tmod x4 (w32 ((U 90 (U 86 13).toNat) + 1))) = ((am_upd U 124 (w32 (16 + (U 126 x6.toNat))).toNat (-1)) 90 ((am_upd U 124 (w32 (16 + (U 126 x6.toNat))).toNat (-1)) 86 13).toNat) : Prop)) → Ev (am_kz N X) ((d + 1), 132, 65, [some (.inr (.inr 86)), some (.inl x1), some (.inl x2), some (.inl x3), some (.inl (w32 (Int.tdiv x4 (w32 ((U 90 (U 86 13).toNat) + 1))))), some (.inl (w32 (x5 + 1))), some (.inl (w32 (x6 + (-1)))), some (.inl (Int.tmod x4 (w32 ((U 90 (U 86 13).toNat) + 1))))], [], (am_sh, am_mm (am_upd U 124 (w32 (16 + (U 126 x6.toNat))).toNat (-1)))) R) ∧ (¬ (¬ (Int.tmod x4 (w32 ((U 90 (U 86 13).toNat) + 1))) = ((am_upd U 124 (w32 (16 + (U 126 x6.toNat))).toNat (-1)) 90 ((am_upd U 124 (w32 (16 + (U 126 x6.toNat))).toNat (-1)) 86 13).toNat)) → Ev (am_kz N X) ((d + 1), 132, 65, [some (.inr (.inr 86)), some (.inl x1), some (.inl x2), some (.inl x3), some (.inl (w32 (Int.tdiv x4 (w32 ((U 90 (U 86 13).toNat) + 1))))), some (.inl (w32 (x5 + 0))), some (.inl (w32 (x6 + (-1)))), some (.inl (Int.tmod x4 (w32 ((U 90 (U 86 13).toNat) + 1))))], [], (am_sh, am_mm (am_upd U 124 (w32 (16 + (U 126 x6.toNat))).toNat (-1)))) R)))) : Ev (am_kz N X) ((d + 1), 132, 65, [some (.inr (.inr 86)), some (.inl x1), some (.inl x2), some (.inl x3), some (.inl x4), some (.inl x5), some (.inl x6), none], [], (am_sh, am_mm U)) R := by
  refine ev_br (P := x6 < 0) (σ1 := ((d + 1), 132, 167, [some (.inr (.inr 86)), some (.inl x1), some (.inl x2), some (.inl x3), some (.inl x4), some (.inl x5), some (.inl x6), none], [], (am_sh, am_mm U))) (σ2 := ((d + 1), 132, 70, [some (.inr (.inr 86)), some (.inl x1), some (.inl x2), some (.inl x3), some (.inl x4), some (.inl x5), some (.inl x6), none], [], (am_sh, am_mm U))) 2 (fun _ => rfl) (fun hc => ?_) (fun hc => ?_)
  · have h1 := h.1 hc
    refine ev_br (P := x5 ≤ x2) (σ1 := ((d + 1), 132, 236, [some (.inr (.inr 86)), some (.inl x1), some (.inl x2), some (.inl x3), some (.inl x4), some (.inl x5), some (.inl x6), none], [], (am_sh, am_mm U))) (σ2 := ((d + 1), 132, 173, [some (.inr (.inr 86)), some (.inl x1), some (.inl x2), some (.inl x3), some (.inl x4), some (.inl x5), some (.inl x6), none], [], (am_sh, am_mm U))) 3 (fun _ => rfl) (fun hc => ?_) (fun hc => ?_)
    · have h11 := h1.1 hc
      refine ev_seg (σ1 := ((d + 1), 132, 46, [some (.inr (.inr 86)), some (.inl x1), some (.inl x2), some (.inl (w32 (x3 + 1))), some (.inl x4), some (.inl x5), some (.inl x6), none], [], (am_sh, am_mm U))) 2 (fun _ => rfl) ?_
      exact h11
    · have h12 := h1.2 hc
      refine ev_seg (σ1 := ((d + 1), 132, 175, [some (.inr (.inr 86)), some (.inl x1), some (.inl x2), some (.inl x3), some (.inl x4), some (.inl x5), some (.inl x6), none], [.inl 1, .inr (.inr 86)], (am_sh, am_mm U))) 2 (fun _ => rfl) ?_
      obtain ⟨r1, U1, h12c, h12a⟩ := h12
      refine ev_cal (σc := (d, 217, 0, [some (.inr (.inr 86)), some (.inl 1), none], [], (am_sh, am_mm U))) (fun _ => rfl) h12c ?_
      show Ev (am_kz N X) ((d + 1), 132, 178, [some (.inr (.inr 86)), some (.inl x1), some (.inl x2), some (.inl x3), some (.inl x4), some (.inl x5), some (.inl x6), none], [.inl r1], (am_sh, am_mm U1)) R
      refine ev_br (P := r1 = 0) (σ1 := ((d + 1), 132, 236, [some (.inr (.inr 86)), some (.inl x1), some (.inl x2), some (.inl x3), some (.inl x4), some (.inl x5), some (.inl x6), none], [], (am_sh, am_mm U1))) (σ2 := ((d + 1), 132, 181, [some (.inr (.inr 86)), some (.inl x1), some (.inl x2), some (.inl x3), some (.inl x4), some (.inl x5), some (.inl x6), none], [], (am_sh, am_mm U1))) 1 (fun _ => rfl) (fun hc => ?_) (fun hc => ?_)
      · have h12a1 := h12a.1 hc
        refine ev_seg (σ1 := ((d + 1), 132, 46, [some (.inr (.inr 86)), some (.inl x1), some (.inl x2), some (.inl (w32 (x3 + 1))), some (.inl x4), some (.inl x5), some (.inl x6), none], [], (am_sh, am_mm U1))) 2 (fun _ => rfl) ?_
        exact h12a1
      · have h12a2 := h12a.2 hc
        refine ev_seg (σ1 := ((d + 1), 132, 182, [some (.inr (.inr 86)), some (.inl x1), some (.inl x2), some (.inl x3), some (.inl x4), some (.inl x5), some (.inl x6), none], [.inr (.inr 86)], (am_sh, am_mm U1))) 1 (fun _ => rfl) ?_
        obtain ⟨r2, U2, h12a2c, h12a2a⟩ := h12a2
        refine ev_cal (σc := (d, 218, 0, [some (.inr (.inr 86)), none, none], [], (am_sh, am_mm U1))) (fun _ => rfl) h12a2c ?_
        show Ev (am_kz N X) ((d + 1), 132, 185, [some (.inr (.inr 86)), some (.inl x1), some (.inl x2), some (.inl x3), some (.inl x4), some (.inl x5), some (.inl x6), none], [.inl r2], (am_sh, am_mm U2)) R
        refine ev_br (P := ¬ r2 = 0) (σ1 := ((d + 1), 132, 191, [some (.inr (.inr 86)), some (.inl x1), some (.inl x2), some (.inl x3), some (.inl x4), some (.inl x5), some (.inl x6), none], [], (am_sh, am_mm U2))) (σ2 := ((d + 1), 132, 188, [some (.inr (.inr 86)), some (.inl x1), some (.inl x2), some (.inl x3), some (.inl x4), some (.inl x5), some (.inl x6), none], [], (am_sh, am_mm U2))) 1 (fun _ => rfl) (fun hc => ?_) (fun hc => ?_)
        · have h12a2a1 := h12a2a.1 hc
          refine ev_seg (σ1 := ((d + 1), 132, 197, [some (.inr (.inr 86)), some (.inl x1), some (.inl x5), some (.inl x3), some (.inl x4), some (.inl x5), some (.inl 0), none], [], (am_sh, am_mm U2))) 4 (fun _ => rfl) ?_
          exact h12a2a1
        · have h12a2a2 := h12a2a.2 hc
          refine ev_seg (σ1 := ((d + 1), 132, 46, [some (.inr (.inr 86)), some (.inl x1), some (.inl x2), some (.inl (w32 (x3 + 1))), some (.inl x4), some (.inl x5), some (.inl x6), none], [], (am_sh, am_mm U2))) 3 (fun _ => rfl) ?_
          exact h12a2a2
  · have h2 := h.2 hc
    refine ev_seg (σ1 := ((d + 1), 132, 80, [some (.inr (.inr 86)), some (.inl x1), some (.inl x2), some (.inl x3), some (.inl x4), some (.inl x5), some (.inl x6), none], [.inl (U 86 13), .inr (.inr 90), .inl x4], (am_sh, am_mm U))) 5 (fun _ => rfl) ?_
    refine eu_iald 90 (n := 2) rfl (by decide) rfl (fun _ => rfl) h2.1 ?_
    have h2a := h2.2
    refine ev_seg (σ1 := ((d + 1), 132, 83, [some (.inr (.inr 86)), some (.inl x1), some (.inl x2), some (.inl x3), some (.inl x4), some (.inl x5), some (.inl x6), none], [.inl (w32 ((U 90 (U 86 13).toNat) + 1)), .inl x4], (am_sh, am_mm U))) 2 (fun _ => rfl) ?_
    refine ev_irem rfl h2a.1 ?_
    have h2aa := h2a.2
    refine ev_seg (σ1 := ((d + 1), 132, 96, [some (.inr (.inr 86)), some (.inl x1), some (.inl x2), some (.inl x3), some (.inl x4), some (.inl x5), some (.inl x6), some (.inl (Int.tmod x4 (w32 ((U 90 (U 86 13).toNat) + 1))))], [.inl (U 86 13), .inr (.inr 90), .inl x4], (am_sh, am_mm U))) 6 (fun _ => rfl) ?_
    refine eu_iald 90 (n := 2) rfl (by decide) rfl (fun _ => rfl) h2aa.1 ?_
    have h2aaa := h2aa.2
    refine ev_seg (σ1 := ((d + 1), 132, 99, [some (.inr (.inr 86)), some (.inl x1), some (.inl x2), some (.inl x3), some (.inl x4), some (.inl x5), some (.inl x6), some (.inl (Int.tmod x4 (w32 ((U 90 (U 86 13).toNat) + 1))))], [.inl (w32 ((U 90 (U 86 13).toNat) + 1)), .inl x4], (am_sh, am_mm U))) 2 (fun _ => rfl) ?_
    refine ev_idiv rfl h2aaa.1 ?_
    have h2aaaa := h2aaa.2
    refine ev_seg (σ1 := ((d + 1), 132, 114, [some (.inr (.inr 86)), some (.inl x1), some (.inl x2), some (.inl x3), some (.inl (w32 (Int.tdiv x4 (w32 ((U 90 (U 86 13).toNat) + 1))))), some (.inl x5), some (.inl x6), some (.inl (Int.tmod x4 (w32 ((U 90 (U 86 13).toNat) + 1))))], [.inl x6, .inr (.inr 126), .inl 16, .inr (.inr 124)], (am_sh, am_mm U))) 7 (fun _ => rfl) ?_
    refine eu_iald 126 (n := 16) rfl (by decide) rfl (fun _ => rfl) h2aaaa.1 ?_
    have h2aaaaa := h2aaaa.2
    refine ev_seg (σ1 := ((d + 1), 132, 126, [some (.inr (.inr 86)), some (.inl x1), some (.inl x2), some (.inl x3), some (.inl (w32 (Int.tdiv x4 (w32 ((U 90 (U 86 13).toNat) + 1))))), some (.inl x5), some (.inl x6), some (.inl (Int.tmod x4 (w32 ((U 90 (U 86 13).toNat) + 1))))], [.inl (U 86 13), .inr (.inr 90), .inl (Int.tmod x4 (w32 ((U 90 (U 86 13).toNat) + 1))), .inl (w32 (16 + (U 126 x6.toNat))), .inr (.inr 124)], (am_sh, am_mm U))) 6 (fun _ => rfl) ?_
    refine eu_iald 90 (n := 2) rfl (by decide) rfl (fun _ => rfl) h2aaaaa.1 ?_
    have h2aaaaaa := h2aaaaa.2
    refine ev_br (P := ¬ (Int.tmod x4 (w32 ((U 90 (U 86 13).toNat) + 1))) = (U 90 (U 86 13).toNat)) (σ1 := ((d + 1), 132, 134, [some (.inr (.inr 86)), some (.inl x1), some (.inl x2), some (.inl x3), some (.inl (w32 (Int.tdiv x4 (w32 ((U 90 (U 86 13).toNat) + 1))))), some (.inl x5), some (.inl x6), some (.inl (Int.tmod x4 (w32 ((U 90 (U 86 13).toNat) + 1))))], [.inl (w32 (16 + (U 126 x6.toNat))), .inr (.inr 124)], (am_sh, am_mm U))) (σ2 := ((d + 1), 132, 130, [some (.inr (.inr 86)), some (.inl x1), some (.inl x2), some (.inl x3), some (.inl (w32 (Int.tdiv x4 (w32 ((U 90 (U 86 13).toNat) + 1))))), some (.inl x5), some (.inl x6), some (.inl (Int.tmod x4 (w32 ((U 90 (U 86 13).toNat) + 1))))], [.inl (w32 (16 + (U 126 x6.toNat))), .inr (.inr 124)], (am_sh, am_mm U))) 1 (fun _ => rfl) (fun hc => ?_) (fun hc => ?_)
    · have h2aaaaaa1 := h2aaaaaa.1 hc
      refine ev_seg (σ1 := ((d + 1), 132, 136, [some (.inr (.inr 86)), some (.inl x1), some (.inl x2), some (.inl x3), some (.inl (w32 (Int.tdiv x4 (w32 ((U 90 (U 86 13).toNat) + 1))))), some (.inl x5), some (.inl x6), some (.inl (Int.tmod x4 (w32 ((U 90 (U 86 13).toNat) + 1))))], [.inl (Int.tmod x4 (w32 ((U 90 (U 86 13).toNat) + 1))), .inl (w32 (16 + (U 126 x6.toNat))), .inr (.inr 124)], (am_sh, am_mm U))) 1 (fun _ => rfl) ?_
      refine eu_iast 124 (n := 352) rfl (by decide) rfl (fun _ => rfl) h2aaaaaa1.1 ?_
      have h2aaaaaa1a := h2aaaaaa1.2
      refine ev_seg (σ1 := ((d + 1), 132, 149, [some (.inr (.inr 86)), some (.inl x1), some (.inl x2), some (.inl x3), some (.inl (w32 (Int.tdiv x4 (w32 ((U 90 (U 86 13).toNat) + 1))))), some (.inl x5), some (.inl x6), some (.inl (Int.tmod x4 (w32 ((U 90 (U 86 13).toNat) + 1))))], [.inl ((am_upd U 124 (w32 (16 + (U 126 x6.toNat))).toNat (Int.tmod x4 (w32 ((U 90 (U 86 13).toNat) + 1)))) 86 13), .inr (.inr 90), .inl (Int.tmod x4 (w32 ((U 90 (U 86 13).toNat) + 1))), .inl x5], (am_sh, am_mm (am_upd U 124 (w32 (16 + (U 126 x6.toNat))).toNat (Int.tmod x4 (w32 ((U 90 (U 86 13).toNat) + 1))))))) 6 (fun _ => rfl) ?_
      refine eu_iald 90 (n := 2) rfl (by decide) rfl (fun _ => rfl) h2aaaaaa1a.1 ?_
      have h2aaaaaa1aa := h2aaaaaa1a.2
      refine ev_br (P := ¬ (Int.tmod x4 (w32 ((U 90 (U 86 13).toNat) + 1))) = ((am_upd U 124 (w32 (16 + (U 126 x6.toNat))).toNat (Int.tmod x4 (w32 ((U 90 (U 86 13).toNat) + 1)))) 90 ((am_upd U 124 (w32 (16 + (U 126 x6.toNat))).toNat (Int.tmod x4 (w32 ((U 90 (U 86 13).toNat) + 1)))) 86 13).toNat)) (σ1 := ((d + 1), 132, 157, [some (.inr (.inr 86)), some (.inl x1), some (.inl x2), some (.inl x3), some (.inl (w32 (Int.tdiv x4 (w32 ((U 90 (U 86 13).toNat) + 1))))), some (.inl x5), some (.inl x6), some (.inl (Int.tmod x4 (w32 ((U 90 (U 86 13).toNat) + 1))))], [.inl x5], (am_sh, am_mm (am_upd U 124 (w32 (16 + (U 126 x6.toNat))).toNat (Int.tmod x4 (w32 ((U 90 (U 86 13).toNat) + 1))))))) (σ2 := ((d + 1), 132, 153, [some (.inr (.inr 86)), some (.inl x1), some (.inl x2), some (.inl x3), some (.inl (w32 (Int.tdiv x4 (w32 ((U 90 (U 86 13).toNat) + 1))))), some (.inl x5), some (.inl x6), some (.inl (Int.tmod x4 (w32 ((U 90 (U 86 13).toNat) + 1))))], [.inl x5], (am_sh, am_mm (am_upd U 124 (w32 (16 + (U 126 x6.toNat))).toNat (Int.tmod x4 (w32 ((U 90 (U 86 13).toNat) + 1))))))) 1 (fun _ => rfl) (fun hc => ?_) (fun hc => ?_)
      · have h2aaaaaa1aa1 := h2aaaaaa1aa.1 hc
        refine ev_seg (σ1 := ((d + 1), 132, 65, [some (.inr (.inr 86)), some (.inl x1), some (.inl x2), some (.inl x3), some (.inl (w32 (Int.tdiv x4 (w32 ((U 90 (U 86 13).toNat) + 1))))), some (.inl (w32 (x5 + 1))), some (.inl (w32 (x6 + (-1)))), some (.inl (Int.tmod x4 (w32 ((U 90 (U 86 13).toNat) + 1))))], [], (am_sh, am_mm (am_upd U 124 (w32 (16 + (U 126 x6.toNat))).toNat (Int.tmod x4 (w32 ((U 90 (U 86 13).toNat) + 1))))))) 5 (fun _ => rfl) ?_
        exact h2aaaaaa1aa1
      · have h2aaaaaa1aa2 := h2aaaaaa1aa.2 hc
        refine ev_seg (σ1 := ((d + 1), 132, 65, [some (.inr (.inr 86)), some (.inl x1), some (.inl x2), some (.inl x3), some (.inl (w32 (Int.tdiv x4 (w32 ((U 90 (U 86 13).toNat) + 1))))), some (.inl (w32 (x5 + 0))), some (.inl (w32 (x6 + (-1)))), some (.inl (Int.tmod x4 (w32 ((U 90 (U 86 13).toNat) + 1))))], [], (am_sh, am_mm (am_upd U 124 (w32 (16 + (U 126 x6.toNat))).toNat (Int.tmod x4 (w32 ((U 90 (U 86 13).toNat) + 1))))))) 6 (fun _ => rfl) ?_
        exact h2aaaaaa1aa2
    · have h2aaaaaa2 := h2aaaaaa.2 hc
      refine ev_seg (σ1 := ((d + 1), 132, 136, [some (.inr (.inr 86)), some (.inl x1), some (.inl x2), some (.inl x3), some (.inl (w32 (Int.tdiv x4 (w32 ((U 90 (U 86 13).toNat) + 1))))), some (.inl x5), some (.inl x6), some (.inl (Int.tmod x4 (w32 ((U 90 (U 86 13).toNat) + 1))))], [.inl (-1), .inl (w32 (16 + (U 126 x6.toNat))), .inr (.inr 124)], (am_sh, am_mm U))) 2 (fun _ => rfl) ?_
      refine eu_iast 124 (n := 352) rfl (by decide) rfl (fun _ => rfl) h2aaaaaa2.1 ?_
      have h2aaaaaa2a := h2aaaaaa2.2
      refine ev_seg (σ1 := ((d + 1), 132, 149, [some (.inr (.inr 86)), some (.inl x1), some (.inl x2), some (.inl x3), some (.inl (w32 (Int.tdiv x4 (w32 ((U 90 (U 86 13).toNat) + 1))))), some (.inl x5), some (.inl x6), some (.inl (Int.tmod x4 (w32 ((U 90 (U 86 13).toNat) + 1))))], [.inl ((am_upd U 124 (w32 (16 + (U 126 x6.toNat))).toNat (-1)) 86 13), .inr (.inr 90), .inl (Int.tmod x4 (w32 ((U 90 (U 86 13).toNat) + 1))), .inl x5], (am_sh, am_mm (am_upd U 124 (w32 (16 + (U 126 x6.toNat))).toNat (-1))))) 6 (fun _ => rfl) ?_
      refine eu_iald 90 (n := 2) rfl (by decide) rfl (fun _ => rfl) h2aaaaaa2a.1 ?_
      have h2aaaaaa2aa := h2aaaaaa2a.2
      refine ev_br (P := ¬ (Int.tmod x4 (w32 ((U 90 (U 86 13).toNat) + 1))) = ((am_upd U 124 (w32 (16 + (U 126 x6.toNat))).toNat (-1)) 90 ((am_upd U 124 (w32 (16 + (U 126 x6.toNat))).toNat (-1)) 86 13).toNat)) (σ1 := ((d + 1), 132, 157, [some (.inr (.inr 86)), some (.inl x1), some (.inl x2), some (.inl x3), some (.inl (w32 (Int.tdiv x4 (w32 ((U 90 (U 86 13).toNat) + 1))))), some (.inl x5), some (.inl x6), some (.inl (Int.tmod x4 (w32 ((U 90 (U 86 13).toNat) + 1))))], [.inl x5], (am_sh, am_mm (am_upd U 124 (w32 (16 + (U 126 x6.toNat))).toNat (-1))))) (σ2 := ((d + 1), 132, 153, [some (.inr (.inr 86)), some (.inl x1), some (.inl x2), some (.inl x3), some (.inl (w32 (Int.tdiv x4 (w32 ((U 90 (U 86 13).toNat) + 1))))), some (.inl x5), some (.inl x6), some (.inl (Int.tmod x4 (w32 ((U 90 (U 86 13).toNat) + 1))))], [.inl x5], (am_sh, am_mm (am_upd U 124 (w32 (16 + (U 126 x6.toNat))).toNat (-1))))) 1 (fun _ => rfl) (fun hc => ?_) (fun hc => ?_)
      · have h2aaaaaa2aa1 := h2aaaaaa2aa.1 hc
        refine ev_seg (σ1 := ((d + 1), 132, 65, [some (.inr (.inr 86)), some (.inl x1), some (.inl x2), some (.inl x3), some (.inl (w32 (Int.tdiv x4 (w32 ((U 90 (U 86 13).toNat) + 1))))), some (.inl (w32 (x5 + 1))), some (.inl (w32 (x6 + (-1)))), some (.inl (Int.tmod x4 (w32 ((U 90 (U 86 13).toNat) + 1))))], [], (am_sh, am_mm (am_upd U 124 (w32 (16 + (U 126 x6.toNat))).toNat (-1))))) 5 (fun _ => rfl) ?_
        exact h2aaaaaa2aa1
      · have h2aaaaaa2aa2 := h2aaaaaa2aa.2 hc
        refine ev_seg (σ1 := ((d + 1), 132, 65, [some (.inr (.inr 86)), some (.inl x1), some (.inl x2), some (.inl x3), some (.inl (w32 (Int.tdiv x4 (w32 ((U 90 (U 86 13).toNat) + 1))))), some (.inl (w32 (x5 + 0))), some (.inl (w32 (x6 + (-1)))), some (.inl (Int.tmod x4 (w32 ((U 90 (U 86 13).toNat) + 1))))], [], (am_sh, am_mm (am_upd U 124 (w32 (16 + (U 126 x6.toNat))).toNat (-1))))) 6 (fun _ => rfl) ?_
        exact h2aaaaaa2aa2
set_option maxRecDepth 8000 in
theorem st132_86_197 (N : Nat) (X : Nat → Int) (d : Nat) (x1 x2 x3 x4 x5 x6 : Int) (U : Nat → Nat → Int) (R : Option am_V × am_M) (h : ((((U 86 70) ≤ x6 : Prop)) → Ev (am_kz N X) ((d + 1), 132, 46, [some (.inr (.inr 86)), some (.inl x1), some (.inl x2), some (.inl (w32 (x3 + 1))), some (.inl x4), some (.inl x5), some (.inl x6), none], [], (am_sh, am_mm U)) R) ∧ (¬ ((U 86 70) ≤ x6) → (0 ≤ x6 ∧ x6 < 16) ∧ (0 ≤ x6 ∧ x6 < 16) ∧ ∃ (r1 : Int) (U1 : Nat → Nat → Int), Ev (am_kz N X) (d, 200, 0, [some (.inr (.inr 86)), some (.inl 1), some (.inl (U 126 x6.toNat))], [], (am_sh, am_mm U)) (some (.inl r1), (am_sh, am_mm U1)) ∧ (0 ≤ (U 126 x6.toNat) ∧ (U 126 x6.toNat) < 16) ∧ Ev (am_kz N X) ((d + 1), 132, 197, [some (.inr (.inr 86)), some (.inl x1), some (.inl x2), some (.inl x3), some (.inl x4), some (.inl x5), some (.inl (w32 (x6 + 1))), none], [], (am_sh, am_mm (am_upd U1 127 (U 126 x6.toNat).toNat r1))) R)) : Ev (am_kz N X) ((d + 1), 132, 197, [some (.inr (.inr 86)), some (.inl x1), some (.inl x2), some (.inl x3), some (.inl x4), some (.inl x5), some (.inl x6), none], [], (am_sh, am_mm U)) R := by
  refine ev_br (P := (U 86 70) ≤ x6) (σ1 := ((d + 1), 132, 236, [some (.inr (.inr 86)), some (.inl x1), some (.inl x2), some (.inl x3), some (.inl x4), some (.inl x5), some (.inl x6), none], [], (am_sh, am_mm U))) (σ2 := ((d + 1), 132, 206, [some (.inr (.inr 86)), some (.inl x1), some (.inl x2), some (.inl x3), some (.inl x4), some (.inl x5), some (.inl x6), none], [], (am_sh, am_mm U))) 4 (fun _ => rfl) (fun hc => ?_) (fun hc => ?_)
  · have h1 := h.1 hc
    refine ev_seg (σ1 := ((d + 1), 132, 46, [some (.inr (.inr 86)), some (.inl x1), some (.inl x2), some (.inl (w32 (x3 + 1))), some (.inl x4), some (.inl x5), some (.inl x6), none], [], (am_sh, am_mm U))) 2 (fun _ => rfl) ?_
    exact h1
  · have h2 := h.2 hc
    refine ev_seg (σ1 := ((d + 1), 132, 216, [some (.inr (.inr 86)), some (.inl x1), some (.inl x2), some (.inl x3), some (.inl x4), some (.inl x5), some (.inl x6), none], [.inl x6, .inr (.inr 126), .inr (.inr 127)], (am_sh, am_mm U))) 5 (fun _ => rfl) ?_
    refine eu_iald 126 (n := 16) rfl (by decide) rfl (fun _ => rfl) h2.1 ?_
    have h2a := h2.2
    refine ev_seg (σ1 := ((d + 1), 132, 225, [some (.inr (.inr 86)), some (.inl x1), some (.inl x2), some (.inl x3), some (.inl x4), some (.inl x5), some (.inl x6), none], [.inl x6, .inr (.inr 126), .inl 1, .inr (.inr 86), .inl (U 126 x6.toNat), .inr (.inr 127)], (am_sh, am_mm U))) 5 (fun _ => rfl) ?_
    refine eu_iald 126 (n := 16) rfl (by decide) rfl (fun _ => rfl) h2a.1 ?_
    have h2aa := h2a.2
    obtain ⟨r1, U1, h2aac, h2aaa⟩ := h2aa
    refine ev_cal (σc := (d, 200, 0, [some (.inr (.inr 86)), some (.inl 1), some (.inl (U 126 x6.toNat))], [], (am_sh, am_mm U))) (fun _ => rfl) h2aac ?_
    show Ev (am_kz N X) ((d + 1), 132, 229, [some (.inr (.inr 86)), some (.inl x1), some (.inl x2), some (.inl x3), some (.inl x4), some (.inl x5), some (.inl x6), none], [.inl r1, .inl (U 126 x6.toNat), .inr (.inr 127)], (am_sh, am_mm U1)) R
    refine eu_iast 127 (n := 16) rfl (by decide) rfl (fun _ => rfl) h2aaa.1 ?_
    have h2aaaa := h2aaa.2
    refine ev_seg (σ1 := ((d + 1), 132, 197, [some (.inr (.inr 86)), some (.inl x1), some (.inl x2), some (.inl x3), some (.inl x4), some (.inl x5), some (.inl (w32 (x6 + 1))), none], [], (am_sh, am_mm (am_upd U1 127 (U 126 x6.toNat).toNat r1)))) 2 (fun _ => rfl) ?_
    exact h2aaaa
