set_option maxRecDepth 8000 in
theorem st308_86_0 (N : Nat) (X : Nat → Int) (d : Nat) (x1 : Int) (U : Nat → Nat → Int) (R : Option am_V × am_M) (h : (0 ≤ (U 86 46) ∧ (U 86 46) < 20) ∧ (0 ≤ ((am_upd U 113 (U 86 46).toNat x1) 86 46) ∧ ((am_upd U 113 (U 86 46).toNat x1) 86 46) < 20) ∧ (0 ≤ ((am_upd (am_upd U 113 (U 86 46).toNat x1) 114 ((am_upd U 113 (U 86 46).toNat x1) 86 46).toNat 0) 86 46) ∧ ((am_upd (am_upd U 113 (U 86 46).toNat x1) 114 ((am_upd U 113 (U 86 46).toNat x1) 86 46).toNat 0) 86 46) < 20) ∧ (0 ≤ ((am_upd (am_upd (am_upd U 113 (U 86 46).toNat x1) 114 ((am_upd U 113 (U 86 46).toNat x1) 86 46).toNat 0) 115 ((am_upd (am_upd U 113 (U 86 46).toNat x1) 114 ((am_upd U 113 (U 86 46).toNat x1) 86 46).toNat 0) 86 46).toNat 1) 86 46) ∧ ((am_upd (am_upd (am_upd U 113 (U 86 46).toNat x1) 114 ((am_upd U 113 (U 86 46).toNat x1) 86 46).toNat 0) 115 ((am_upd (am_upd U 113 (U 86 46).toNat x1) 114 ((am_upd U 113 (U 86 46).toNat x1) 86 46).toNat 0) 86 46).toNat 1) 86 46) < 20) ∧ R = (none, (am_sh, am_mm (am_upd (am_upd (am_upd (am_upd (am_upd U 113 (U 86 46).toNat x1) 114 ((am_upd U 113 (U 86 46).toNat x1) 86 46).toNat 0) 115 ((am_upd (am_upd U 113 (U 86 46).toNat x1) 114 ((am_upd U 113 (U 86 46).toNat x1) 86 46).toNat 0) 86 46).toNat 1) 117 ((am_upd (am_upd (am_upd U 113 (U 86 46).toNat x1) 114 ((am_upd U 113 (U 86 46).toNat x1) 86 46).toNat 0) 115 ((am_upd (am_upd U 113 (U 86 46).toNat x1) 114 ((am_upd U 113 (U 86 46).toNat x1) 86 46).toNat 0) 86 46).toNat 1) 86 46).toNat ((am_upd (am_upd (am_upd U 113 (U 86 46).toNat x1) 114 ((am_upd U 113 (U 86 46).toNat x1) 86 46).toNat 0) 115 ((am_upd (am_upd U 113 (U 86 46).toNat x1) 114 ((am_upd U 113 (U 86 46).toNat x1) 86 46).toNat 0) 86 46).toNat 1) 86 49)) 86 46 (w32 (((am_upd (am_upd (am_upd (am_upd U 113 (U 86 46).toNat x1) 114 ((am_upd U 113 (U 86 46).toNat x1) 86 46).toNat 0) 115 ((am_upd (am_upd U 113 (U 86 46).toNat x1) 114 ((am_upd U 113 (U 86 46).toNat x1) 86 46).toNat 0) 86 46).toNat 1) 117 ((am_upd (am_upd (am_upd U 113 (U 86 46).toNat x1) 114 ((am_upd U 113 (U 86 46).toNat x1) 86 46).toNat 0) 115 ((am_upd (am_upd U 113 (U 86 46).toNat x1) 114 ((am_upd U 113 (U 86 46).toNat x1) 86 46).toNat 0) 86 46).toNat 1) 86 46).toNat ((am_upd (am_upd (am_upd U 113 (U 86 46).toNat x1) 114 ((am_upd U 113 (U 86 46).toNat x1) 86 46).toNat 0) 115 ((am_upd (am_upd U 113 (U 86 46).toNat x1) 114 ((am_upd U 113 (U 86 46).toNat x1) 86 46).toNat 0) 86 46).toNat 1) 86 49)) 86 46) + 1)))))) : Ev (am_kz N X) (d, 308, 0, [some (.inr (.inr 86)), some (.inl x1)], [], (am_sh, am_mm U)) R := by
  refine ev_seg (σ1 := (d, 308, 9, [some (.inr (.inr 86)), some (.inl x1)], [.inl x1, .inl (U 86 46), .inr (.inr 113)], (am_sh, am_mm U))) 5 (fun _ => rfl) ?_
  refine eu_iast 113 (n := 20) rfl (by decide) rfl (fun _ => rfl) h.1 ?_
  have ha := h.2
  refine ev_seg (σ1 := (d, 308, 19, [some (.inr (.inr 86)), some (.inl x1)], [.inl 0, .inl ((am_upd U 113 (U 86 46).toNat x1) 86 46), .inr (.inr 114)], (am_sh, am_mm (am_upd U 113 (U 86 46).toNat x1)))) 5 (fun _ => rfl) ?_
  refine eu_iast 114 (n := 20) rfl (by decide) rfl (fun _ => rfl) ha.1 ?_
  have haa := ha.2
  refine ev_seg (σ1 := (d, 308, 29, [some (.inr (.inr 86)), some (.inl x1)], [.inl 1, .inl ((am_upd (am_upd U 113 (U 86 46).toNat x1) 114 ((am_upd U 113 (U 86 46).toNat x1) 86 46).toNat 0) 86 46), .inr (.inr 115)], (am_sh, am_mm (am_upd (am_upd U 113 (U 86 46).toNat x1) 114 ((am_upd U 113 (U 86 46).toNat x1) 86 46).toNat 0)))) 5 (fun _ => rfl) ?_
  refine eu_zast 115 (by decide) (n := 20) rfl (by decide) rfl (fun _ => rfl) haa.1 ?_
  have haaa := haa.2
  refine ev_seg (σ1 := (d, 308, 42, [some (.inr (.inr 86)), some (.inl x1)], [.inl ((am_upd (am_upd (am_upd U 113 (U 86 46).toNat x1) 114 ((am_upd U 113 (U 86 46).toNat x1) 86 46).toNat 0) 115 ((am_upd (am_upd U 113 (U 86 46).toNat x1) 114 ((am_upd U 113 (U 86 46).toNat x1) 86 46).toNat 0) 86 46).toNat 1) 86 49), .inl ((am_upd (am_upd (am_upd U 113 (U 86 46).toNat x1) 114 ((am_upd U 113 (U 86 46).toNat x1) 86 46).toNat 0) 115 ((am_upd (am_upd U 113 (U 86 46).toNat x1) 114 ((am_upd U 113 (U 86 46).toNat x1) 86 46).toNat 0) 86 46).toNat 1) 86 46), .inr (.inr 117)], (am_sh, am_mm (am_upd (am_upd (am_upd U 113 (U 86 46).toNat x1) 114 ((am_upd U 113 (U 86 46).toNat x1) 86 46).toNat 0) 115 ((am_upd (am_upd U 113 (U 86 46).toNat x1) 114 ((am_upd U 113 (U 86 46).toNat x1) 86 46).toNat 0) 86 46).toNat 1)))) 6 (fun _ => rfl) ?_
  refine eu_iast 117 (n := 20) rfl (by decide) rfl (fun _ => rfl) haaa.1 ?_
  have haaaa := haaa.2
  refine ev_seg (σ1 := (d, 308, 50, [some (.inr (.inr 86)), some (.inl x1)], [.inl (w32 (((am_upd (am_upd (am_upd (am_upd U 113 (U 86 46).toNat x1) 114 ((am_upd U 113 (U 86 46).toNat x1) 86 46).toNat 0) 115 ((am_upd (am_upd U 113 (U 86 46).toNat x1) 114 ((am_upd U 113 (U 86 46).toNat x1) 86 46).toNat 0) 86 46).toNat 1) 117 ((am_upd (am_upd (am_upd U 113 (U 86 46).toNat x1) 114 ((am_upd U 113 (U 86 46).toNat x1) 86 46).toNat 0) 115 ((am_upd (am_upd U 113 (U 86 46).toNat x1) 114 ((am_upd U 113 (U 86 46).toNat x1) 86 46).toNat 0) 86 46).toNat 1) 86 46).toNat ((am_upd (am_upd (am_upd U 113 (U 86 46).toNat x1) 114 ((am_upd U 113 (U 86 46).toNat x1) 86 46).toNat 0) 115 ((am_upd (am_upd U 113 (U 86 46).toNat x1) 114 ((am_upd U 113 (U 86 46).toNat x1) 86 46).toNat 0) 86 46).toNat 1) 86 49)) 86 46) + 1)), .inr (.inr 86)], (am_sh, am_mm (am_upd (am_upd (am_upd (am_upd U 113 (U 86 46).toNat x1) 114 ((am_upd U 113 (U 86 46).toNat x1) 86 46).toNat 0) 115 ((am_upd (am_upd U 113 (U 86 46).toNat x1) 114 ((am_upd U 113 (U 86 46).toNat x1) 86 46).toNat 0) 86 46).toNat 1) 117 ((am_upd (am_upd (am_upd U 113 (U 86 46).toNat x1) 114 ((am_upd U 113 (U 86 46).toNat x1) 86 46).toNat 0) 115 ((am_upd (am_upd U 113 (U 86 46).toNat x1) 114 ((am_upd U 113 (U 86 46).toNat x1) 86 46).toNat 0) 86 46).toNat 1) 86 46).toNat ((am_upd (am_upd (am_upd U 113 (U 86 46).toNat x1) 114 ((am_upd U 113 (U 86 46).toNat x1) 86 46).toNat 0) 115 ((am_upd (am_upd U 113 (U 86 46).toNat x1) 114 ((am_upd U 113 (U 86 46).toNat x1) 86 46).toNat 0) 86 46).toNat 1) 86 49))))) 5 (fun _ => rfl) ?_
  refine eu_puti 86 (n := 90) rfl (by decide) rfl rfl ?_
  subst haaaa
  exact ev_end 1 (fun _ => rfl)
set_option maxRecDepth 8000 in
theorem st309_86_0 (N : Nat) (X : Nat → Int) (d : Nat) (U : Nat → Nat → Int) (R : Option am_V × am_M) (h : ∃ U1 : Nat → Nat → Int, Ev (am_kz N X) (d, 186, 0, [some (.inr (.inr 86))], [], (am_sh, am_mm U)) (none, (am_sh, am_mm U1)) ∧ ((((U1 86 8) ≤ 0 : Prop)) → (0 ≤ (w32 ((U1 86 46) - 1)) ∧ (w32 ((U1 86 46) - 1)) < 20) ∧ ∃ (r2 : Int) (U2 : Nat → Nat → Int), Ev (am_kz N X) (d, 325, 0, [some (.inl (U1 113 (w32 ((U1 86 46) - 1)).toNat))], [], (am_sh, am_mm U1)) (some (.inl r2), (am_sh, am_mm U2)) ∧ (((r2 = 0 : Prop)) → Ev (am_kz N X) ((d + 1), 309, 45, [some (.inr (.inr 86)), some (.inl (w32 ((U1 86 46) - 1))), none, none], [], (am_sh, am_mm U2)) R) ∧ (¬ (r2 = 0) → (0 ≤ (w32 ((U1 86 46) - 1)) ∧ (w32 ((U1 86 46) - 1)) < 20) ∧ ((((U2 115 (w32 ((U1 86 46) - 1)).toNat) = 0 : Prop)) → Ev (am_kz N X) ((d + 1), 309, 45, [some (.inr (.inr 86)), some (.inl (w32 ((U1 86 46) - 1))), none, none], [], (am_sh, am_mm U2)) R) ∧ (¬ ((U2 115 (w32 ((U1 86 46) - 1)).toNat) = 0) → Ev (am_kz N X) ((d + 1), 309, 46, [some (.inr (.inr 86)), some (.inl (w32 ((U1 86 46) - 1))), none, none], [.inl 1], (am_sh, am_mm U2)) R))) ∧ (¬ ((U1 86 8) ≤ 0) → R = (some (.inl 1), (am_sh, am_mm U1)))) : Ev (am_kz N X) ((d + 1), 309, 0, [some (.inr (.inr 86)), none, none, none], [], (am_sh, am_mm U)) R := by
  refine ev_seg (σ1 := ((d + 1), 309, 1, [some (.inr (.inr 86)), none, none, none], [.inr (.inr 86)], (am_sh, am_mm U))) 1 (fun _ => rfl) ?_
  obtain ⟨U1, hc, ha⟩ := h
  refine ev_cal (σc := (d, 186, 0, [some (.inr (.inr 86))], [], (am_sh, am_mm U))) (fun _ => rfl) hc ?_
  show Ev (am_kz N X) ((d + 1), 309, 4, [some (.inr (.inr 86)), none, none, none], [], (am_sh, am_mm U1)) R
  refine ev_br (P := (U1 86 8) ≤ 0) (σ1 := ((d + 1), 309, 13, [some (.inr (.inr 86)), none, none, none], [], (am_sh, am_mm U1))) (σ2 := ((d + 1), 309, 11, [some (.inr (.inr 86)), none, none, none], [], (am_sh, am_mm U1))) 3 (fun _ => rfl) (fun hc => ?_) (fun hc => ?_)
  · have ha1 := ha.1 hc
    refine ev_seg (σ1 := ((d + 1), 309, 25, [some (.inr (.inr 86)), some (.inl (w32 ((U1 86 46) - 1))), none, none], [.inl (w32 ((U1 86 46) - 1)), .inr (.inr 113)], (am_sh, am_mm U1))) 8 (fun _ => rfl) ?_
    refine eu_iald 113 (n := 20) rfl (by decide) rfl (fun _ => rfl) ha1.1 ?_
    have ha1a := ha1.2
    obtain ⟨r2, U2, ha1ac, ha1aa⟩ := ha1a
    refine ev_cal (σc := (d, 325, 0, [some (.inl (U1 113 (w32 ((U1 86 46) - 1)).toNat))], [], (am_sh, am_mm U1))) (fun _ => rfl) ha1ac ?_
    show Ev (am_kz N X) ((d + 1), 309, 29, [some (.inr (.inr 86)), some (.inl (w32 ((U1 86 46) - 1))), none, none], [.inl r2], (am_sh, am_mm U2)) R
    refine ev_br (P := r2 = 0) (σ1 := ((d + 1), 309, 45, [some (.inr (.inr 86)), some (.inl (w32 ((U1 86 46) - 1))), none, none], [], (am_sh, am_mm U2))) (σ2 := ((d + 1), 309, 32, [some (.inr (.inr 86)), some (.inl (w32 ((U1 86 46) - 1))), none, none], [], (am_sh, am_mm U2))) 1 (fun _ => rfl) (fun hc => ?_) (fun hc => ?_)
    · have ha1aa1 := ha1aa.1 hc
      exact ha1aa1
    · have ha1aa2 := ha1aa.2 hc
      refine ev_seg (σ1 := ((d + 1), 309, 37, [some (.inr (.inr 86)), some (.inl (w32 ((U1 86 46) - 1))), none, none], [.inl (w32 ((U1 86 46) - 1)), .inr (.inr 115)], (am_sh, am_mm U2))) 3 (fun _ => rfl) ?_
      refine eu_zald 115 (n := 20) rfl (by decide) rfl (fun _ => rfl) ha1aa2.1 ?_
      have ha1aa2a := ha1aa2.2
      refine ev_br (P := (U2 115 (w32 ((U1 86 46) - 1)).toNat) = 0) (σ1 := ((d + 1), 309, 45, [some (.inr (.inr 86)), some (.inl (w32 ((U1 86 46) - 1))), none, none], [], (am_sh, am_mm U2))) (σ2 := ((d + 1), 309, 41, [some (.inr (.inr 86)), some (.inl (w32 ((U1 86 46) - 1))), none, none], [], (am_sh, am_mm U2))) 1 (fun _ => rfl) (fun hc => ?_) (fun hc => ?_)
      · have ha1aa2a1 := ha1aa2a.1 hc
        exact ha1aa2a1
      · have ha1aa2a2 := ha1aa2a.2 hc
        refine ev_seg (σ1 := ((d + 1), 309, 46, [some (.inr (.inr 86)), some (.inl (w32 ((U1 86 46) - 1))), none, none], [.inl 1], (am_sh, am_mm U2))) 2 (fun _ => rfl) ?_
        exact ha1aa2a2
  · have ha2 := ha.2 hc
    subst ha2
    exact ev_end 2 (fun _ => rfl)
set_option maxRecDepth 8000 in
theorem st309_86_45 (N : Nat) (X : Nat → Int) (d : Nat) (x1 : Int) (U : Nat → Nat → Int) (R : Option am_V × am_M) (h : Ev (am_kz N X) ((d + 1), 309, 46, [some (.inr (.inr 86)), some (.inl x1), none, none], [.inl 0], (am_sh, am_mm U)) R) : Ev (am_kz N X) ((d + 1), 309, 45, [some (.inr (.inr 86)), some (.inl x1), none, none], [], (am_sh, am_mm U)) R := by
  refine ev_seg (σ1 := ((d + 1), 309, 46, [some (.inr (.inr 86)), some (.inl x1), none, none], [.inl 0], (am_sh, am_mm U))) 1 (fun _ => rfl) ?_
  exact h
set_option maxRecDepth 8000 in
theorem st309_86_46 (N : Nat) (X : Nat → Int) (d : Nat) (x1 s0 : Int) (U : Nat → Nat → Int) (R : Option am_V × am_M) (h : (((s0 = 0 : Prop)) → Ev (am_kz N X) ((d + 1), 309, 110, [some (.inr (.inr 86)), some (.inl x1), some (.inl s0), none], [], (am_sh, am_mm U)) R) ∧ (¬ (s0 = 0) → ∃ (r1 : Int) (U1 : Nat → Nat → Int), Ev (am_kz N X) (d, 187, 0, [some (.inr (.inr 86)), some (.inr (.inl 7237492)), none], [], (am_sh, am_mm U)) (some (.inl r1), (am_sh, am_mm U1)) ∧ (((r1 = 0 : Prop)) → Ev (am_kz N X) ((d + 1), 309, 110, [some (.inr (.inr 86)), some (.inl x1), some (.inl s0), none], [], (am_sh, am_mm U1)) R) ∧ (¬ (r1 = 0) → (((¬ (U1 86 47) = 7 : Prop)) → Ev (am_kz N X) ((d + 1), 309, 79, [some (.inr (.inr 86)), some (.inl x1), some (.inl s0), none], [], (am_sh, am_mm U1)) R) ∧ (¬ (¬ (U1 86 47) = 7) → ∃ U2 : Nat → Nat → Int, Ev (am_kz N X) (d, 196, 0, [some (.inr (.inr 86)), some (.inl 5), some (.inl (U1 86 4))], [], (am_sh, am_mm U1)) (none, (am_sh, am_mm U2)) ∧ Ev (am_kz N X) ((d + 1), 309, 79, [some (.inr (.inr 86)), some (.inl x1), some (.inl s0), none], [], (am_sh, am_mm U2)) R)))) : Ev (am_kz N X) ((d + 1), 309, 46, [some (.inr (.inr 86)), some (.inl x1), none, none], [.inl s0], (am_sh, am_mm U)) R := by
  refine ev_br (P := s0 = 0) (σ1 := ((d + 1), 309, 110, [some (.inr (.inr 86)), some (.inl x1), some (.inl s0), none], [], (am_sh, am_mm U))) (σ2 := ((d + 1), 309, 51, [some (.inr (.inr 86)), some (.inl x1), some (.inl s0), none], [], (am_sh, am_mm U))) 3 (fun _ => rfl) (fun hc => ?_) (fun hc => ?_)
  · have h1 := h.1 hc
    exact h1
  · have h2 := h.2 hc
    refine ev_seg (σ1 := ((d + 1), 309, 55, [some (.inr (.inr 86)), some (.inl x1), some (.inl s0), none], [.inr (.inl 7237492), .inr (.inr 86)], (am_sh, am_mm U))) 2 (fun _ => rfl) ?_
    obtain ⟨r1, U1, h2c, h2a⟩ := h2
    refine ev_cal (σc := (d, 187, 0, [some (.inr (.inr 86)), some (.inr (.inl 7237492)), none], [], (am_sh, am_mm U))) (fun _ => rfl) h2c ?_
    show Ev (am_kz N X) ((d + 1), 309, 58, [some (.inr (.inr 86)), some (.inl x1), some (.inl s0), none], [.inl r1], (am_sh, am_mm U1)) R
    refine ev_br (P := r1 = 0) (σ1 := ((d + 1), 309, 110, [some (.inr (.inr 86)), some (.inl x1), some (.inl s0), none], [], (am_sh, am_mm U1))) (σ2 := ((d + 1), 309, 61, [some (.inr (.inr 86)), some (.inl x1), some (.inl s0), none], [], (am_sh, am_mm U1))) 1 (fun _ => rfl) (fun hc => ?_) (fun hc => ?_)
    · have h2a1 := h2a.1 hc
      exact h2a1
    · have h2a2 := h2a.2 hc
      refine ev_br (P := ¬ (U1 86 47) = 7) (σ1 := ((d + 1), 309, 79, [some (.inr (.inr 86)), some (.inl x1), some (.inl s0), none], [], (am_sh, am_mm U1))) (σ2 := ((d + 1), 309, 70, [some (.inr (.inr 86)), some (.inl x1), some (.inl s0), none], [], (am_sh, am_mm U1))) 4 (fun _ => rfl) (fun hc => ?_) (fun hc => ?_)
      · have h2a21 := h2a2.1 hc
        exact h2a21
      · have h2a22 := h2a2.2 hc
        refine ev_seg (σ1 := ((d + 1), 309, 76, [some (.inr (.inr 86)), some (.inl x1), some (.inl s0), none], [.inl (U1 86 4), .inl 5, .inr (.inr 86)], (am_sh, am_mm U1))) 4 (fun _ => rfl) ?_
        obtain ⟨U2, h2a22c, h2a22a⟩ := h2a22
        refine ev_cal (σc := (d, 196, 0, [some (.inr (.inr 86)), some (.inl 5), some (.inl (U1 86 4))], [], (am_sh, am_mm U1))) (fun _ => rfl) h2a22c ?_
        show Ev (am_kz N X) ((d + 1), 309, 79, [some (.inr (.inr 86)), some (.inl x1), some (.inl s0), none], [], (am_sh, am_mm U2)) R
        exact h2a22a
set_option maxRecDepth 8000 in
theorem st309_86_110 (N : Nat) (X : Nat → Int) (d : Nat) (x1 x2 : Int) (U : Nat → Nat → Int) (R : Option am_V × am_M) (h : (0 ≤ x1 ∧ x1 < 20) ∧ (((x2 = 0 : Prop)) → Ev (am_kz N X) ((d + 1), 309, 137, [some (.inr (.inr 86)), some (.inl x1), some (.inl x2), none], [], (am_sh, am_mm (am_upd U 115 x1.toNat 0))) R) ∧ (¬ (x2 = 0) → ∃ (r1 : Int) (U1 : Nat → Nat → Int), Ev (am_kz N X) (d, 197, 0, [some (.inr (.inr 86)), some (.inl 91)], [], (am_sh, am_mm (am_upd U 115 x1.toNat 0))) (some (.inl r1), (am_sh, am_mm U1)) ∧ (((r1 = 0 : Prop)) → Ev (am_kz N X) ((d + 1), 309, 137, [some (.inr (.inr 86)), some (.inl x1), some (.inl x2), none], [], (am_sh, am_mm U1)) R) ∧ (¬ (r1 = 0) → ∃ U2 : Nat → Nat → Int, Ev (am_kz N X) (d, 327, 0, [some (.inr (.inr 86)), some (.inl 5)], [], (am_sh, am_mm U1)) (none, (am_sh, am_mm U2)) ∧ R = (some (.inl 0), (am_sh, am_mm U2))))) : Ev (am_kz N X) ((d + 1), 309, 110, [some (.inr (.inr 86)), some (.inl x1), some (.inl x2), none], [], (am_sh, am_mm U)) R := by
  refine ev_seg (σ1 := ((d + 1), 309, 116, [some (.inr (.inr 86)), some (.inl x1), some (.inl x2), none], [.inl 0, .inl x1, .inr (.inr 115)], (am_sh, am_mm U))) 4 (fun _ => rfl) ?_
  refine eu_zast 115 (by decide) (n := 20) rfl (by decide) rfl (fun _ => rfl) h.1 ?_
  have ha := h.2
  refine ev_br (P := x2 = 0) (σ1 := ((d + 1), 309, 137, [some (.inr (.inr 86)), some (.inl x1), some (.inl x2), none], [], (am_sh, am_mm (am_upd U 115 x1.toNat 0)))) (σ2 := ((d + 1), 309, 121, [some (.inr (.inr 86)), some (.inl x1), some (.inl x2), none], [], (am_sh, am_mm (am_upd U 115 x1.toNat 0)))) 2 (fun _ => rfl) (fun hc => ?_) (fun hc => ?_)
  · have ha1 := ha.1 hc
    exact ha1
  · have ha2 := ha.2 hc
    refine ev_seg (σ1 := ((d + 1), 309, 124, [some (.inr (.inr 86)), some (.inl x1), some (.inl x2), none], [.inl 91, .inr (.inr 86)], (am_sh, am_mm (am_upd U 115 x1.toNat 0)))) 2 (fun _ => rfl) ?_
    obtain ⟨r1, U1, ha2c, ha2a⟩ := ha2
    refine ev_cal (σc := (d, 197, 0, [some (.inr (.inr 86)), some (.inl 91)], [], (am_sh, am_mm (am_upd U 115 x1.toNat 0)))) (fun _ => rfl) ha2c ?_
    show Ev (am_kz N X) ((d + 1), 309, 127, [some (.inr (.inr 86)), some (.inl x1), some (.inl x2), none], [.inl r1], (am_sh, am_mm U1)) R
    refine ev_br (P := r1 = 0) (σ1 := ((d + 1), 309, 137, [some (.inr (.inr 86)), some (.inl x1), some (.inl x2), none], [], (am_sh, am_mm U1))) (σ2 := ((d + 1), 309, 130, [some (.inr (.inr 86)), some (.inl x1), some (.inl x2), none], [], (am_sh, am_mm U1))) 1 (fun _ => rfl) (fun hc => ?_) (fun hc => ?_)
    · have ha2a1 := ha2a.1 hc
      exact ha2a1
    · have ha2a2 := ha2a.2 hc
      refine ev_seg (σ1 := ((d + 1), 309, 132, [some (.inr (.inr 86)), some (.inl x1), some (.inl x2), none], [.inl 5, .inr (.inr 86)], (am_sh, am_mm U1))) 2 (fun _ => rfl) ?_
      obtain ⟨U2, ha2a2c, ha2a2a⟩ := ha2a2
      refine ev_cal (σc := (d, 327, 0, [some (.inr (.inr 86)), some (.inl 5)], [], (am_sh, am_mm U1))) (fun _ => rfl) ha2a2c ?_
      show Ev (am_kz N X) ((d + 1), 309, 135, [some (.inr (.inr 86)), some (.inl x1), some (.inl x2), none], [], (am_sh, am_mm U2)) R
      subst ha2a2a
      exact ev_end 2 (fun _ => rfl)
set_option maxRecDepth 8000 in
theorem st309_86_79 (N : Nat) (X : Nat → Int) (d : Nat) (x1 x2 : Int) (U : Nat → Nat → Int) (R : Option am_V × am_M) (h : ((((U 86 8) ≤ 0 : Prop)) → ∃ U1 : Nat → Nat → Int, Ev (am_kz N X) (d, 326, 0, [some (.inr (.inr 86)), some (.inl 22)], [], (am_sh, am_mm (am_upd U 86 47 (w32 ((U 86 47) + 1))))) (none, (am_sh, am_mm U1)) ∧ ∃ U2 : Nat → Nat → Int, Ev (am_kz N X) (d, 93, 0, [some (.inr (.inr 86)), none, none, none, none, none], [], (am_sh, am_mm U1)) (none, (am_sh, am_mm U2)) ∧ R = (some (.inl 0), (am_sh, am_mm U2))) ∧ (¬ ((U 86 8) ≤ 0) → R = (some (.inl 1), (am_sh, am_mm U)))) : Ev (am_kz N X) ((d + 1), 309, 79, [some (.inr (.inr 86)), some (.inl x1), some (.inl x2), none], [], (am_sh, am_mm U)) R := by
  refine ev_br (P := (U 86 8) ≤ 0) (σ1 := ((d + 1), 309, 88, [some (.inr (.inr 86)), some (.inl x1), some (.inl x2), none], [], (am_sh, am_mm U))) (σ2 := ((d + 1), 309, 86, [some (.inr (.inr 86)), some (.inl x1), some (.inl x2), none], [], (am_sh, am_mm U))) 3 (fun _ => rfl) (fun hc => ?_) (fun hc => ?_)
  · have h1 := h.1 hc
    refine ev_seg (σ1 := ((d + 1), 309, 95, [some (.inr (.inr 86)), some (.inl x1), some (.inl x2), none], [.inl (w32 ((U 86 47) + 1)), .inr (.inr 86)], (am_sh, am_mm U))) 5 (fun _ => rfl) ?_
    refine eu_puti 86 (n := 90) rfl (by decide) rfl rfl ?_
    refine ev_seg (σ1 := ((d + 1), 309, 101, [some (.inr (.inr 86)), some (.inl x1), some (.inl x2), none], [.inl 22, .inr (.inr 86)], (am_sh, am_mm (am_upd U 86 47 (w32 ((U 86 47) + 1)))))) 2 (fun _ => rfl) ?_
    obtain ⟨U1, h1c, h1a⟩ := h1
    refine ev_cal (σc := (d, 326, 0, [some (.inr (.inr 86)), some (.inl 22)], [], (am_sh, am_mm (am_upd U 86 47 (w32 ((U 86 47) + 1)))))) (fun _ => rfl) h1c ?_
    show Ev (am_kz N X) ((d + 1), 309, 104, [some (.inr (.inr 86)), some (.inl x1), some (.inl x2), none], [], (am_sh, am_mm U1)) R
    refine ev_seg (σ1 := ((d + 1), 309, 105, [some (.inr (.inr 86)), some (.inl x1), some (.inl x2), none], [.inr (.inr 86)], (am_sh, am_mm U1))) 1 (fun _ => rfl) ?_
    obtain ⟨U2, h1ac, h1aa⟩ := h1a
    refine ev_cal (σc := (d, 93, 0, [some (.inr (.inr 86)), none, none, none, none, none], [], (am_sh, am_mm U1))) (fun _ => rfl) h1ac ?_
    show Ev (am_kz N X) ((d + 1), 309, 108, [some (.inr (.inr 86)), some (.inl x1), some (.inl x2), none], [], (am_sh, am_mm U2)) R
    subst h1aa
    exact ev_end 2 (fun _ => rfl)
  · have h2 := h.2 hc
    subst h2
    exact ev_end 2 (fun _ => rfl)
set_option maxRecDepth 8000 in
theorem st309_86_137 (N : Nat) (X : Nat → Int) (d : Nat) (x1 x2 : Int) (U : Nat → Nat → Int) (R : Option am_V × am_M) (h : (((x2 = 0 : Prop)) → Ev (am_kz N X) ((d + 1), 309, 171, [some (.inr (.inr 86)), some (.inl x1), some (.inl x2), none], [], (am_sh, am_mm U)) R) ∧ (¬ (x2 = 0) → ∃ (r1 : Int) (U1 : Nat → Nat → Int), Ev (am_kz N X) (d, 187, 0, [some (.inr (.inr 86)), some (.inr (.inl 6384748)), none], [], (am_sh, am_mm U)) (some (.inl r1), (am_sh, am_mm U1)) ∧ (((r1 = 0 : Prop)) → Ev (am_kz N X) ((d + 1), 309, 171, [some (.inr (.inr 86)), some (.inl x1), some (.inl x2), none], [], (am_sh, am_mm U1)) R) ∧ (¬ (r1 = 0) → ∃ U2 : Nat → Nat → Int, Ev (am_kz N X) (d, 328, 0, [some (.inr (.inr 86)), some (.inl 9), some (.inl 0)], [], (am_sh, am_mm U1)) (none, (am_sh, am_mm U2)) ∧ (0 ≤ x1 ∧ x1 < 20) ∧ ∃ U3 : Nat → Nat → Int, Ev (am_kz N X) (d, 93, 0, [some (.inr (.inr 86)), none, none, none, none, none], [], (am_sh, am_mm (am_upd U2 114 x1.toNat 2))) (none, (am_sh, am_mm U3)) ∧ R = (some (.inl 1), (am_sh, am_mm U3))))) : Ev (am_kz N X) ((d + 1), 309, 137, [some (.inr (.inr 86)), some (.inl x1), some (.inl x2), none], [], (am_sh, am_mm U)) R := by
  refine ev_br (P := x2 = 0) (σ1 := ((d + 1), 309, 171, [some (.inr (.inr 86)), some (.inl x1), some (.inl x2), none], [], (am_sh, am_mm U))) (σ2 := ((d + 1), 309, 141, [some (.inr (.inr 86)), some (.inl x1), some (.inl x2), none], [], (am_sh, am_mm U))) 2 (fun _ => rfl) (fun hc => ?_) (fun hc => ?_)
  · have h1 := h.1 hc
    exact h1
  · have h2 := h.2 hc
    refine ev_seg (σ1 := ((d + 1), 309, 145, [some (.inr (.inr 86)), some (.inl x1), some (.inl x2), none], [.inr (.inl 6384748), .inr (.inr 86)], (am_sh, am_mm U))) 2 (fun _ => rfl) ?_
    obtain ⟨r1, U1, h2c, h2a⟩ := h2
    refine ev_cal (σc := (d, 187, 0, [some (.inr (.inr 86)), some (.inr (.inl 6384748)), none], [], (am_sh, am_mm U))) (fun _ => rfl) h2c ?_
    show Ev (am_kz N X) ((d + 1), 309, 148, [some (.inr (.inr 86)), some (.inl x1), some (.inl x2), none], [.inl r1], (am_sh, am_mm U1)) R
    refine ev_br (P := r1 = 0) (σ1 := ((d + 1), 309, 171, [some (.inr (.inr 86)), some (.inl x1), some (.inl x2), none], [], (am_sh, am_mm U1))) (σ2 := ((d + 1), 309, 151, [some (.inr (.inr 86)), some (.inl x1), some (.inl x2), none], [], (am_sh, am_mm U1))) 1 (fun _ => rfl) (fun hc => ?_) (fun hc => ?_)
    · have h2a1 := h2a.1 hc
      exact h2a1
    · have h2a2 := h2a.2 hc
      refine ev_seg (σ1 := ((d + 1), 309, 155, [some (.inr (.inr 86)), some (.inl x1), some (.inl x2), none], [.inl 0, .inl 9, .inr (.inr 86)], (am_sh, am_mm U1))) 3 (fun _ => rfl) ?_
      obtain ⟨U2, h2a2c, h2a2a⟩ := h2a2
      refine ev_cal (σc := (d, 328, 0, [some (.inr (.inr 86)), some (.inl 9), some (.inl 0)], [], (am_sh, am_mm U1))) (fun _ => rfl) h2a2c ?_
      show Ev (am_kz N X) ((d + 1), 309, 158, [some (.inr (.inr 86)), some (.inl x1), some (.inl x2), none], [], (am_sh, am_mm U2)) R
      refine ev_seg (σ1 := ((d + 1), 309, 164, [some (.inr (.inr 86)), some (.inl x1), some (.inl x2), none], [.inl 2, .inl x1, .inr (.inr 114)], (am_sh, am_mm U2))) 4 (fun _ => rfl) ?_
      refine eu_iast 114 (n := 20) rfl (by decide) rfl (fun _ => rfl) h2a2a.1 ?_
      have h2a2aa := h2a2a.2
      refine ev_seg (σ1 := ((d + 1), 309, 166, [some (.inr (.inr 86)), some (.inl x1), some (.inl x2), none], [.inr (.inr 86)], (am_sh, am_mm (am_upd U2 114 x1.toNat 2)))) 1 (fun _ => rfl) ?_
      obtain ⟨U3, h2a2aac, h2a2aaa⟩ := h2a2aa
      refine ev_cal (σc := (d, 93, 0, [some (.inr (.inr 86)), none, none, none, none, none], [], (am_sh, am_mm (am_upd U2 114 x1.toNat 2)))) (fun _ => rfl) h2a2aac ?_
      show Ev (am_kz N X) ((d + 1), 309, 169, [some (.inr (.inr 86)), some (.inl x1), some (.inl x2), none], [], (am_sh, am_mm U3)) R
      subst h2a2aaa
      exact ev_end 2 (fun _ => rfl)
set_option maxRecDepth 8000 in
theorem st309_86_171 (N : Nat) (X : Nat → Int) (d : Nat) (x1 x2 : Int) (U : Nat → Nat → Int) (R : Option am_V × am_M) (h : (((x2 = 0 : Prop)) → Ev (am_kz N X) ((d + 1), 309, 229, [some (.inr (.inr 86)), some (.inl x1), some (.inl x2), none], [], (am_sh, am_mm U)) R) ∧ (¬ (x2 = 0) → ∃ (r1 : Int) (U1 : Nat → Nat → Int), Ev (am_kz N X) (d, 187, 0, [some (.inr (.inr 86)), some (.inr (.inl 126931137819237)), none], [], (am_sh, am_mm U)) (some (.inl r1), (am_sh, am_mm U1)) ∧ (((¬ r1 = 0 : Prop)) → Ev (am_kz N X) ((d + 1), 309, 195, [some (.inr (.inr 86)), some (.inl x1), some (.inl x2), none], [], (am_sh, am_mm U1)) R) ∧ (¬ (¬ r1 = 0) → ∃ (r2 : Int) (U2 : Nat → Nat → Int), Ev (am_kz N X) (d, 187, 0, [some (.inr (.inr 86)), some (.inr (.inl 482955849061)), none], [], (am_sh, am_mm U1)) (some (.inl r2), (am_sh, am_mm U2)) ∧ (((r2 = 0 : Prop)) → Ev (am_kz N X) ((d + 1), 309, 229, [some (.inr (.inr 86)), some (.inl x1), some (.inl x2), none], [], (am_sh, am_mm U2)) R) ∧ (¬ (r2 = 0) → Ev (am_kz N X) ((d + 1), 309, 195, [some (.inr (.inr 86)), some (.inl x1), some (.inl x2), none], [], (am_sh, am_mm U2)) R)))) : Ev (am_kz N X) ((d + 1), 309, 171, [some (.inr (.inr 86)), some (.inl x1), some (.inl x2), none], [], (am_sh, am_mm U)) R := by
  refine ev_br (P := x2 = 0) (σ1 := ((d + 1), 309, 229, [some (.inr (.inr 86)), some (.inl x1), some (.inl x2), none], [], (am_sh, am_mm U))) (σ2 := ((d + 1), 309, 175, [some (.inr (.inr 86)), some (.inl x1), some (.inl x2), none], [], (am_sh, am_mm U))) 2 (fun _ => rfl) (fun hc => ?_) (fun hc => ?_)
  · have h1 := h.1 hc
    exact h1
  · have h2 := h.2 hc
    refine ev_seg (σ1 := ((d + 1), 309, 179, [some (.inr (.inr 86)), some (.inl x1), some (.inl x2), none], [.inr (.inl 126931137819237), .inr (.inr 86)], (am_sh, am_mm U))) 2 (fun _ => rfl) ?_
    obtain ⟨r1, U1, h2c, h2a⟩ := h2
    refine ev_cal (σc := (d, 187, 0, [some (.inr (.inr 86)), some (.inr (.inl 126931137819237)), none], [], (am_sh, am_mm U))) (fun _ => rfl) h2c ?_
    show Ev (am_kz N X) ((d + 1), 309, 182, [some (.inr (.inr 86)), some (.inl x1), some (.inl x2), none], [.inl r1], (am_sh, am_mm U1)) R
    refine ev_br (P := ¬ r1 = 0) (σ1 := ((d + 1), 309, 195, [some (.inr (.inr 86)), some (.inl x1), some (.inl x2), none], [], (am_sh, am_mm U1))) (σ2 := ((d + 1), 309, 185, [some (.inr (.inr 86)), some (.inl x1), some (.inl x2), none], [], (am_sh, am_mm U1))) 1 (fun _ => rfl) (fun hc => ?_) (fun hc => ?_)
    · have h2a1 := h2a.1 hc
      exact h2a1
    · have h2a2 := h2a.2 hc
      refine ev_seg (σ1 := ((d + 1), 309, 189, [some (.inr (.inr 86)), some (.inl x1), some (.inl x2), none], [.inr (.inl 482955849061), .inr (.inr 86)], (am_sh, am_mm U1))) 2 (fun _ => rfl) ?_
      obtain ⟨r2, U2, h2a2c, h2a2a⟩ := h2a2
      refine ev_cal (σc := (d, 187, 0, [some (.inr (.inr 86)), some (.inr (.inl 482955849061)), none], [], (am_sh, am_mm U1))) (fun _ => rfl) h2a2c ?_
      show Ev (am_kz N X) ((d + 1), 309, 192, [some (.inr (.inr 86)), some (.inl x1), some (.inl x2), none], [.inl r2], (am_sh, am_mm U2)) R
      refine ev_br (P := r2 = 0) (σ1 := ((d + 1), 309, 229, [some (.inr (.inr 86)), some (.inl x1), some (.inl x2), none], [], (am_sh, am_mm U2))) (σ2 := ((d + 1), 309, 195, [some (.inr (.inr 86)), some (.inl x1), some (.inl x2), none], [], (am_sh, am_mm U2))) 1 (fun _ => rfl) (fun hc => ?_) (fun hc => ?_)
      · have h2a2a1 := h2a2a.1 hc
        exact h2a2a1
      · have h2a2a2 := h2a2a.2 hc
        exact h2a2a2
set_option maxRecDepth 8000 in
theorem st309_86_229 (N : Nat) (X : Nat → Int) (d : Nat) (x1 x2 : Int) (U : Nat → Nat → Int) (R : Option am_V × am_M) (h : ∃ (r1 : Int) (U1 : Nat → Nat → Int), Ev (am_kz N X) (d, 197, 0, [some (.inr (.inr 86)), some (.inl 40)], [], (am_sh, am_mm U)) (some (.inl r1), (am_sh, am_mm U1)) ∧ (((r1 = 0 : Prop)) → ∃ (r2 : Int) (U2 : Nat → Nat → Int), Ev (am_kz N X) (d, 187, 0, [some (.inr (.inr 86)), some (.inr (.inl 7170414)), none], [], (am_sh, am_mm U1)) (some (.inl r2), (am_sh, am_mm U2)) ∧ (((¬ r2 = 0 : Prop)) → Ev (am_kz N X) ((d + 1), 309, 275, [some (.inr (.inr 86)), some (.inl x1), some (.inl x2), none], [], (am_sh, am_mm U2)) R) ∧ (¬ (¬ r2 = 0) → ∃ (r3 : Int) (U3 : Nat → Nat → Int), Ev (am_kz N X) (d, 187, 0, [some (.inr (.inr 86)), some (.inr (.inl 7168376)), none], [], (am_sh, am_mm U2)) (some (.inl r3), (am_sh, am_mm U3)) ∧ (((¬ r3 = 0 : Prop)) → Ev (am_kz N X) ((d + 1), 309, 275, [some (.inr (.inr 86)), some (.inl x1), some (.inl x2), none], [], (am_sh, am_mm U3)) R) ∧ (¬ (¬ r3 = 0) → ∃ (r4 : Int) (U4 : Nat → Nat → Int), Ev (am_kz N X) (d, 187, 0, [some (.inr (.inr 86)), some (.inr (.inl 6775652)), none], [], (am_sh, am_mm U3)) (some (.inl r4), (am_sh, am_mm U4)) ∧ (((r4 = 0 : Prop)) → (((¬ (U4 86 3) = 2 : Prop)) → ∃ (r5 : Int) (U5 : Nat → Nat → Int), Ev (am_kz N X) (d, 187, 0, [some (.inr (.inr 86)), some (.inr (.inl 28005)), none], [], (am_sh, am_mm U4)) (some (.inl r5), (am_sh, am_mm U5)) ∧ (((r5 = 0 : Prop)) → ∃ (r6 : Int) (U6 : Nat → Nat → Int), Ev (am_kz N X) (d, 187, 0, [some (.inr (.inr 86)), some (.inr (.inl 478694368626)), none], [], (am_sh, am_mm U5)) (some (.inl r6), (am_sh, am_mm U6)) ∧ (((r6 = 0 : Prop)) → ∃ (r7 : Int) (U7 : Nat → Nat → Int), Ev (am_kz N X) (d, 187, 0, [some (.inr (.inr 86)), some (.inr (.inl 491495845235)), none], [], (am_sh, am_mm U6)) (some (.inl r7), (am_sh, am_mm U7)) ∧ (((r7 = 0 : Prop)) → ∃ (r8 : Int) (U8 : Nat → Nat → Int), Ev (am_kz N X) (d, 187, 0, [some (.inr (.inr 86)), some (.inr (.inl 1835101817)), none], [], (am_sh, am_mm U7)) (some (.inl r8), (am_sh, am_mm U8)) ∧ (((r8 = 0 : Prop)) → ∃ (r9 : Int) (U9 : Nat → Nat → Int), Ev (am_kz N X) (d, 187, 0, [some (.inr (.inr 86)), some (.inr (.inl 448546567013)), none], [], (am_sh, am_mm U8)) (some (.inl r9), (am_sh, am_mm U9)) ∧ (((r9 = 0 : Prop)) → ∃ (r10 : Int) (U10 : Nat → Nat → Int), Ev (am_kz N X) (d, 187, 0, [some (.inr (.inr 86)), some (.inr (.inl 126943972648308)), none], [], (am_sh, am_mm U9)) (some (.inl r10), (am_sh, am_mm U10)) ∧ (((r10 = 0 : Prop)) → Ev (am_kz N X) ((d + 1), 309, 458, [some (.inr (.inr 86)), some (.inl x1), some (.inl x2), none], [.inl (-1)], (am_sh, am_mm U10)) R) ∧ (¬ (r10 = 0) → Ev (am_kz N X) ((d + 1), 309, 458, [some (.inr (.inr 86)), some (.inl x1), some (.inl x2), none], [.inl 6], (am_sh, am_mm U10)) R)) ∧ (¬ (r9 = 0) → Ev (am_kz N X) ((d + 1), 309, 458, [some (.inr (.inr 86)), some (.inl x1), some (.inl x2), none], [.inl 5], (am_sh, am_mm U9)) R)) ∧ (¬ (r8 = 0) → Ev (am_kz N X) ((d + 1), 309, 458, [some (.inr (.inr 86)), some (.inl x1), some (.inl x2), none], [.inl 4], (am_sh, am_mm U8)) R)) ∧ (¬ (r7 = 0) → Ev (am_kz N X) ((d + 1), 309, 458, [some (.inr (.inr 86)), some (.inl x1), some (.inl x2), none], [.inl 3], (am_sh, am_mm U7)) R)) ∧ (¬ (r6 = 0) → Ev (am_kz N X) ((d + 1), 309, 458, [some (.inr (.inr 86)), some (.inl x1), some (.inl x2), none], [.inl 2], (am_sh, am_mm U6)) R)) ∧ (¬ (r5 = 0) → Ev (am_kz N X) ((d + 1), 309, 458, [some (.inr (.inr 86)), some (.inl x1), some (.inl x2), none], [.inl 1], (am_sh, am_mm U5)) R)) ∧ (¬ (¬ (U4 86 3) = 2) → Ev (am_kz N X) ((d + 1), 309, 458, [some (.inr (.inr 86)), some (.inl x1), some (.inl x2), none], [.inl 0], (am_sh, am_mm U4)) R)) ∧ (¬ (r4 = 0) → Ev (am_kz N X) ((d + 1), 309, 275, [some (.inr (.inr 86)), some (.inl x1), some (.inl x2), none], [], (am_sh, am_mm U4)) R)))) ∧ (¬ (r1 = 0) → ∃ U11 : Nat → Nat → Int, Ev (am_kz N X) (d, 327, 0, [some (.inr (.inr 86)), some (.inl 2)], [], (am_sh, am_mm U1)) (none, (am_sh, am_mm U11)) ∧ R = (some (.inl 0), (am_sh, am_mm U11)))) : Ev (am_kz N X) ((d + 1), 309, 229, [some (.inr (.inr 86)), some (.inl x1), some (.inl x2), none], [], (am_sh, am_mm U)) R := by
  refine ev_seg (σ1 := ((d + 1), 309, 232, [some (.inr (.inr 86)), some (.inl x1), some (.inl x2), none], [.inl 40, .inr (.inr 86)], (am_sh, am_mm U))) 2 (fun _ => rfl) ?_
  obtain ⟨r1, U1, hc, ha⟩ := h
  refine ev_cal (σc := (d, 197, 0, [some (.inr (.inr 86)), some (.inl 40)], [], (am_sh, am_mm U))) (fun _ => rfl) hc ?_
  show Ev (am_kz N X) ((d + 1), 309, 235, [some (.inr (.inr 86)), some (.inl x1), some (.inl x2), none], [.inl r1], (am_sh, am_mm U1)) R
  refine ev_br (P := r1 = 0) (σ1 := ((d + 1), 309, 245, [some (.inr (.inr 86)), some (.inl x1), some (.inl x2), none], [], (am_sh, am_mm U1))) (σ2 := ((d + 1), 309, 238, [some (.inr (.inr 86)), some (.inl x1), some (.inl x2), none], [], (am_sh, am_mm U1))) 1 (fun _ => rfl) (fun hc => ?_) (fun hc => ?_)
  · have ha1 := ha.1 hc
    refine ev_seg (σ1 := ((d + 1), 309, 249, [some (.inr (.inr 86)), some (.inl x1), some (.inl x2), none], [.inr (.inl 7170414), .inr (.inr 86)], (am_sh, am_mm U1))) 2 (fun _ => rfl) ?_
    obtain ⟨r2, U2, ha1c, ha1a⟩ := ha1
    refine ev_cal (σc := (d, 187, 0, [some (.inr (.inr 86)), some (.inr (.inl 7170414)), none], [], (am_sh, am_mm U1))) (fun _ => rfl) ha1c ?_
    show Ev (am_kz N X) ((d + 1), 309, 252, [some (.inr (.inr 86)), some (.inl x1), some (.inl x2), none], [.inl r2], (am_sh, am_mm U2)) R
    refine ev_br (P := ¬ r2 = 0) (σ1 := ((d + 1), 309, 275, [some (.inr (.inr 86)), some (.inl x1), some (.inl x2), none], [], (am_sh, am_mm U2))) (σ2 := ((d + 1), 309, 255, [some (.inr (.inr 86)), some (.inl x1), some (.inl x2), none], [], (am_sh, am_mm U2))) 1 (fun _ => rfl) (fun hc => ?_) (fun hc => ?_)
    · have ha1a1 := ha1a.1 hc
      exact ha1a1
    · have ha1a2 := ha1a.2 hc
      refine ev_seg (σ1 := ((d + 1), 309, 259, [some (.inr (.inr 86)), some (.inl x1), some (.inl x2), none], [.inr (.inl 7168376), .inr (.inr 86)], (am_sh, am_mm U2))) 2 (fun _ => rfl) ?_
      obtain ⟨r3, U3, ha1a2c, ha1a2a⟩ := ha1a2
      refine ev_cal (σc := (d, 187, 0, [some (.inr (.inr 86)), some (.inr (.inl 7168376)), none], [], (am_sh, am_mm U2))) (fun _ => rfl) ha1a2c ?_
      show Ev (am_kz N X) ((d + 1), 309, 262, [some (.inr (.inr 86)), some (.inl x1), some (.inl x2), none], [.inl r3], (am_sh, am_mm U3)) R
      refine ev_br (P := ¬ r3 = 0) (σ1 := ((d + 1), 309, 275, [some (.inr (.inr 86)), some (.inl x1), some (.inl x2), none], [], (am_sh, am_mm U3))) (σ2 := ((d + 1), 309, 265, [some (.inr (.inr 86)), some (.inl x1), some (.inl x2), none], [], (am_sh, am_mm U3))) 1 (fun _ => rfl) (fun hc => ?_) (fun hc => ?_)
      · have ha1a2a1 := ha1a2a.1 hc
        exact ha1a2a1
      · have ha1a2a2 := ha1a2a.2 hc
        refine ev_seg (σ1 := ((d + 1), 309, 269, [some (.inr (.inr 86)), some (.inl x1), some (.inl x2), none], [.inr (.inl 6775652), .inr (.inr 86)], (am_sh, am_mm U3))) 2 (fun _ => rfl) ?_
        obtain ⟨r4, U4, ha1a2a2c, ha1a2a2a⟩ := ha1a2a2
        refine ev_cal (σc := (d, 187, 0, [some (.inr (.inr 86)), some (.inr (.inl 6775652)), none], [], (am_sh, am_mm U3))) (fun _ => rfl) ha1a2a2c ?_
        show Ev (am_kz N X) ((d + 1), 309, 272, [some (.inr (.inr 86)), some (.inl x1), some (.inl x2), none], [.inl r4], (am_sh, am_mm U4)) R
        refine ev_br (P := r4 = 0) (σ1 := ((d + 1), 309, 360, [some (.inr (.inr 86)), some (.inl x1), some (.inl x2), none], [], (am_sh, am_mm U4))) (σ2 := ((d + 1), 309, 275, [some (.inr (.inr 86)), some (.inl x1), some (.inl x2), none], [], (am_sh, am_mm U4))) 1 (fun _ => rfl) (fun hc => ?_) (fun hc => ?_)
        · have ha1a2a2a1 := ha1a2a2a.1 hc
          refine ev_br (P := ¬ (U4 86 3) = 2) (σ1 := ((d + 1), 309, 372, [some (.inr (.inr 86)), some (.inl x1), some (.inl x2), none], [], (am_sh, am_mm U4))) (σ2 := ((d + 1), 309, 368, [some (.inr (.inr 86)), some (.inl x1), some (.inl x2), none], [], (am_sh, am_mm U4))) 4 (fun _ => rfl) (fun hc => ?_) (fun hc => ?_)
          · have ha1a2a2a11 := ha1a2a2a1.1 hc
            refine ev_seg (σ1 := ((d + 1), 309, 376, [some (.inr (.inr 86)), some (.inl x1), some (.inl x2), none], [.inr (.inl 28005), .inr (.inr 86)], (am_sh, am_mm U4))) 2 (fun _ => rfl) ?_
            obtain ⟨r5, U5, ha1a2a2a11c, ha1a2a2a11a⟩ := ha1a2a2a11
            refine ev_cal (σc := (d, 187, 0, [some (.inr (.inr 86)), some (.inr (.inl 28005)), none], [], (am_sh, am_mm U4))) (fun _ => rfl) ha1a2a2a11c ?_
            show Ev (am_kz N X) ((d + 1), 309, 379, [some (.inr (.inr 86)), some (.inl x1), some (.inl x2), none], [.inl r5], (am_sh, am_mm U5)) R
            refine ev_br (P := r5 = 0) (σ1 := ((d + 1), 309, 386, [some (.inr (.inr 86)), some (.inl x1), some (.inl x2), none], [], (am_sh, am_mm U5))) (σ2 := ((d + 1), 309, 382, [some (.inr (.inr 86)), some (.inl x1), some (.inl x2), none], [], (am_sh, am_mm U5))) 1 (fun _ => rfl) (fun hc => ?_) (fun hc => ?_)
            · have ha1a2a2a11a1 := ha1a2a2a11a.1 hc
              refine ev_seg (σ1 := ((d + 1), 309, 390, [some (.inr (.inr 86)), some (.inl x1), some (.inl x2), none], [.inr (.inl 478694368626), .inr (.inr 86)], (am_sh, am_mm U5))) 2 (fun _ => rfl) ?_
              obtain ⟨r6, U6, ha1a2a2a11a1c, ha1a2a2a11a1a⟩ := ha1a2a2a11a1
              refine ev_cal (σc := (d, 187, 0, [some (.inr (.inr 86)), some (.inr (.inl 478694368626)), none], [], (am_sh, am_mm U5))) (fun _ => rfl) ha1a2a2a11a1c ?_
              show Ev (am_kz N X) ((d + 1), 309, 393, [some (.inr (.inr 86)), some (.inl x1), some (.inl x2), none], [.inl r6], (am_sh, am_mm U6)) R
              refine ev_br (P := r6 = 0) (σ1 := ((d + 1), 309, 400, [some (.inr (.inr 86)), some (.inl x1), some (.inl x2), none], [], (am_sh, am_mm U6))) (σ2 := ((d + 1), 309, 396, [some (.inr (.inr 86)), some (.inl x1), some (.inl x2), none], [], (am_sh, am_mm U6))) 1 (fun _ => rfl) (fun hc => ?_) (fun hc => ?_)
              · have ha1a2a2a11a1a1 := ha1a2a2a11a1a.1 hc
                refine ev_seg (σ1 := ((d + 1), 309, 404, [some (.inr (.inr 86)), some (.inl x1), some (.inl x2), none], [.inr (.inl 491495845235), .inr (.inr 86)], (am_sh, am_mm U6))) 2 (fun _ => rfl) ?_
                obtain ⟨r7, U7, ha1a2a2a11a1a1c, ha1a2a2a11a1a1a⟩ := ha1a2a2a11a1a1
                refine ev_cal (σc := (d, 187, 0, [some (.inr (.inr 86)), some (.inr (.inl 491495845235)), none], [], (am_sh, am_mm U6))) (fun _ => rfl) ha1a2a2a11a1a1c ?_
                show Ev (am_kz N X) ((d + 1), 309, 407, [some (.inr (.inr 86)), some (.inl x1), some (.inl x2), none], [.inl r7], (am_sh, am_mm U7)) R
                refine ev_br (P := r7 = 0) (σ1 := ((d + 1), 309, 414, [some (.inr (.inr 86)), some (.inl x1), some (.inl x2), none], [], (am_sh, am_mm U7))) (σ2 := ((d + 1), 309, 410, [some (.inr (.inr 86)), some (.inl x1), some (.inl x2), none], [], (am_sh, am_mm U7))) 1 (fun _ => rfl) (fun hc => ?_) (fun hc => ?_)
                · have ha1a2a2a11a1a1a1 := ha1a2a2a11a1a1a.1 hc
                  refine ev_seg (σ1 := ((d + 1), 309, 418, [some (.inr (.inr 86)), some (.inl x1), some (.inl x2), none], [.inr (.inl 1835101817), .inr (.inr 86)], (am_sh, am_mm U7))) 2 (fun _ => rfl) ?_
                  obtain ⟨r8, U8, ha1a2a2a11a1a1a1c, ha1a2a2a11a1a1a1a⟩ := ha1a2a2a11a1a1a1
                  refine ev_cal (σc := (d, 187, 0, [some (.inr (.inr 86)), some (.inr (.inl 1835101817)), none], [], (am_sh, am_mm U7))) (fun _ => rfl) ha1a2a2a11a1a1a1c ?_
                  show Ev (am_kz N X) ((d + 1), 309, 421, [some (.inr (.inr 86)), some (.inl x1), some (.inl x2), none], [.inl r8], (am_sh, am_mm U8)) R
                  refine ev_br (P := r8 = 0) (σ1 := ((d + 1), 309, 428, [some (.inr (.inr 86)), some (.inl x1), some (.inl x2), none], [], (am_sh, am_mm U8))) (σ2 := ((d + 1), 309, 424, [some (.inr (.inr 86)), some (.inl x1), some (.inl x2), none], [], (am_sh, am_mm U8))) 1 (fun _ => rfl) (fun hc => ?_) (fun hc => ?_)
                  · have ha1a2a2a11a1a1a1a1 := ha1a2a2a11a1a1a1a.1 hc
                    refine ev_seg (σ1 := ((d + 1), 309, 432, [some (.inr (.inr 86)), some (.inl x1), some (.inl x2), none], [.inr (.inl 448546567013), .inr (.inr 86)], (am_sh, am_mm U8))) 2 (fun _ => rfl) ?_
                    obtain ⟨r9, U9, ha1a2a2a11a1a1a1a1c, ha1a2a2a11a1a1a1a1a⟩ := ha1a2a2a11a1a1a1a1
                    refine ev_cal (σc := (d, 187, 0, [some (.inr (.inr 86)), some (.inr (.inl 448546567013)), none], [], (am_sh, am_mm U8))) (fun _ => rfl) ha1a2a2a11a1a1a1a1c ?_
                    show Ev (am_kz N X) ((d + 1), 309, 435, [some (.inr (.inr 86)), some (.inl x1), some (.inl x2), none], [.inl r9], (am_sh, am_mm U9)) R
                    refine ev_br (P := r9 = 0) (σ1 := ((d + 1), 309, 442, [some (.inr (.inr 86)), some (.inl x1), some (.inl x2), none], [], (am_sh, am_mm U9))) (σ2 := ((d + 1), 309, 438, [some (.inr (.inr 86)), some (.inl x1), some (.inl x2), none], [], (am_sh, am_mm U9))) 1 (fun _ => rfl) (fun hc => ?_) (fun hc => ?_)
                    · have ha1a2a2a11a1a1a1a1a1 := ha1a2a2a11a1a1a1a1a.1 hc
                      refine ev_seg (σ1 := ((d + 1), 309, 446, [some (.inr (.inr 86)), some (.inl x1), some (.inl x2), none], [.inr (.inl 126943972648308), .inr (.inr 86)], (am_sh, am_mm U9))) 2 (fun _ => rfl) ?_
                      obtain ⟨r10, U10, ha1a2a2a11a1a1a1a1a1c, ha1a2a2a11a1a1a1a1a1a⟩ := ha1a2a2a11a1a1a1a1a1
                      refine ev_cal (σc := (d, 187, 0, [some (.inr (.inr 86)), some (.inr (.inl 126943972648308)), none], [], (am_sh, am_mm U9))) (fun _ => rfl) ha1a2a2a11a1a1a1a1a1c ?_
                      show Ev (am_kz N X) ((d + 1), 309, 449, [some (.inr (.inr 86)), some (.inl x1), some (.inl x2), none], [.inl r10], (am_sh, am_mm U10)) R
                      refine ev_br (P := r10 = 0) (σ1 := ((d + 1), 309, 457, [some (.inr (.inr 86)), some (.inl x1), some (.inl x2), none], [], (am_sh, am_mm U10))) (σ2 := ((d + 1), 309, 452, [some (.inr (.inr 86)), some (.inl x1), some (.inl x2), none], [], (am_sh, am_mm U10))) 1 (fun _ => rfl) (fun hc => ?_) (fun hc => ?_)
                      · have ha1a2a2a11a1a1a1a1a1a1 := ha1a2a2a11a1a1a1a1a1a.1 hc
                        refine ev_seg (σ1 := ((d + 1), 309, 458, [some (.inr (.inr 86)), some (.inl x1), some (.inl x2), none], [.inl (-1)], (am_sh, am_mm U10))) 1 (fun _ => rfl) ?_
                        exact ha1a2a2a11a1a1a1a1a1a1
                      · have ha1a2a2a11a1a1a1a1a1a2 := ha1a2a2a11a1a1a1a1a1a.2 hc
                        refine ev_seg (σ1 := ((d + 1), 309, 458, [some (.inr (.inr 86)), some (.inl x1), some (.inl x2), none], [.inl 6], (am_sh, am_mm U10))) 2 (fun _ => rfl) ?_
                        exact ha1a2a2a11a1a1a1a1a1a2
                    · have ha1a2a2a11a1a1a1a1a2 := ha1a2a2a11a1a1a1a1a.2 hc
                      refine ev_seg (σ1 := ((d + 1), 309, 458, [some (.inr (.inr 86)), some (.inl x1), some (.inl x2), none], [.inl 5], (am_sh, am_mm U9))) 2 (fun _ => rfl) ?_
                      exact ha1a2a2a11a1a1a1a1a2
                  · have ha1a2a2a11a1a1a1a2 := ha1a2a2a11a1a1a1a.2 hc
                    refine ev_seg (σ1 := ((d + 1), 309, 458, [some (.inr (.inr 86)), some (.inl x1), some (.inl x2), none], [.inl 4], (am_sh, am_mm U8))) 2 (fun _ => rfl) ?_
                    exact ha1a2a2a11a1a1a1a2
                · have ha1a2a2a11a1a1a2 := ha1a2a2a11a1a1a.2 hc
                  refine ev_seg (σ1 := ((d + 1), 309, 458, [some (.inr (.inr 86)), some (.inl x1), some (.inl x2), none], [.inl 3], (am_sh, am_mm U7))) 2 (fun _ => rfl) ?_
                  exact ha1a2a2a11a1a1a2
              · have ha1a2a2a11a1a2 := ha1a2a2a11a1a.2 hc
                refine ev_seg (σ1 := ((d + 1), 309, 458, [some (.inr (.inr 86)), some (.inl x1), some (.inl x2), none], [.inl 2], (am_sh, am_mm U6))) 2 (fun _ => rfl) ?_
                exact ha1a2a2a11a1a2
            · have ha1a2a2a11a2 := ha1a2a2a11a.2 hc
              refine ev_seg (σ1 := ((d + 1), 309, 458, [some (.inr (.inr 86)), some (.inl x1), some (.inl x2), none], [.inl 1], (am_sh, am_mm U5))) 2 (fun _ => rfl) ?_
              exact ha1a2a2a11a2
          · have ha1a2a2a12 := ha1a2a2a1.2 hc
            refine ev_seg (σ1 := ((d + 1), 309, 458, [some (.inr (.inr 86)), some (.inl x1), some (.inl x2), none], [.inl 0], (am_sh, am_mm U4))) 2 (fun _ => rfl) ?_
            exact ha1a2a2a12
        · have ha1a2a2a2 := ha1a2a2a.2 hc
          exact ha1a2a2a2
  · have ha2 := ha.2 hc
    refine ev_seg (σ1 := ((d + 1), 309, 240, [some (.inr (.inr 86)), some (.inl x1), some (.inl x2), none], [.inl 2, .inr (.inr 86)], (am_sh, am_mm U1))) 2 (fun _ => rfl) ?_
    obtain ⟨U11, ha2c, ha2a⟩ := ha2
    refine ev_cal (σc := (d, 327, 0, [some (.inr (.inr 86)), some (.inl 2)], [], (am_sh, am_mm U1))) (fun _ => rfl) ha2c ?_
    show Ev (am_kz N X) ((d + 1), 309, 243, [some (.inr (.inr 86)), some (.inl x1), some (.inl x2), none], [], (am_sh, am_mm U11)) R
    subst ha2a
    exact ev_end 2 (fun _ => rfl)
set_option maxRecDepth 8000 in
theorem st309_86_195 (N : Nat) (X : Nat → Int) (d : Nat) (x1 x2 : Int) (U : Nat → Nat → Int) (R : Option am_V × am_M) (h : ∃ (r1 : Int) (U1 : Nat → Nat → Int), Ev (am_kz N X) (d, 187, 0, [some (.inr (.inr 86)), some (.inr (.inl 126931137819237)), none], [], (am_sh, am_mm U)) (some (.inl r1), (am_sh, am_mm U1)) ∧ (((r1 = 0 : Prop)) → Ev (am_kz N X) ((d + 1), 309, 213, [some (.inr (.inr 86)), some (.inl x1), some (.inl x2), none], [.inl 25, .inr (.inr 86)], (am_sh, am_mm U1)) R) ∧ (¬ (r1 = 0) → Ev (am_kz N X) ((d + 1), 309, 213, [some (.inr (.inr 86)), some (.inl x1), some (.inl x2), none], [.inl 24, .inr (.inr 86)], (am_sh, am_mm U1)) R)) : Ev (am_kz N X) ((d + 1), 309, 195, [some (.inr (.inr 86)), some (.inl x1), some (.inl x2), none], [], (am_sh, am_mm U)) R := by
  refine ev_seg (σ1 := ((d + 1), 309, 200, [some (.inr (.inr 86)), some (.inl x1), some (.inl x2), none], [.inr (.inl 126931137819237), .inr (.inr 86), .inr (.inr 86)], (am_sh, am_mm U))) 3 (fun _ => rfl) ?_
  obtain ⟨r1, U1, hc, ha⟩ := h
  refine ev_cal (σc := (d, 187, 0, [some (.inr (.inr 86)), some (.inr (.inl 126931137819237)), none], [], (am_sh, am_mm U))) (fun _ => rfl) hc ?_
  show Ev (am_kz N X) ((d + 1), 309, 203, [some (.inr (.inr 86)), some (.inl x1), some (.inl x2), none], [.inl r1, .inr (.inr 86)], (am_sh, am_mm U1)) R
  refine ev_br (P := r1 = 0) (σ1 := ((d + 1), 309, 211, [some (.inr (.inr 86)), some (.inl x1), some (.inl x2), none], [.inr (.inr 86)], (am_sh, am_mm U1))) (σ2 := ((d + 1), 309, 206, [some (.inr (.inr 86)), some (.inl x1), some (.inl x2), none], [.inr (.inr 86)], (am_sh, am_mm U1))) 1 (fun _ => rfl) (fun hc => ?_) (fun hc => ?_)
  · have ha1 := ha.1 hc
    refine ev_seg (σ1 := ((d + 1), 309, 213, [some (.inr (.inr 86)), some (.inl x1), some (.inl x2), none], [.inl 25, .inr (.inr 86)], (am_sh, am_mm U1))) 1 (fun _ => rfl) ?_
    exact ha1
  · have ha2 := ha.2 hc
    refine ev_seg (σ1 := ((d + 1), 309, 213, [some (.inr (.inr 86)), some (.inl x1), some (.inl x2), none], [.inl 24, .inr (.inr 86)], (am_sh, am_mm U1))) 2 (fun _ => rfl) ?_
    exact ha2
set_option maxRecDepth 8000 in
theorem st309_86_275 (N : Nat) (X : Nat → Int) (d : Nat) (x1 x2 : Int) (U : Nat → Nat → Int) (R : Option am_V × am_M) (h : ∃ (r1 : Int) (U1 : Nat → Nat → Int), Ev (am_kz N X) (d, 187, 0, [some (.inr (.inr 86)), some (.inr (.inl 7170414)), none], [], (am_sh, am_mm U)) (some (.inl r1), (am_sh, am_mm U1)) ∧ (((r1 = 0 : Prop)) → ∃ (r2 : Int) (U2 : Nat → Nat → Int), Ev (am_kz N X) (d, 187, 0, [some (.inr (.inr 86)), some (.inr (.inl 7168376)), none], [], (am_sh, am_mm U1)) (some (.inl r2), (am_sh, am_mm U2)) ∧ (((r2 = 0 : Prop)) → Ev (am_kz N X) ((d + 1), 309, 307, [some (.inr (.inr 86)), some (.inl x1), some (.inl x2), none], [.inl 23], (am_sh, am_mm U2)) R) ∧ (¬ (r2 = 0) → Ev (am_kz N X) ((d + 1), 309, 307, [some (.inr (.inr 86)), some (.inl x1), some (.inl x2), none], [.inl 16], (am_sh, am_mm U2)) R)) ∧ (¬ (r1 = 0) → Ev (am_kz N X) ((d + 1), 309, 307, [some (.inr (.inr 86)), some (.inl x1), some (.inl x2), none], [.inl 15], (am_sh, am_mm U1)) R)) : Ev (am_kz N X) ((d + 1), 309, 275, [some (.inr (.inr 86)), some (.inl x1), some (.inl x2), none], [], (am_sh, am_mm U)) R := by
  refine ev_seg (σ1 := ((d + 1), 309, 279, [some (.inr (.inr 86)), some (.inl x1), some (.inl x2), none], [.inr (.inl 7170414), .inr (.inr 86)], (am_sh, am_mm U))) 2 (fun _ => rfl) ?_
  obtain ⟨r1, U1, hc, ha⟩ := h
  refine ev_cal (σc := (d, 187, 0, [some (.inr (.inr 86)), some (.inr (.inl 7170414)), none], [], (am_sh, am_mm U))) (fun _ => rfl) hc ?_
  show Ev (am_kz N X) ((d + 1), 309, 282, [some (.inr (.inr 86)), some (.inl x1), some (.inl x2), none], [.inl r1], (am_sh, am_mm U1)) R
  refine ev_br (P := r1 = 0) (σ1 := ((d + 1), 309, 290, [some (.inr (.inr 86)), some (.inl x1), some (.inl x2), none], [], (am_sh, am_mm U1))) (σ2 := ((d + 1), 309, 285, [some (.inr (.inr 86)), some (.inl x1), some (.inl x2), none], [], (am_sh, am_mm U1))) 1 (fun _ => rfl) (fun hc => ?_) (fun hc => ?_)
  · have ha1 := ha.1 hc
    refine ev_seg (σ1 := ((d + 1), 309, 294, [some (.inr (.inr 86)), some (.inl x1), some (.inl x2), none], [.inr (.inl 7168376), .inr (.inr 86)], (am_sh, am_mm U1))) 2 (fun _ => rfl) ?_
    obtain ⟨r2, U2, ha1c, ha1a⟩ := ha1
    refine ev_cal (σc := (d, 187, 0, [some (.inr (.inr 86)), some (.inr (.inl 7168376)), none], [], (am_sh, am_mm U1))) (fun _ => rfl) ha1c ?_
    show Ev (am_kz N X) ((d + 1), 309, 297, [some (.inr (.inr 86)), some (.inl x1), some (.inl x2), none], [.inl r2], (am_sh, am_mm U2)) R
    refine ev_br (P := r2 = 0) (σ1 := ((d + 1), 309, 305, [some (.inr (.inr 86)), some (.inl x1), some (.inl x2), none], [], (am_sh, am_mm U2))) (σ2 := ((d + 1), 309, 300, [some (.inr (.inr 86)), some (.inl x1), some (.inl x2), none], [], (am_sh, am_mm U2))) 1 (fun _ => rfl) (fun hc => ?_) (fun hc => ?_)
    · have ha1a1 := ha1a.1 hc
      refine ev_seg (σ1 := ((d + 1), 309, 307, [some (.inr (.inr 86)), some (.inl x1), some (.inl x2), none], [.inl 23], (am_sh, am_mm U2))) 1 (fun _ => rfl) ?_
      exact ha1a1
    · have ha1a2 := ha1a.2 hc
      refine ev_seg (σ1 := ((d + 1), 309, 307, [some (.inr (.inr 86)), some (.inl x1), some (.inl x2), none], [.inl 16], (am_sh, am_mm U2))) 2 (fun _ => rfl) ?_
      exact ha1a2
  · have ha2 := ha.2 hc
    refine ev_seg (σ1 := ((d + 1), 309, 307, [some (.inr (.inr 86)), some (.inl x1), some (.inl x2), none], [.inl 15], (am_sh, am_mm U1))) 2 (fun _ => rfl) ?_
    exact ha2
set_option maxRecDepth 8000 in
theorem st309_86_458 (N : Nat) (X : Nat → Int) (d : Nat) (x1 x2 s0 : Int) (U : Nat → Nat → Int) (R : Option am_V × am_M) (h : (((¬ s0 = (-1) : Prop)) → ((((U 86 8) ≤ 0 : Prop)) → ∃ U1 : Nat → Nat → Int, Ev (am_kz N X) (d, 328, 0, [some (.inr (.inr 86)), some (.inl s0), some (.inl (U 86 6))], [], (am_sh, am_mm U)) (none, (am_sh, am_mm U1)) ∧ ∃ U2 : Nat → Nat → Int, Ev (am_kz N X) (d, 93, 0, [some (.inr (.inr 86)), none, none, none, none, none], [], (am_sh, am_mm U1)) (none, (am_sh, am_mm U2)) ∧ R = (some (.inl 1), (am_sh, am_mm U2))) ∧ (¬ ((U 86 8) ≤ 0) → R = (some (.inl 1), (am_sh, am_mm U)))) ∧ (¬ (¬ s0 = (-1)) → ∃ U3 : Nat → Nat → Int, Ev (am_kz N X) (d, 196, 0, [some (.inr (.inr 86)), some (.inl 1), some (.inl (U 86 4))], [], (am_sh, am_mm U)) (none, (am_sh, am_mm U3)) ∧ ((((U3 86 8) ≤ 0 : Prop)) → ∃ U4 : Nat → Nat → Int, Ev (am_kz N X) (d, 328, 0, [some (.inr (.inr 86)), some (.inl s0), some (.inl (U3 86 6))], [], (am_sh, am_mm U3)) (none, (am_sh, am_mm U4)) ∧ ∃ U5 : Nat → Nat → Int, Ev (am_kz N X) (d, 93, 0, [some (.inr (.inr 86)), none, none, none, none, none], [], (am_sh, am_mm U4)) (none, (am_sh, am_mm U5)) ∧ R = (some (.inl 1), (am_sh, am_mm U5))) ∧ (¬ ((U3 86 8) ≤ 0) → R = (some (.inl 1), (am_sh, am_mm U3))))) : Ev (am_kz N X) ((d + 1), 309, 458, [some (.inr (.inr 86)), some (.inl x1), some (.inl x2), none], [.inl s0], (am_sh, am_mm U)) R := by
  refine ev_br (P := ¬ s0 = (-1)) (σ1 := ((d + 1), 309, 473, [some (.inr (.inr 86)), some (.inl x1), some (.inl x2), some (.inl s0)], [], (am_sh, am_mm U))) (σ2 := ((d + 1), 309, 464, [some (.inr (.inr 86)), some (.inl x1), some (.inl x2), some (.inl s0)], [], (am_sh, am_mm U))) 4 (fun _ => rfl) (fun hc => ?_) (fun hc => ?_)
  · have h1 := h.1 hc
    refine ev_br (P := (U 86 8) ≤ 0) (σ1 := ((d + 1), 309, 482, [some (.inr (.inr 86)), some (.inl x1), some (.inl x2), some (.inl s0)], [], (am_sh, am_mm U))) (σ2 := ((d + 1), 309, 480, [some (.inr (.inr 86)), some (.inl x1), some (.inl x2), some (.inl s0)], [], (am_sh, am_mm U))) 3 (fun _ => rfl) (fun hc => ?_) (fun hc => ?_)
    · have h11 := h1.1 hc
      refine ev_seg (σ1 := ((d + 1), 309, 488, [some (.inr (.inr 86)), some (.inl x1), some (.inl x2), some (.inl s0)], [.inl (U 86 6), .inl s0, .inr (.inr 86)], (am_sh, am_mm U))) 4 (fun _ => rfl) ?_
      obtain ⟨U1, h11c, h11a⟩ := h11
      refine ev_cal (σc := (d, 328, 0, [some (.inr (.inr 86)), some (.inl s0), some (.inl (U 86 6))], [], (am_sh, am_mm U))) (fun _ => rfl) h11c ?_
      show Ev (am_kz N X) ((d + 1), 309, 491, [some (.inr (.inr 86)), some (.inl x1), some (.inl x2), some (.inl s0)], [], (am_sh, am_mm U1)) R
      refine ev_seg (σ1 := ((d + 1), 309, 492, [some (.inr (.inr 86)), some (.inl x1), some (.inl x2), some (.inl s0)], [.inr (.inr 86)], (am_sh, am_mm U1))) 1 (fun _ => rfl) ?_
      obtain ⟨U2, h11ac, h11aa⟩ := h11a
      refine ev_cal (σc := (d, 93, 0, [some (.inr (.inr 86)), none, none, none, none, none], [], (am_sh, am_mm U1))) (fun _ => rfl) h11ac ?_
      show Ev (am_kz N X) ((d + 1), 309, 495, [some (.inr (.inr 86)), some (.inl x1), some (.inl x2), some (.inl s0)], [], (am_sh, am_mm U2)) R
      subst h11aa
      exact ev_end 2 (fun _ => rfl)
    · have h12 := h1.2 hc
      subst h12
      exact ev_end 2 (fun _ => rfl)
  · have h2 := h.2 hc
    refine ev_seg (σ1 := ((d + 1), 309, 470, [some (.inr (.inr 86)), some (.inl x1), some (.inl x2), some (.inl s0)], [.inl (U 86 4), .inl 1, .inr (.inr 86)], (am_sh, am_mm U))) 4 (fun _ => rfl) ?_
    obtain ⟨U3, h2c, h2a⟩ := h2
    refine ev_cal (σc := (d, 196, 0, [some (.inr (.inr 86)), some (.inl 1), some (.inl (U 86 4))], [], (am_sh, am_mm U))) (fun _ => rfl) h2c ?_
    show Ev (am_kz N X) ((d + 1), 309, 473, [some (.inr (.inr 86)), some (.inl x1), some (.inl x2), some (.inl s0)], [], (am_sh, am_mm U3)) R
    refine ev_br (P := (U3 86 8) ≤ 0) (σ1 := ((d + 1), 309, 482, [some (.inr (.inr 86)), some (.inl x1), some (.inl x2), some (.inl s0)], [], (am_sh, am_mm U3))) (σ2 := ((d + 1), 309, 480, [some (.inr (.inr 86)), some (.inl x1), some (.inl x2), some (.inl s0)], [], (am_sh, am_mm U3))) 3 (fun _ => rfl) (fun hc => ?_) (fun hc => ?_)
    · have h2a1 := h2a.1 hc
      refine ev_seg (σ1 := ((d + 1), 309, 488, [some (.inr (.inr 86)), some (.inl x1), some (.inl x2), some (.inl s0)], [.inl (U3 86 6), .inl s0, .inr (.inr 86)], (am_sh, am_mm U3))) 4 (fun _ => rfl) ?_
      obtain ⟨U4, h2a1c, h2a1a⟩ := h2a1
      refine ev_cal (σc := (d, 328, 0, [some (.inr (.inr 86)), some (.inl s0), some (.inl (U3 86 6))], [], (am_sh, am_mm U3))) (fun _ => rfl) h2a1c ?_
      show Ev (am_kz N X) ((d + 1), 309, 491, [some (.inr (.inr 86)), some (.inl x1), some (.inl x2), some (.inl s0)], [], (am_sh, am_mm U4)) R
      refine ev_seg (σ1 := ((d + 1), 309, 492, [some (.inr (.inr 86)), some (.inl x1), some (.inl x2), some (.inl s0)], [.inr (.inr 86)], (am_sh, am_mm U4))) 1 (fun _ => rfl) ?_
      obtain ⟨U5, h2a1ac, h2a1aa⟩ := h2a1a
      refine ev_cal (σc := (d, 93, 0, [some (.inr (.inr 86)), none, none, none, none, none], [], (am_sh, am_mm U4))) (fun _ => rfl) h2a1ac ?_
      show Ev (am_kz N X) ((d + 1), 309, 495, [some (.inr (.inr 86)), some (.inl x1), some (.inl x2), some (.inl s0)], [], (am_sh, am_mm U5)) R
      subst h2a1aa
      exact ev_end 2 (fun _ => rfl)
    · have h2a2 := h2a.2 hc
      subst h2a2
      exact ev_end 2 (fun _ => rfl)
set_option maxRecDepth 8000 in
theorem st309_86_213 (N : Nat) (X : Nat → Int) (d : Nat) (x1 x2 s1 : Int) (U : Nat → Nat → Int) (R : Option am_V × am_M) (h : ∃ U1 : Nat → Nat → Int, Ev (am_kz N X) (d, 326, 0, [some (.inr (.inr 86)), some (.inl s1)], [], (am_sh, am_mm U)) (none, (am_sh, am_mm U1)) ∧ (0 ≤ x1 ∧ x1 < 20) ∧ ∃ U2 : Nat → Nat → Int, Ev (am_kz N X) (d, 93, 0, [some (.inr (.inr 86)), none, none, none, none, none], [], (am_sh, am_mm (am_upd U1 114 x1.toNat 1))) (none, (am_sh, am_mm U2)) ∧ R = (some (.inl 0), (am_sh, am_mm U2))) : Ev (am_kz N X) ((d + 1), 309, 213, [some (.inr (.inr 86)), some (.inl x1), some (.inl x2), none], [.inl s1, .inr (.inr 86)], (am_sh, am_mm U)) R := by
  obtain ⟨U1, hc, ha⟩ := h
  refine ev_cal (σc := (d, 326, 0, [some (.inr (.inr 86)), some (.inl s1)], [], (am_sh, am_mm U))) (fun _ => rfl) hc ?_
  show Ev (am_kz N X) ((d + 1), 309, 216, [some (.inr (.inr 86)), some (.inl x1), some (.inl x2), none], [], (am_sh, am_mm U1)) R
  refine ev_seg (σ1 := ((d + 1), 309, 222, [some (.inr (.inr 86)), some (.inl x1), some (.inl x2), none], [.inl 1, .inl x1, .inr (.inr 114)], (am_sh, am_mm U1))) 4 (fun _ => rfl) ?_
  refine eu_iast 114 (n := 20) rfl (by decide) rfl (fun _ => rfl) ha.1 ?_
  have haa := ha.2
  refine ev_seg (σ1 := ((d + 1), 309, 224, [some (.inr (.inr 86)), some (.inl x1), some (.inl x2), none], [.inr (.inr 86)], (am_sh, am_mm (am_upd U1 114 x1.toNat 1)))) 1 (fun _ => rfl) ?_
  obtain ⟨U2, haac, haaa⟩ := haa
  refine ev_cal (σc := (d, 93, 0, [some (.inr (.inr 86)), none, none, none, none, none], [], (am_sh, am_mm (am_upd U1 114 x1.toNat 1)))) (fun _ => rfl) haac ?_
  show Ev (am_kz N X) ((d + 1), 309, 227, [some (.inr (.inr 86)), some (.inl x1), some (.inl x2), none], [], (am_sh, am_mm U2)) R
  subst haaa
  exact ev_end 2 (fun _ => rfl)
set_option maxRecDepth 8000 in
theorem st309_86_307 (N : Nat) (X : Nat → Int) (d : Nat) (x1 x2 s0 : Int) (U : Nat → Nat → Int) (R : Option am_V × am_M) (h : ∃ U1 : Nat → Nat → Int, Ev (am_kz N X) (d, 93, 0, [some (.inr (.inr 86)), none, none, none, none, none], [], (am_sh, am_mm U)) (none, (am_sh, am_mm U1)) ∧ ∃ U2 : Nat → Nat → Int, Ev (am_kz N X) (d, 186, 0, [some (.inr (.inr 86))], [], (am_sh, am_mm U1)) (none, (am_sh, am_mm U2)) ∧ ∃ (r3 : Int) (U3 : Nat → Nat → Int), Ev (am_kz N X) (d, 197, 0, [some (.inr (.inr 86)), some (.inl 40)], [], (am_sh, am_mm U2)) (some (.inl r3), (am_sh, am_mm U3)) ∧ (((¬ r3 = 0 : Prop)) → ∃ U4 : Nat → Nat → Int, Ev (am_kz N X) (d, 327, 0, [some (.inr (.inr 86)), some (.inl 3)], [], (am_sh, am_mm U3)) (none, (am_sh, am_mm U4)) ∧ (((¬ (U4 86 8) = 0 : Prop)) → R = (some (.inl 0), (am_sh, am_mm U4))) ∧ (¬ (¬ (U4 86 8) = 0) → (0 ≤ (w32 ((U4 86 46) - 1)) ∧ (w32 ((U4 86 46) - 1)) < 20) ∧ R = (some (.inl 0), (am_sh, am_mm (am_upd U4 116 (w32 ((U4 86 46) - 1)).toNat s0))))) ∧ (¬ (¬ r3 = 0) → ∃ U5 : Nat → Nat → Int, Ev (am_kz N X) (d, 196, 0, [some (.inr (.inr 86)), some (.inl 1), some (.inl (U3 86 4))], [], (am_sh, am_mm U3)) (none, (am_sh, am_mm U5)) ∧ ∃ U6 : Nat → Nat → Int, Ev (am_kz N X) (d, 327, 0, [some (.inr (.inr 86)), some (.inl 3)], [], (am_sh, am_mm U5)) (none, (am_sh, am_mm U6)) ∧ (((¬ (U6 86 8) = 0 : Prop)) → R = (some (.inl 0), (am_sh, am_mm U6))) ∧ (¬ (¬ (U6 86 8) = 0) → (0 ≤ (w32 ((U6 86 46) - 1)) ∧ (w32 ((U6 86 46) - 1)) < 20) ∧ R = (some (.inl 0), (am_sh, am_mm (am_upd U6 116 (w32 ((U6 86 46) - 1)).toNat s0)))))) : Ev (am_kz N X) ((d + 1), 309, 307, [some (.inr (.inr 86)), some (.inl x1), some (.inl x2), none], [.inl s0], (am_sh, am_mm U)) R := by
  refine ev_seg (σ1 := ((d + 1), 309, 309, [some (.inr (.inr 86)), some (.inl x1), some (.inl x2), some (.inl s0)], [.inr (.inr 86)], (am_sh, am_mm U))) 2 (fun _ => rfl) ?_
  obtain ⟨U1, hc, ha⟩ := h
  refine ev_cal (σc := (d, 93, 0, [some (.inr (.inr 86)), none, none, none, none, none], [], (am_sh, am_mm U))) (fun _ => rfl) hc ?_
  show Ev (am_kz N X) ((d + 1), 309, 312, [some (.inr (.inr 86)), some (.inl x1), some (.inl x2), some (.inl s0)], [], (am_sh, am_mm U1)) R
  refine ev_seg (σ1 := ((d + 1), 309, 313, [some (.inr (.inr 86)), some (.inl x1), some (.inl x2), some (.inl s0)], [.inr (.inr 86)], (am_sh, am_mm U1))) 1 (fun _ => rfl) ?_
  obtain ⟨U2, hac, haa⟩ := ha
  refine ev_cal (σc := (d, 186, 0, [some (.inr (.inr 86))], [], (am_sh, am_mm U1))) (fun _ => rfl) hac ?_
  show Ev (am_kz N X) ((d + 1), 309, 316, [some (.inr (.inr 86)), some (.inl x1), some (.inl x2), some (.inl s0)], [], (am_sh, am_mm U2)) R
  refine ev_seg (σ1 := ((d + 1), 309, 319, [some (.inr (.inr 86)), some (.inl x1), some (.inl x2), some (.inl s0)], [.inl 40, .inr (.inr 86)], (am_sh, am_mm U2))) 2 (fun _ => rfl) ?_
  obtain ⟨r3, U3, haac, haaa⟩ := haa
  refine ev_cal (σc := (d, 197, 0, [some (.inr (.inr 86)), some (.inl 40)], [], (am_sh, am_mm U2))) (fun _ => rfl) haac ?_
  show Ev (am_kz N X) ((d + 1), 309, 322, [some (.inr (.inr 86)), some (.inl x1), some (.inl x2), some (.inl s0)], [.inl r3], (am_sh, am_mm U3)) R
  refine ev_br (P := ¬ r3 = 0) (σ1 := ((d + 1), 309, 334, [some (.inr (.inr 86)), some (.inl x1), some (.inl x2), some (.inl s0)], [], (am_sh, am_mm U3))) (σ2 := ((d + 1), 309, 325, [some (.inr (.inr 86)), some (.inl x1), some (.inl x2), some (.inl s0)], [], (am_sh, am_mm U3))) 1 (fun _ => rfl) (fun hc => ?_) (fun hc => ?_)
  · have haaa1 := haaa.1 hc
    refine ev_seg (σ1 := ((d + 1), 309, 336, [some (.inr (.inr 86)), some (.inl x1), some (.inl x2), some (.inl s0)], [.inl 3, .inr (.inr 86)], (am_sh, am_mm U3))) 2 (fun _ => rfl) ?_
    obtain ⟨U4, haaa1c, haaa1a⟩ := haaa1
    refine ev_cal (σc := (d, 327, 0, [some (.inr (.inr 86)), some (.inl 3)], [], (am_sh, am_mm U3))) (fun _ => rfl) haaa1c ?_
    show Ev (am_kz N X) ((d + 1), 309, 339, [some (.inr (.inr 86)), some (.inl x1), some (.inl x2), some (.inl s0)], [], (am_sh, am_mm U4)) R
    refine ev_br (P := ¬ (U4 86 8) = 0) (σ1 := ((d + 1), 309, 358, [some (.inr (.inr 86)), some (.inl x1), some (.inl x2), some (.inl s0)], [], (am_sh, am_mm U4))) (σ2 := ((d + 1), 309, 346, [some (.inr (.inr 86)), some (.inl x1), some (.inl x2), some (.inl s0)], [], (am_sh, am_mm U4))) 3 (fun _ => rfl) (fun hc => ?_) (fun hc => ?_)
    · have haaa1a1 := haaa1a.1 hc
      subst haaa1a1
      exact ev_end 2 (fun _ => rfl)
    · have haaa1a2 := haaa1a.2 hc
      refine ev_seg (σ1 := ((d + 1), 309, 357, [some (.inr (.inr 86)), some (.inl x1), some (.inl x2), some (.inl s0)], [.inl s0, .inl (w32 ((U4 86 46) - 1)), .inr (.inr 116)], (am_sh, am_mm U4))) 7 (fun _ => rfl) ?_
      refine eu_iast 116 (n := 20) rfl (by decide) rfl (fun _ => rfl) haaa1a2.1 ?_
      have haaa1a2a := haaa1a2.2
      subst haaa1a2a
      exact ev_end 2 (fun _ => rfl)
  · have haaa2 := haaa.2 hc
    refine ev_seg (σ1 := ((d + 1), 309, 331, [some (.inr (.inr 86)), some (.inl x1), some (.inl x2), some (.inl s0)], [.inl (U3 86 4), .inl 1, .inr (.inr 86)], (am_sh, am_mm U3))) 4 (fun _ => rfl) ?_
    obtain ⟨U5, haaa2c, haaa2a⟩ := haaa2
    refine ev_cal (σc := (d, 196, 0, [some (.inr (.inr 86)), some (.inl 1), some (.inl (U3 86 4))], [], (am_sh, am_mm U3))) (fun _ => rfl) haaa2c ?_
    show Ev (am_kz N X) ((d + 1), 309, 334, [some (.inr (.inr 86)), some (.inl x1), some (.inl x2), some (.inl s0)], [], (am_sh, am_mm U5)) R
    refine ev_seg (σ1 := ((d + 1), 309, 336, [some (.inr (.inr 86)), some (.inl x1), some (.inl x2), some (.inl s0)], [.inl 3, .inr (.inr 86)], (am_sh, am_mm U5))) 2 (fun _ => rfl) ?_
    obtain ⟨U6, haaa2ac, haaa2aa⟩ := haaa2a
    refine ev_cal (σc := (d, 327, 0, [some (.inr (.inr 86)), some (.inl 3)], [], (am_sh, am_mm U5))) (fun _ => rfl) haaa2ac ?_
    show Ev (am_kz N X) ((d + 1), 309, 339, [some (.inr (.inr 86)), some (.inl x1), some (.inl x2), some (.inl s0)], [], (am_sh, am_mm U6)) R
    refine ev_br (P := ¬ (U6 86 8) = 0) (σ1 := ((d + 1), 309, 358, [some (.inr (.inr 86)), some (.inl x1), some (.inl x2), some (.inl s0)], [], (am_sh, am_mm U6))) (σ2 := ((d + 1), 309, 346, [some (.inr (.inr 86)), some (.inl x1), some (.inl x2), some (.inl s0)], [], (am_sh, am_mm U6))) 3 (fun _ => rfl) (fun hc => ?_) (fun hc => ?_)
    · have haaa2aa1 := haaa2aa.1 hc
      subst haaa2aa1
      exact ev_end 2 (fun _ => rfl)
    · have haaa2aa2 := haaa2aa.2 hc
      refine ev_seg (σ1 := ((d + 1), 309, 357, [some (.inr (.inr 86)), some (.inl x1), some (.inl x2), some (.inl s0)], [.inl s0, .inl (w32 ((U6 86 46) - 1)), .inr (.inr 116)], (am_sh, am_mm U6))) 7 (fun _ => rfl) ?_
      refine eu_iast 116 (n := 20) rfl (by decide) rfl (fun _ => rfl) haaa2aa2.1 ?_
      have haaa2aa2a := haaa2aa2.2
      subst haaa2aa2a
      exact ev_end 2 (fun _ => rfl)
set_option maxRecDepth 8000 in
theorem st307_86_0 (N : Nat) (X : Nat → Int) (d : Nat) (x1 x2 : Int) (U : Nat → Nat → Int) (R : Option am_V × am_M) (h : Ev (am_kz N X) ((d + 1), 307, 3, [some (.inr (.inr 86)), some (.inl x1), some (.inr (.inl x2)), none, some (.inl 0)], [], (am_sh, am_mm U)) R) : Ev (am_kz N X) ((d + 1), 307, 0, [some (.inr (.inr 86)), some (.inl x1), some (.inr (.inl x2)), none, none], [], (am_sh, am_mm U)) R := by
  refine ev_seg (σ1 := ((d + 1), 307, 3, [some (.inr (.inr 86)), some (.inl x1), some (.inr (.inl x2)), none, some (.inl 0)], [], (am_sh, am_mm U))) 2 (fun _ => rfl) ?_
  exact h
set_option maxRecDepth 8000 in
theorem st307_86_3 (N : Nat) (X : Nat → Int) (d : Nat) (x1 x2 x4 : Int) (U : Nat → Nat → Int) (R : Option am_V × am_M) (h : ∃ (r1 : Int) (U1 : Nat → Nat → Int), Ev (am_kz N X) (d, 104, 0, [some (.inr (.inr 86)), some (.inl (U 86 40)), some (.inl x1)], [], (am_sh, am_mm U)) (some (.inl r1), (am_sh, am_mm U1)) ∧ (((r1 ≤ x4 : Prop)) → R = (some (.inl (-1)), (am_sh, am_mm U1))) ∧ (¬ (r1 ≤ x4) → ∃ (r2 : Int) (U2 : Nat → Nat → Int), Ev (am_kz N X) (d, 105, 0, [some (.inr (.inr 86)), some (.inl (U1 86 40)), some (.inl x1), some (.inl x4)], [], (am_sh, am_mm U1)) (some (.inr (.inl r2)), (am_sh, am_mm U2)) ∧ (((¬ (am_lcmp r2 x2) = 0 : Prop)) → Ev (am_kz N X) ((d + 1), 307, 3, [some (.inr (.inr 86)), some (.inl x1), some (.inr (.inl x2)), none, some (.inl (w32 (x4 + 1)))], [], (am_sh, am_mm U2)) R) ∧ (¬ (¬ (am_lcmp r2 x2) = 0) → R = (some (.inl x4), (am_sh, am_mm U2))))) : Ev (am_kz N X) ((d + 1), 307, 3, [some (.inr (.inr 86)), some (.inl x1), some (.inr (.inl x2)), none, some (.inl x4)], [], (am_sh, am_mm U)) R := by
  refine ev_seg (σ1 := ((d + 1), 307, 11, [some (.inr (.inr 86)), some (.inl x1), some (.inr (.inl x2)), none, some (.inl x4)], [.inl x1, .inl (U 86 40), .inr (.inr 86), .inl x4], (am_sh, am_mm U))) 5 (fun _ => rfl) ?_
  obtain ⟨r1, U1, hc, ha⟩ := h
  refine ev_cal (σc := (d, 104, 0, [some (.inr (.inr 86)), some (.inl (U 86 40)), some (.inl x1)], [], (am_sh, am_mm U))) (fun _ => rfl) hc ?_
  show Ev (am_kz N X) ((d + 1), 307, 14, [some (.inr (.inr 86)), some (.inl x1), some (.inr (.inl x2)), none, some (.inl x4)], [.inl r1, .inl x4], (am_sh, am_mm U1)) R
  refine ev_br (P := r1 ≤ x4) (σ1 := ((d + 1), 307, 42, [some (.inr (.inr 86)), some (.inl x1), some (.inr (.inl x2)), none, some (.inl x4)], [], (am_sh, am_mm U1))) (σ2 := ((d + 1), 307, 17, [some (.inr (.inr 86)), some (.inl x1), some (.inr (.inl x2)), none, some (.inl x4)], [], (am_sh, am_mm U1))) 1 (fun _ => rfl) (fun hc => ?_) (fun hc => ?_)
  · have ha1 := ha.1 hc
    subst ha1
    exact ev_end 2 (fun _ => rfl)
  · have ha2 := ha.2 hc
    refine ev_seg (σ1 := ((d + 1), 307, 25, [some (.inr (.inr 86)), some (.inl x1), some (.inr (.inl x2)), none, some (.inl x4)], [.inl x4, .inl x1, .inl (U1 86 40), .inr (.inr 86)], (am_sh, am_mm U1))) 5 (fun _ => rfl) ?_
    obtain ⟨r2, U2, ha2c, ha2a⟩ := ha2
    refine ev_cal (σc := (d, 105, 0, [some (.inr (.inr 86)), some (.inl (U1 86 40)), some (.inl x1), some (.inl x4)], [], (am_sh, am_mm U1))) (fun _ => rfl) ha2c ?_
    show Ev (am_kz N X) ((d + 1), 307, 28, [some (.inr (.inr 86)), some (.inl x1), some (.inr (.inl x2)), none, some (.inl x4)], [.inr (.inl r2)], (am_sh, am_mm U2)) R
    refine ev_br (P := ¬ (am_lcmp r2 x2) = 0) (σ1 := ((d + 1), 307, 36, [some (.inr (.inr 86)), some (.inl x1), some (.inr (.inl x2)), none, some (.inl x4)], [], (am_sh, am_mm U2))) (σ2 := ((d + 1), 307, 33, [some (.inr (.inr 86)), some (.inl x1), some (.inr (.inl x2)), none, some (.inl x4)], [], (am_sh, am_mm U2))) 3 (fun _ => rfl) (fun hc => ?_) (fun hc => ?_)
    · have ha2a1 := ha2a.1 hc
      refine ev_seg (σ1 := ((d + 1), 307, 3, [some (.inr (.inr 86)), some (.inl x1), some (.inr (.inl x2)), none, some (.inl (w32 (x4 + 1)))], [], (am_sh, am_mm U2))) 2 (fun _ => rfl) ?_
      exact ha2a1
    · have ha2a2 := ha2a.2 hc
      subst ha2a2
      exact ev_end 2 (fun _ => rfl)
set_option maxRecDepth 8000 in
theorem st306_86_0 (N : Nat) (X : Nat → Int) (d : Nat) (x1 : Int) (U : Nat → Nat → Int) (R : Option am_V × am_M) (h : ((((am_lcmp x1 126943972648308) = 0 : Prop)) → Ev (am_kz N X) (d, 306, 40, [some (.inr (.inr 86)), some (.inr (.inl x1)), none], [], (am_sh, am_mm U)) R) ∧ (¬ ((am_lcmp x1 126943972648308) = 0) → ((((am_lcmp x1 448546567013) = 0 : Prop)) → Ev (am_kz N X) (d, 306, 40, [some (.inr (.inr 86)), some (.inr (.inl x1)), none], [], (am_sh, am_mm U)) R) ∧ (¬ ((am_lcmp x1 448546567013) = 0) → ((((am_lcmp x1 28518) = 0 : Prop)) → Ev (am_kz N X) (d, 306, 40, [some (.inr (.inr 86)), some (.inr (.inl x1)), none], [], (am_sh, am_mm U)) R) ∧ (¬ ((am_lcmp x1 28518) = 0) → ((((am_lcmp x1 491495845235) = 0 : Prop)) → Ev (am_kz N X) (d, 306, 40, [some (.inr (.inr 86)), some (.inr (.inl x1)), none], [], (am_sh, am_mm U)) R) ∧ (¬ ((am_lcmp x1 491495845235) = 0) → (((¬ (am_lcmp x1 1818324581) = 0 : Prop)) → ((((am_lcmp x1 121450625394034) = 0 : Prop)) → Ev (am_kz N X) (d, 306, 82, [some (.inr (.inr 86)), some (.inr (.inl x1)), none], [], (am_sh, am_mm U)) R) ∧ (¬ ((am_lcmp x1 121450625394034) = 0) → ((((am_lcmp x1 26990) = 0 : Prop)) → Ev (am_kz N X) (d, 306, 82, [some (.inr (.inr 86)), some (.inr (.inl x1)), none], [], (am_sh, am_mm U)) R) ∧ (¬ ((am_lcmp x1 26990) = 0) → ((((am_lcmp x1 7102839) = 0 : Prop)) → Ev (am_kz N X) (d, 306, 82, [some (.inr (.inr 86)), some (.inr (.inl x1)), none], [], (am_sh, am_mm U)) R) ∧ (¬ ((am_lcmp x1 7102839) = 0) → ((((am_lcmp x1 1700881256) = 0 : Prop)) → Ev (am_kz N X) (d, 306, 82, [some (.inr (.inr 86)), some (.inr (.inl x1)), none], [], (am_sh, am_mm U)) R) ∧ (¬ ((am_lcmp x1 1700881256) = 0) → (((¬ (am_lcmp x1 108187867505765) = 0 : Prop)) → ((((am_lcmp x1 131294808271214) = 0 : Prop)) → Ev (am_kz N X) (d, 306, 124, [some (.inr (.inr 86)), some (.inr (.inl x1)), none], [], (am_sh, am_mm U)) R) ∧ (¬ ((am_lcmp x1 131294808271214) = 0) → ((((am_lcmp x1 7824740) = 0 : Prop)) → Ev (am_kz N X) (d, 306, 124, [some (.inr (.inr 86)), some (.inr (.inl x1)), none], [], (am_sh, am_mm U)) R) ∧ (¬ ((am_lcmp x1 7824740) = 0) → ((((am_lcmp x1 1870095731) = 0 : Prop)) → Ev (am_kz N X) (d, 306, 124, [some (.inr (.inr 86)), some (.inr (.inl x1)), none], [], (am_sh, am_mm U)) R) ∧ (¬ ((am_lcmp x1 1870095731) = 0) → ((((am_lcmp x1 1718186597) = 0 : Prop)) → Ev (am_kz N X) (d, 306, 124, [some (.inr (.inr 86)), some (.inr (.inl x1)), none], [], (am_sh, am_mm U)) R) ∧ (¬ ((am_lcmp x1 1718186597) = 0) → (((¬ (am_lcmp x1 28005) = 0 : Prop)) → ((((am_lcmp x1 478694368626) = 0 : Prop)) → Ev (am_kz N X) (d, 306, 166, [some (.inr (.inr 86)), some (.inr (.inl x1)), none], [], (am_sh, am_mm U)) R) ∧ (¬ ((am_lcmp x1 478694368626) = 0) → ((((am_lcmp x1 1835101817) = 0 : Prop)) → Ev (am_kz N X) (d, 306, 166, [some (.inr (.inr 86)), some (.inr (.inl x1)), none], [], (am_sh, am_mm U)) R) ∧ (¬ ((am_lcmp x1 1835101817) = 0) → ((((am_lcmp x1 126931137819237) = 0 : Prop)) → Ev (am_kz N X) (d, 306, 166, [some (.inr (.inr 86)), some (.inr (.inl x1)), none], [], (am_sh, am_mm U)) R) ∧ (¬ ((am_lcmp x1 126931137819237) = 0) → ((((am_lcmp x1 482955849061) = 0 : Prop)) → Ev (am_kz N X) (d, 306, 166, [some (.inr (.inr 86)), some (.inr (.inl x1)), none], [], (am_sh, am_mm U)) R) ∧ (¬ ((am_lcmp x1 482955849061) = 0) → (((¬ (am_lcmp x1 28530) = 0 : Prop)) → ((((am_lcmp x1 6385252) = 0 : Prop)) → Ev (am_kz N X) (d, 306, 208, [some (.inr (.inr 86)), some (.inr (.inl x1)), none], [], (am_sh, am_mm U)) R) ∧ (¬ ((am_lcmp x1 6385252) = 0) → ((((am_lcmp x1 7237492) = 0 : Prop)) → Ev (am_kz N X) (d, 306, 208, [some (.inr (.inr 86)), some (.inr (.inl x1)), none], [], (am_sh, am_mm U)) R) ∧ (¬ ((am_lcmp x1 7237492) = 0) → ((((am_lcmp x1 6384748) = 0 : Prop)) → Ev (am_kz N X) (d, 306, 208, [some (.inr (.inr 86)), some (.inr (.inl x1)), none], [], (am_sh, am_mm U)) R) ∧ (¬ ((am_lcmp x1 6384748) = 0) → ((((am_lcmp x1 7170414) = 0 : Prop)) → Ev (am_kz N X) (d, 306, 208, [some (.inr (.inr 86)), some (.inr (.inl x1)), none], [], (am_sh, am_mm U)) R) ∧ (¬ ((am_lcmp x1 7170414) = 0) → (((¬ (am_lcmp x1 7168376) = 0 : Prop)) → (((¬ (am_lcmp x1 6775652) = 0 : Prop)) → R = (some (.inl 0), (am_sh, am_mm U))) ∧ (¬ (¬ (am_lcmp x1 6775652) = 0) → R = (some (.inl 1), (am_sh, am_mm U)))) ∧ (¬ (¬ (am_lcmp x1 7168376) = 0) → Ev (am_kz N X) (d, 306, 208, [some (.inr (.inr 86)), some (.inr (.inl x1)), none], [], (am_sh, am_mm U)) R)))))) ∧ (¬ (¬ (am_lcmp x1 28530) = 0) → Ev (am_kz N X) (d, 306, 166, [some (.inr (.inr 86)), some (.inr (.inl x1)), none], [], (am_sh, am_mm U)) R)))))) ∧ (¬ (¬ (am_lcmp x1 28005) = 0) → Ev (am_kz N X) (d, 306, 124, [some (.inr (.inr 86)), some (.inr (.inl x1)), none], [], (am_sh, am_mm U)) R)))))) ∧ (¬ (¬ (am_lcmp x1 108187867505765) = 0) → Ev (am_kz N X) (d, 306, 82, [some (.inr (.inr 86)), some (.inr (.inl x1)), none], [], (am_sh, am_mm U)) R)))))) ∧ (¬ (¬ (am_lcmp x1 1818324581) = 0) → Ev (am_kz N X) (d, 306, 40, [some (.inr (.inr 86)), some (.inr (.inl x1)), none], [], (am_sh, am_mm U)) R)))))) : Ev (am_kz N X) (d, 306, 0, [some (.inr (.inr 86)), some (.inr (.inl x1)), none], [], (am_sh, am_mm U)) R := by
  refine ev_br (P := (am_lcmp x1 126943972648308) = 0) (σ1 := (d, 306, 40, [some (.inr (.inr 86)), some (.inr (.inl x1)), none], [], (am_sh, am_mm U))) (σ2 := (d, 306, 8, [some (.inr (.inr 86)), some (.inr (.inl x1)), none], [], (am_sh, am_mm U))) 4 (fun _ => rfl) (fun hc => ?_) (fun hc => ?_)
  · have h1 := h.1 hc
    exact h1
  · have h2 := h.2 hc
    refine ev_br (P := (am_lcmp x1 448546567013) = 0) (σ1 := (d, 306, 40, [some (.inr (.inr 86)), some (.inr (.inl x1)), none], [], (am_sh, am_mm U))) (σ2 := (d, 306, 16, [some (.inr (.inr 86)), some (.inr (.inl x1)), none], [], (am_sh, am_mm U))) 4 (fun _ => rfl) (fun hc => ?_) (fun hc => ?_)
    · have h21 := h2.1 hc
      exact h21
    · have h22 := h2.2 hc
      refine ev_br (P := (am_lcmp x1 28518) = 0) (σ1 := (d, 306, 40, [some (.inr (.inr 86)), some (.inr (.inl x1)), none], [], (am_sh, am_mm U))) (σ2 := (d, 306, 24, [some (.inr (.inr 86)), some (.inr (.inl x1)), none], [], (am_sh, am_mm U))) 4 (fun _ => rfl) (fun hc => ?_) (fun hc => ?_)
      · have h221 := h22.1 hc
        exact h221
      · have h222 := h22.2 hc
        refine ev_br (P := (am_lcmp x1 491495845235) = 0) (σ1 := (d, 306, 40, [some (.inr (.inr 86)), some (.inr (.inl x1)), none], [], (am_sh, am_mm U))) (σ2 := (d, 306, 32, [some (.inr (.inr 86)), some (.inr (.inl x1)), none], [], (am_sh, am_mm U))) 4 (fun _ => rfl) (fun hc => ?_) (fun hc => ?_)
        · have h2221 := h222.1 hc
          exact h2221
        · have h2222 := h222.2 hc
          refine ev_br (P := ¬ (am_lcmp x1 1818324581) = 0) (σ1 := (d, 306, 42, [some (.inr (.inr 86)), some (.inr (.inl x1)), none], [], (am_sh, am_mm U))) (σ2 := (d, 306, 40, [some (.inr (.inr 86)), some (.inr (.inl x1)), none], [], (am_sh, am_mm U))) 4 (fun _ => rfl) (fun hc => ?_) (fun hc => ?_)
          · have h22221 := h2222.1 hc
            refine ev_br (P := (am_lcmp x1 121450625394034) = 0) (σ1 := (d, 306, 82, [some (.inr (.inr 86)), some (.inr (.inl x1)), none], [], (am_sh, am_mm U))) (σ2 := (d, 306, 50, [some (.inr (.inr 86)), some (.inr (.inl x1)), none], [], (am_sh, am_mm U))) 4 (fun _ => rfl) (fun hc => ?_) (fun hc => ?_)
            · have h222211 := h22221.1 hc
              exact h222211
            · have h222212 := h22221.2 hc
              refine ev_br (P := (am_lcmp x1 26990) = 0) (σ1 := (d, 306, 82, [some (.inr (.inr 86)), some (.inr (.inl x1)), none], [], (am_sh, am_mm U))) (σ2 := (d, 306, 58, [some (.inr (.inr 86)), some (.inr (.inl x1)), none], [], (am_sh, am_mm U))) 4 (fun _ => rfl) (fun hc => ?_) (fun hc => ?_)
              · have h2222121 := h222212.1 hc
                exact h2222121
              · have h2222122 := h222212.2 hc
                refine ev_br (P := (am_lcmp x1 7102839) = 0) (σ1 := (d, 306, 82, [some (.inr (.inr 86)), some (.inr (.inl x1)), none], [], (am_sh, am_mm U))) (σ2 := (d, 306, 66, [some (.inr (.inr 86)), some (.inr (.inl x1)), none], [], (am_sh, am_mm U))) 4 (fun _ => rfl) (fun hc => ?_) (fun hc => ?_)
                · have h22221221 := h2222122.1 hc
                  exact h22221221
                · have h22221222 := h2222122.2 hc
                  refine ev_br (P := (am_lcmp x1 1700881256) = 0) (σ1 := (d, 306, 82, [some (.inr (.inr 86)), some (.inr (.inl x1)), none], [], (am_sh, am_mm U))) (σ2 := (d, 306, 74, [some (.inr (.inr 86)), some (.inr (.inl x1)), none], [], (am_sh, am_mm U))) 4 (fun _ => rfl) (fun hc => ?_) (fun hc => ?_)
                  · have h222212221 := h22221222.1 hc
                    exact h222212221
                  · have h222212222 := h22221222.2 hc
                    refine ev_br (P := ¬ (am_lcmp x1 108187867505765) = 0) (σ1 := (d, 306, 84, [some (.inr (.inr 86)), some (.inr (.inl x1)), none], [], (am_sh, am_mm U))) (σ2 := (d, 306, 82, [some (.inr (.inr 86)), some (.inr (.inl x1)), none], [], (am_sh, am_mm U))) 4 (fun _ => rfl) (fun hc => ?_) (fun hc => ?_)
                    · have h2222122221 := h222212222.1 hc
                      refine ev_br (P := (am_lcmp x1 131294808271214) = 0) (σ1 := (d, 306, 124, [some (.inr (.inr 86)), some (.inr (.inl x1)), none], [], (am_sh, am_mm U))) (σ2 := (d, 306, 92, [some (.inr (.inr 86)), some (.inr (.inl x1)), none], [], (am_sh, am_mm U))) 4 (fun _ => rfl) (fun hc => ?_) (fun hc => ?_)
                      · have h22221222211 := h2222122221.1 hc
                        exact h22221222211
                      · have h22221222212 := h2222122221.2 hc
                        refine ev_br (P := (am_lcmp x1 7824740) = 0) (σ1 := (d, 306, 124, [some (.inr (.inr 86)), some (.inr (.inl x1)), none], [], (am_sh, am_mm U))) (σ2 := (d, 306, 100, [some (.inr (.inr 86)), some (.inr (.inl x1)), none], [], (am_sh, am_mm U))) 4 (fun _ => rfl) (fun hc => ?_) (fun hc => ?_)
                        · have h222212222121 := h22221222212.1 hc
                          exact h222212222121
                        · have h222212222122 := h22221222212.2 hc
                          refine ev_br (P := (am_lcmp x1 1870095731) = 0) (σ1 := (d, 306, 124, [some (.inr (.inr 86)), some (.inr (.inl x1)), none], [], (am_sh, am_mm U))) (σ2 := (d, 306, 108, [some (.inr (.inr 86)), some (.inr (.inl x1)), none], [], (am_sh, am_mm U))) 4 (fun _ => rfl) (fun hc => ?_) (fun hc => ?_)
                          · have h2222122221221 := h222212222122.1 hc
                            exact h2222122221221
                          · have h2222122221222 := h222212222122.2 hc
                            refine ev_br (P := (am_lcmp x1 1718186597) = 0) (σ1 := (d, 306, 124, [some (.inr (.inr 86)), some (.inr (.inl x1)), none], [], (am_sh, am_mm U))) (σ2 := (d, 306, 116, [some (.inr (.inr 86)), some (.inr (.inl x1)), none], [], (am_sh, am_mm U))) 4 (fun _ => rfl) (fun hc => ?_) (fun hc => ?_)
                            · have h22221222212221 := h2222122221222.1 hc
                              exact h22221222212221
                            · have h22221222212222 := h2222122221222.2 hc
                              refine ev_br (P := ¬ (am_lcmp x1 28005) = 0) (σ1 := (d, 306, 126, [some (.inr (.inr 86)), some (.inr (.inl x1)), none], [], (am_sh, am_mm U))) (σ2 := (d, 306, 124, [some (.inr (.inr 86)), some (.inr (.inl x1)), none], [], (am_sh, am_mm U))) 4 (fun _ => rfl) (fun hc => ?_) (fun hc => ?_)
                              · have h222212222122221 := h22221222212222.1 hc
                                refine ev_br (P := (am_lcmp x1 478694368626) = 0) (σ1 := (d, 306, 166, [some (.inr (.inr 86)), some (.inr (.inl x1)), none], [], (am_sh, am_mm U))) (σ2 := (d, 306, 134, [some (.inr (.inr 86)), some (.inr (.inl x1)), none], [], (am_sh, am_mm U))) 4 (fun _ => rfl) (fun hc => ?_) (fun hc => ?_)
                                · have h2222122221222211 := h222212222122221.1 hc
                                  exact h2222122221222211
                                · have h2222122221222212 := h222212222122221.2 hc
                                  refine ev_br (P := (am_lcmp x1 1835101817) = 0) (σ1 := (d, 306, 166, [some (.inr (.inr 86)), some (.inr (.inl x1)), none], [], (am_sh, am_mm U))) (σ2 := (d, 306, 142, [some (.inr (.inr 86)), some (.inr (.inl x1)), none], [], (am_sh, am_mm U))) 4 (fun _ => rfl) (fun hc => ?_) (fun hc => ?_)
                                  · have h22221222212222121 := h2222122221222212.1 hc
                                    exact h22221222212222121
                                  · have h22221222212222122 := h2222122221222212.2 hc
                                    refine ev_br (P := (am_lcmp x1 126931137819237) = 0) (σ1 := (d, 306, 166, [some (.inr (.inr 86)), some (.inr (.inl x1)), none], [], (am_sh, am_mm U))) (σ2 := (d, 306, 150, [some (.inr (.inr 86)), some (.inr (.inl x1)), none], [], (am_sh, am_mm U))) 4 (fun _ => rfl) (fun hc => ?_) (fun hc => ?_)
                                    · have h222212222122221221 := h22221222212222122.1 hc
                                      exact h222212222122221221
                                    · have h222212222122221222 := h22221222212222122.2 hc
                                      refine ev_br (P := (am_lcmp x1 482955849061) = 0) (σ1 := (d, 306, 166, [some (.inr (.inr 86)), some (.inr (.inl x1)), none], [], (am_sh, am_mm U))) (σ2 := (d, 306, 158, [some (.inr (.inr 86)), some (.inr (.inl x1)), none], [], (am_sh, am_mm U))) 4 (fun _ => rfl) (fun hc => ?_) (fun hc => ?_)
                                      · have h2222122221222212221 := h222212222122221222.1 hc
                                        exact h2222122221222212221
                                      · have h2222122221222212222 := h222212222122221222.2 hc
                                        refine ev_br (P := ¬ (am_lcmp x1 28530) = 0) (σ1 := (d, 306, 168, [some (.inr (.inr 86)), some (.inr (.inl x1)), none], [], (am_sh, am_mm U))) (σ2 := (d, 306, 166, [some (.inr (.inr 86)), some (.inr (.inl x1)), none], [], (am_sh, am_mm U))) 4 (fun _ => rfl) (fun hc => ?_) (fun hc => ?_)
                                        · have h22221222212222122221 := h2222122221222212222.1 hc
                                          refine ev_br (P := (am_lcmp x1 6385252) = 0) (σ1 := (d, 306, 208, [some (.inr (.inr 86)), some (.inr (.inl x1)), none], [], (am_sh, am_mm U))) (σ2 := (d, 306, 176, [some (.inr (.inr 86)), some (.inr (.inl x1)), none], [], (am_sh, am_mm U))) 4 (fun _ => rfl) (fun hc => ?_) (fun hc => ?_)
                                          · have h222212222122221222211 := h22221222212222122221.1 hc
                                            exact h222212222122221222211
                                          · have h222212222122221222212 := h22221222212222122221.2 hc
                                            refine ev_br (P := (am_lcmp x1 7237492) = 0) (σ1 := (d, 306, 208, [some (.inr (.inr 86)), some (.inr (.inl x1)), none], [], (am_sh, am_mm U))) (σ2 := (d, 306, 184, [some (.inr (.inr 86)), some (.inr (.inl x1)), none], [], (am_sh, am_mm U))) 4 (fun _ => rfl) (fun hc => ?_) (fun hc => ?_)
                                            · have h2222122221222212222121 := h222212222122221222212.1 hc
                                              exact h2222122221222212222121
                                            · have h2222122221222212222122 := h222212222122221222212.2 hc
                                              refine ev_br (P := (am_lcmp x1 6384748) = 0) (σ1 := (d, 306, 208, [some (.inr (.inr 86)), some (.inr (.inl x1)), none], [], (am_sh, am_mm U))) (σ2 := (d, 306, 192, [some (.inr (.inr 86)), some (.inr (.inl x1)), none], [], (am_sh, am_mm U))) 4 (fun _ => rfl) (fun hc => ?_) (fun hc => ?_)
                                              · have h22221222212222122221221 := h2222122221222212222122.1 hc
                                                exact h22221222212222122221221
                                              · have h22221222212222122221222 := h2222122221222212222122.2 hc
                                                refine ev_br (P := (am_lcmp x1 7170414) = 0) (σ1 := (d, 306, 208, [some (.inr (.inr 86)), some (.inr (.inl x1)), none], [], (am_sh, am_mm U))) (σ2 := (d, 306, 200, [some (.inr (.inr 86)), some (.inr (.inl x1)), none], [], (am_sh, am_mm U))) 4 (fun _ => rfl) (fun hc => ?_) (fun hc => ?_)
                                                · have h222212222122221222212221 := h22221222212222122221222.1 hc
                                                  exact h222212222122221222212221
                                                · have h222212222122221222212222 := h22221222212222122221222.2 hc
                                                  refine ev_br (P := ¬ (am_lcmp x1 7168376) = 0) (σ1 := (d, 306, 210, [some (.inr (.inr 86)), some (.inr (.inl x1)), none], [], (am_sh, am_mm U))) (σ2 := (d, 306, 208, [some (.inr (.inr 86)), some (.inr (.inl x1)), none], [], (am_sh, am_mm U))) 4 (fun _ => rfl) (fun hc => ?_) (fun hc => ?_)
                                                  · have h2222122221222212222122221 := h222212222122221222212222.1 hc
                                                    refine ev_br (P := ¬ (am_lcmp x1 6775652) = 0) (σ1 := (d, 306, 220, [some (.inr (.inr 86)), some (.inr (.inl x1)), none], [], (am_sh, am_mm U))) (σ2 := (d, 306, 218, [some (.inr (.inr 86)), some (.inr (.inl x1)), none], [], (am_sh, am_mm U))) 4 (fun _ => rfl) (fun hc => ?_) (fun hc => ?_)
                                                    · have h22221222212222122221222211 := h2222122221222212222122221.1 hc
                                                      subst h22221222212222122221222211
                                                      exact ev_end 2 (fun _ => rfl)
                                                    · have h22221222212222122221222212 := h2222122221222212222122221.2 hc
                                                      subst h22221222212222122221222212
                                                      exact ev_end 2 (fun _ => rfl)
                                                  · have h2222122221222212222122222 := h222212222122221222212222.2 hc
                                                    exact h2222122221222212222122222
                                        · have h22221222212222122222 := h2222122221222212222.2 hc
                                          exact h22221222212222122222
                              · have h222212222122222 := h22221222212222.2 hc
                                exact h222212222122222
                    · have h2222122222 := h222212222.2 hc
                      exact h2222122222
          · have h22222 := h2222.2 hc
            exact h22222
set_option maxRecDepth 8000 in
theorem st306_86_40 (N : Nat) (X : Nat → Int) (d : Nat) (x1 : Int) (U : Nat → Nat → Int) (R : Option am_V × am_M) (h : R = (some (.inl 1), (am_sh, am_mm U))) : Ev (am_kz N X) (d, 306, 40, [some (.inr (.inr 86)), some (.inr (.inl x1)), none], [], (am_sh, am_mm U)) R := by
  subst h
  exact ev_end 2 (fun _ => rfl)
set_option maxRecDepth 8000 in
theorem st306_86_82 (N : Nat) (X : Nat → Int) (d : Nat) (x1 : Int) (U : Nat → Nat → Int) (R : Option am_V × am_M) (h : R = (some (.inl 1), (am_sh, am_mm U))) : Ev (am_kz N X) (d, 306, 82, [some (.inr (.inr 86)), some (.inr (.inl x1)), none], [], (am_sh, am_mm U)) R := by
  subst h
  exact ev_end 2 (fun _ => rfl)
set_option maxRecDepth 8000 in
theorem st306_86_124 (N : Nat) (X : Nat → Int) (d : Nat) (x1 : Int) (U : Nat → Nat → Int) (R : Option am_V × am_M) (h : R = (some (.inl 1), (am_sh, am_mm U))) : Ev (am_kz N X) (d, 306, 124, [some (.inr (.inr 86)), some (.inr (.inl x1)), none], [], (am_sh, am_mm U)) R := by
  subst h
  exact ev_end 2 (fun _ => rfl)
set_option maxRecDepth 8000 in
theorem st306_86_166 (N : Nat) (X : Nat → Int) (d : Nat) (x1 : Int) (U : Nat → Nat → Int) (R : Option am_V × am_M) (h : R = (some (.inl 1), (am_sh, am_mm U))) : Ev (am_kz N X) (d, 306, 166, [some (.inr (.inr 86)), some (.inr (.inl x1)), none], [], (am_sh, am_mm U)) R := by
  subst h
  exact ev_end 2 (fun _ => rfl)
set_option maxRecDepth 8000 in
theorem st306_86_208 (N : Nat) (X : Nat → Int) (d : Nat) (x1 : Int) (U : Nat → Nat → Int) (R : Option am_V × am_M) (h : R = (some (.inl 1), (am_sh, am_mm U))) : Ev (am_kz N X) (d, 306, 208, [some (.inr (.inr 86)), some (.inr (.inl x1)), none], [], (am_sh, am_mm U)) R := by
  subst h
  exact ev_end 2 (fun _ => rfl)
set_option maxRecDepth 8000 in
theorem st311_86_0 (N : Nat) (X : Nat → Int) (d : Nat) (x1 x2 x3 : Int) (U : Nat → Nat → Int) (R : Option am_V × am_M) (h : ∃ (r1 : Int) (U1 : Nat → Nat → Int), Ev (am_kz N X) (d, 200, 0, [some (.inr (.inr 86)), some (.inl 1), some (.inl x2)], [], (am_sh, am_mm U)) (some (.inl r1), (am_sh, am_mm U1)) ∧ ∃ (r2 : Int) (U2 : Nat → Nat → Int), Ev (am_kz N X) (d, 111, 0, [some (.inr (.inr 86)), some (.inl 1), some (.inl r1), none, none], [], (am_sh, am_mm U1)) (some (.inl r2), (am_sh, am_mm U2)) ∧ (0 ≤ (w32 ((w32 ((w32 ((w32 ((w32 ((w32 ((w32 ((w32 ((w32 (16 * x1)) + x2)) * 17)) + x3)) + 1)) * 12)) + r1)) * 7)) + r2)) ∧ (w32 ((w32 ((w32 ((w32 ((w32 ((w32 ((w32 ((w32 ((w32 (16 * x1)) + x2)) * 17)) + x3)) + 1)) * 12)) + r1)) * 7)) + r2)) < 182784) ∧ (((¬ (U2 128 (w32 ((w32 ((w32 ((w32 ((w32 ((w32 ((w32 ((w32 ((w32 (16 * x1)) + x2)) * 17)) + x3)) + 1)) * 12)) + r1)) * 7)) + r2)).toNat) = 0 : Prop)) → (0 ≤ (w32 ((w32 ((w32 ((w32 ((w32 ((w32 ((w32 ((w32 ((w32 (16 * x1)) + x2)) * 17)) + x3)) + 1)) * 12)) + r1)) * 7)) + r2)) ∧ (w32 ((w32 ((w32 ((w32 ((w32 ((w32 ((w32 ((w32 ((w32 (16 * x1)) + x2)) * 17)) + x3)) + 1)) * 12)) + r1)) * 7)) + r2)) < 182784) ∧ (((¬ (U2 128 (w32 ((w32 ((w32 ((w32 ((w32 ((w32 ((w32 ((w32 ((w32 (16 * x1)) + x2)) * 17)) + x3)) + 1)) * 12)) + r1)) * 7)) + r2)).toNat) = 2 : Prop)) → R = (some (.inl 0), (am_sh, am_mm U2))) ∧ (¬ (¬ (U2 128 (w32 ((w32 ((w32 ((w32 ((w32 ((w32 ((w32 ((w32 ((w32 (16 * x1)) + x2)) * 17)) + x3)) + 1)) * 12)) + r1)) * 7)) + r2)).toNat) = 2) → R = (some (.inl 1), (am_sh, am_mm U2)))) ∧ (¬ (¬ (U2 128 (w32 ((w32 ((w32 ((w32 ((w32 ((w32 ((w32 ((w32 ((w32 (16 * x1)) + x2)) * 17)) + x3)) + 1)) * 12)) + r1)) * 7)) + r2)).toNat) = 0) → (((¬ x3 = (-1) : Prop)) → ∃ (r3 : Int) (U3 : Nat → Nat → Int), Ev (am_kz N X) (d, 203, 0, [some (.inr (.inr 86)), some (.inl 1), some (.inl x3)], [], (am_sh, am_mm U2)) (some (.inl r3), (am_sh, am_mm U3)) ∧ ∃ (r4 : Int) (U4 : Nat → Nat → Int), Ev (am_kz N X) (d, 136, 0, [some (.inr (.inr 86)), some (.inl 1), some (.inl x1), some (.inl x2), some (.inr (.inl r3)), none], [], (am_sh, am_mm U3)) (some (.inl r4), (am_sh, am_mm U4)) ∧ (((r4 = 0 : Prop)) → (-128 ≤ ((Int32.ofInt 1).toInt8.toInt32.toInt) ∧ ((Int32.ofInt 1).toInt8.toInt32.toInt) < 128) ∧ (0 ≤ (w32 ((w32 ((w32 ((w32 ((w32 ((w32 ((w32 ((w32 ((w32 (16 * x1)) + x2)) * 17)) + x3)) + 1)) * 12)) + r1)) * 7)) + r2)) ∧ (w32 ((w32 ((w32 ((w32 ((w32 ((w32 ((w32 ((w32 ((w32 (16 * x1)) + x2)) * 17)) + x3)) + 1)) * 12)) + r1)) * 7)) + r2)) < 182784) ∧ (0 ≤ (w32 ((w32 ((w32 ((w32 ((w32 ((w32 ((w32 ((w32 ((w32 (16 * x1)) + x2)) * 17)) + x3)) + 1)) * 12)) + r1)) * 7)) + r2)) ∧ (w32 ((w32 ((w32 ((w32 ((w32 ((w32 ((w32 ((w32 ((w32 (16 * x1)) + x2)) * 17)) + x3)) + 1)) * 12)) + r1)) * 7)) + r2)) < 182784) ∧ (((¬ ((am_upd U4 128 (w32 ((w32 ((w32 ((w32 ((w32 ((w32 ((w32 ((w32 ((w32 (16 * x1)) + x2)) * 17)) + x3)) + 1)) * 12)) + r1)) * 7)) + r2)).toNat ((Int32.ofInt 1).toInt8.toInt32.toInt)) 128 (w32 ((w32 ((w32 ((w32 ((w32 ((w32 ((w32 ((w32 ((w32 (16 * x1)) + x2)) * 17)) + x3)) + 1)) * 12)) + r1)) * 7)) + r2)).toNat) = 2 : Prop)) → R = (some (.inl 0), (am_sh, am_mm (am_upd U4 128 (w32 ((w32 ((w32 ((w32 ((w32 ((w32 ((w32 ((w32 ((w32 (16 * x1)) + x2)) * 17)) + x3)) + 1)) * 12)) + r1)) * 7)) + r2)).toNat ((Int32.ofInt 1).toInt8.toInt32.toInt))))) ∧ (¬ (¬ ((am_upd U4 128 (w32 ((w32 ((w32 ((w32 ((w32 ((w32 ((w32 ((w32 ((w32 (16 * x1)) + x2)) * 17)) + x3)) + 1)) * 12)) + r1)) * 7)) + r2)).toNat ((Int32.ofInt 1).toInt8.toInt32.toInt)) 128 (w32 ((w32 ((w32 ((w32 ((w32 ((w32 ((w32 ((w32 ((w32 (16 * x1)) + x2)) * 17)) + x3)) + 1)) * 12)) + r1)) * 7)) + r2)).toNat) = 2) → R = (some (.inl 1), (am_sh, am_mm (am_upd U4 128 (w32 ((w32 ((w32 ((w32 ((w32 ((w32 ((w32 ((w32 ((w32 (16 * x1)) + x2)) * 17)) + x3)) + 1)) * 12)) + r1)) * 7)) + r2)).toNat ((Int32.ofInt 1).toInt8.toInt32.toInt)))))) ∧ (¬ (r4 = 0) → (-128 ≤ ((Int32.ofInt 2).toInt8.toInt32.toInt) ∧ ((Int32.ofInt 2).toInt8.toInt32.toInt) < 128) ∧ (0 ≤ (w32 ((w32 ((w32 ((w32 ((w32 ((w32 ((w32 ((w32 ((w32 (16 * x1)) + x2)) * 17)) + x3)) + 1)) * 12)) + r1)) * 7)) + r2)) ∧ (w32 ((w32 ((w32 ((w32 ((w32 ((w32 ((w32 ((w32 ((w32 (16 * x1)) + x2)) * 17)) + x3)) + 1)) * 12)) + r1)) * 7)) + r2)) < 182784) ∧ (0 ≤ (w32 ((w32 ((w32 ((w32 ((w32 ((w32 ((w32 ((w32 ((w32 (16 * x1)) + x2)) * 17)) + x3)) + 1)) * 12)) + r1)) * 7)) + r2)) ∧ (w32 ((w32 ((w32 ((w32 ((w32 ((w32 ((w32 ((w32 ((w32 (16 * x1)) + x2)) * 17)) + x3)) + 1)) * 12)) + r1)) * 7)) + r2)) < 182784) ∧ (((¬ ((am_upd U4 128 (w32 ((w32 ((w32 ((w32 ((w32 ((w32 ((w32 ((w32 ((w32 (16 * x1)) + x2)) * 17)) + x3)) + 1)) * 12)) + r1)) * 7)) + r2)).toNat ((Int32.ofInt 2).toInt8.toInt32.toInt)) 128 (w32 ((w32 ((w32 ((w32 ((w32 ((w32 ((w32 ((w32 ((w32 (16 * x1)) + x2)) * 17)) + x3)) + 1)) * 12)) + r1)) * 7)) + r2)).toNat) = 2 : Prop)) → R = (some (.inl 0), (am_sh, am_mm (am_upd U4 128 (w32 ((w32 ((w32 ((w32 ((w32 ((w32 ((w32 ((w32 ((w32 (16 * x1)) + x2)) * 17)) + x3)) + 1)) * 12)) + r1)) * 7)) + r2)).toNat ((Int32.ofInt 2).toInt8.toInt32.toInt))))) ∧ (¬ (¬ ((am_upd U4 128 (w32 ((w32 ((w32 ((w32 ((w32 ((w32 ((w32 ((w32 ((w32 (16 * x1)) + x2)) * 17)) + x3)) + 1)) * 12)) + r1)) * 7)) + r2)).toNat ((Int32.ofInt 2).toInt8.toInt32.toInt)) 128 (w32 ((w32 ((w32 ((w32 ((w32 ((w32 ((w32 ((w32 ((w32 (16 * x1)) + x2)) * 17)) + x3)) + 1)) * 12)) + r1)) * 7)) + r2)).toNat) = 2) → R = (some (.inl 1), (am_sh, am_mm (am_upd U4 128 (w32 ((w32 ((w32 ((w32 ((w32 ((w32 ((w32 ((w32 ((w32 (16 * x1)) + x2)) * 17)) + x3)) + 1)) * 12)) + r1)) * 7)) + r2)).toNat ((Int32.ofInt 2).toInt8.toInt32.toInt))))))) ∧ (¬ (¬ x3 = (-1)) → ∃ (r5 : Int) (U5 : Nat → Nat → Int), Ev (am_kz N X) (d, 136, 0, [some (.inr (.inr 86)), some (.inl 1), some (.inl x1), some (.inl x2), some (.inr (.inl 0)), none], [], (am_sh, am_mm U2)) (some (.inl r5), (am_sh, am_mm U5)) ∧ (((r5 = 0 : Prop)) → (-128 ≤ ((Int32.ofInt 1).toInt8.toInt32.toInt) ∧ ((Int32.ofInt 1).toInt8.toInt32.toInt) < 128) ∧ (0 ≤ (w32 ((w32 ((w32 ((w32 ((w32 ((w32 ((w32 ((w32 ((w32 (16 * x1)) + x2)) * 17)) + x3)) + 1)) * 12)) + r1)) * 7)) + r2)) ∧ (w32 ((w32 ((w32 ((w32 ((w32 ((w32 ((w32 ((w32 ((w32 (16 * x1)) + x2)) * 17)) + x3)) + 1)) * 12)) + r1)) * 7)) + r2)) < 182784) ∧ (0 ≤ (w32 ((w32 ((w32 ((w32 ((w32 ((w32 ((w32 ((w32 ((w32 (16 * x1)) + x2)) * 17)) + x3)) + 1)) * 12)) + r1)) * 7)) + r2)) ∧ (w32 ((w32 ((w32 ((w32 ((w32 ((w32 ((w32 ((w32 ((w32 (16 * x1)) + x2)) * 17)) + x3)) + 1)) * 12)) + r1)) * 7)) + r2)) < 182784) ∧ (((¬ ((am_upd U5 128 (w32 ((w32 ((w32 ((w32 ((w32 ((w32 ((w32 ((w32 ((w32 (16 * x1)) + x2)) * 17)) + x3)) + 1)) * 12)) + r1)) * 7)) + r2)).toNat ((Int32.ofInt 1).toInt8.toInt32.toInt)) 128 (w32 ((w32 ((w32 ((w32 ((w32 ((w32 ((w32 ((w32 ((w32 (16 * x1)) + x2)) * 17)) + x3)) + 1)) * 12)) + r1)) * 7)) + r2)).toNat) = 2 : Prop)) → R = (some (.inl 0), (am_sh, am_mm (am_upd U5 128 (w32 ((w32 ((w32 ((w32 ((w32 ((w32 ((w32 ((w32 ((w32 (16 * x1)) + x2)) * 17)) + x3)) + 1)) * 12)) + r1)) * 7)) + r2)).toNat ((Int32.ofInt 1).toInt8.toInt32.toInt))))) ∧ (¬ (¬ ((am_upd U5 128 (w32 ((w32 ((w32 ((w32 ((w32 ((w32 ((w32 ((w32 ((w32 (16 * x1)) + x2)) * 17)) + x3)) + 1)) * 12)) + r1)) * 7)) + r2)).toNat ((Int32.ofInt 1).toInt8.toInt32.toInt)) 128 (w32 ((w32 ((w32 ((w32 ((w32 ((w32 ((w32 ((w32 ((w32 (16 * x1)) + x2)) * 17)) + x3)) + 1)) * 12)) + r1)) * 7)) + r2)).toNat) = 2) → R = (some (.inl 1), (am_sh, am_mm (am_upd U5 128 (w32 ((w32 ((w32 ((w32 ((w32 ((w32 ((w32 ((w32 ((w32 (16 * x1)) + x2)) * 17)) + x3)) + 1)) * 12)) + r1)) * 7)) + r2)).toNat ((Int32.ofInt 1).toInt8.toInt32.toInt)))))) ∧ (¬ (r5 = 0) → (-128 ≤ ((Int32.ofInt 2).toInt8.toInt32.toInt) ∧ ((Int32.ofInt 2).toInt8.toInt32.toInt) < 128) ∧ (0 ≤ (w32 ((w32 ((w32 ((w32 ((w32 ((w32 ((w32 ((w32 ((w32 (16 * x1)) + x2)) * 17)) + x3)) + 1)) * 12)) + r1)) * 7)) + r2)) ∧ (w32 ((w32 ((w32 ((w32 ((w32 ((w32 ((w32 ((w32 ((w32 (16 * x1)) + x2)) * 17)) + x3)) + 1)) * 12)) + r1)) * 7)) + r2)) < 182784) ∧ (0 ≤ (w32 ((w32 ((w32 ((w32 ((w32 ((w32 ((w32 ((w32 ((w32 (16 * x1)) + x2)) * 17)) + x3)) + 1)) * 12)) + r1)) * 7)) + r2)) ∧ (w32 ((w32 ((w32 ((w32 ((w32 ((w32 ((w32 ((w32 ((w32 (16 * x1)) + x2)) * 17)) + x3)) + 1)) * 12)) + r1)) * 7)) + r2)) < 182784) ∧ (((¬ ((am_upd U5 128 (w32 ((w32 ((w32 ((w32 ((w32 ((w32 ((w32 ((w32 ((w32 (16 * x1)) + x2)) * 17)) + x3)) + 1)) * 12)) + r1)) * 7)) + r2)).toNat ((Int32.ofInt 2).toInt8.toInt32.toInt)) 128 (w32 ((w32 ((w32 ((w32 ((w32 ((w32 ((w32 ((w32 ((w32 (16 * x1)) + x2)) * 17)) + x3)) + 1)) * 12)) + r1)) * 7)) + r2)).toNat) = 2 : Prop)) → R = (some (.inl 0), (am_sh, am_mm (am_upd U5 128 (w32 ((w32 ((w32 ((w32 ((w32 ((w32 ((w32 ((w32 ((w32 (16 * x1)) + x2)) * 17)) + x3)) + 1)) * 12)) + r1)) * 7)) + r2)).toNat ((Int32.ofInt 2).toInt8.toInt32.toInt))))) ∧ (¬ (¬ ((am_upd U5 128 (w32 ((w32 ((w32 ((w32 ((w32 ((w32 ((w32 ((w32 ((w32 (16 * x1)) + x2)) * 17)) + x3)) + 1)) * 12)) + r1)) * 7)) + r2)).toNat ((Int32.ofInt 2).toInt8.toInt32.toInt)) 128 (w32 ((w32 ((w32 ((w32 ((w32 ((w32 ((w32 ((w32 ((w32 (16 * x1)) + x2)) * 17)) + x3)) + 1)) * 12)) + r1)) * 7)) + r2)).toNat) = 2) → R = (some (.inl 1), (am_sh, am_mm (am_upd U5 128 (w32 ((w32 ((w32 ((w32 ((w32 ((w32 ((w32 ((w32 ((w32 (16 * x1)) + x2)) * 17)) + x3)) + 1)) * 12)) + r1)) * 7)) + r2)).toNat ((Int32.ofInt 2).toInt8.toInt32.toInt))))))))) : Ev (am_kz N X) ((d + 1), 311, 0, [some (.inr (.inr 86)), some (.inl x1), some (.inl x2), some (.inl x3), none, none], [], (am_sh, am_mm U)) R := by
  refine ev_seg (σ1 := ((d + 1), 311, 3, [some (.inr (.inr 86)), some (.inl x1), some (.inl x2), some (.inl x3), none, none], [.inl x2, .inl 1, .inr (.inr 86)], (am_sh, am_mm U))) 3 (fun _ => rfl) ?_
  obtain ⟨r1, U1, hc, ha⟩ := h
  refine ev_cal (σc := (d, 200, 0, [some (.inr (.inr 86)), some (.inl 1), some (.inl x2)], [], (am_sh, am_mm U))) (fun _ => rfl) hc ?_
  show Ev (am_kz N X) ((d + 1), 311, 6, [some (.inr (.inr 86)), some (.inl x1), some (.inl x2), some (.inl x3), none, none], [.inl r1], (am_sh, am_mm U1)) R
  refine ev_seg (σ1 := ((d + 1), 311, 34, [some (.inr (.inr 86)), some (.inl x1), some (.inl x2), some (.inl x3), some (.inl r1), none], [.inl r1, .inl 1, .inr (.inr 86), .inl (w32 ((w32 ((w32 ((w32 ((w32 ((w32 ((w32 ((w32 (16 * x1)) + x2)) * 17)) + x3)) + 1)) * 12)) + r1)) * 7))], (am_sh, am_mm U1))) 21 (fun _ => rfl) ?_
  obtain ⟨r2, U2, hac, haa⟩ := ha
  refine ev_cal (σc := (d, 111, 0, [some (.inr (.inr 86)), some (.inl 1), some (.inl r1), none, none], [], (am_sh, am_mm U1))) (fun _ => rfl) hac ?_
  show Ev (am_kz N X) ((d + 1), 311, 37, [some (.inr (.inr 86)), some (.inl x1), some (.inl x2), some (.inl x3), some (.inl r1), none], [.inl r2, .inl (w32 ((w32 ((w32 ((w32 ((w32 ((w32 ((w32 ((w32 (16 * x1)) + x2)) * 17)) + x3)) + 1)) * 12)) + r1)) * 7))], (am_sh, am_mm U2)) R
  refine ev_seg (σ1 := ((d + 1), 311, 46, [some (.inr (.inr 86)), some (.inl x1), some (.inl x2), some (.inl x3), some (.inl r1), some (.inl (w32 ((w32 ((w32 ((w32 ((w32 ((w32 ((w32 ((w32 ((w32 (16 * x1)) + x2)) * 17)) + x3)) + 1)) * 12)) + r1)) * 7)) + r2)))], [.inl (w32 ((w32 ((w32 ((w32 ((w32 ((w32 ((w32 ((w32 ((w32 (16 * x1)) + x2)) * 17)) + x3)) + 1)) * 12)) + r1)) * 7)) + r2)), .inr (.inr 128)], (am_sh, am_mm U2))) 5 (fun _ => rfl) ?_
  refine eu_bald 128 (n := 182784) rfl (by decide) rfl (fun _ => rfl) haa.1 ?_
  have haaa := haa.2
  refine ev_br (P := ¬ (U2 128 (w32 ((w32 ((w32 ((w32 ((w32 ((w32 ((w32 ((w32 ((w32 (16 * x1)) + x2)) * 17)) + x3)) + 1)) * 12)) + r1)) * 7)) + r2)).toNat) = 0) (σ1 := ((d + 1), 311, 89, [some (.inr (.inr 86)), some (.inl x1), some (.inl x2), some (.inl x3), some (.inl r1), some (.inl (w32 ((w32 ((w32 ((w32 ((w32 ((w32 ((w32 ((w32 ((w32 (16 * x1)) + x2)) * 17)) + x3)) + 1)) * 12)) + r1)) * 7)) + r2)))], [], (am_sh, am_mm U2))) (σ2 := ((d + 1), 311, 50, [some (.inr (.inr 86)), some (.inl x1), some (.inl x2), some (.inl x3), some (.inl r1), some (.inl (w32 ((w32 ((w32 ((w32 ((w32 ((w32 ((w32 ((w32 ((w32 (16 * x1)) + x2)) * 17)) + x3)) + 1)) * 12)) + r1)) * 7)) + r2)))], [], (am_sh, am_mm U2))) 1 (fun _ => rfl) (fun hc => ?_) (fun hc => ?_)
  · have haaa1 := haaa.1 hc
    refine ev_seg (σ1 := ((d + 1), 311, 95, [some (.inr (.inr 86)), some (.inl x1), some (.inl x2), some (.inl x3), some (.inl r1), some (.inl (w32 ((w32 ((w32 ((w32 ((w32 ((w32 ((w32 ((w32 ((w32 (16 * x1)) + x2)) * 17)) + x3)) + 1)) * 12)) + r1)) * 7)) + r2)))], [.inl (w32 ((w32 ((w32 ((w32 ((w32 ((w32 ((w32 ((w32 ((w32 (16 * x1)) + x2)) * 17)) + x3)) + 1)) * 12)) + r1)) * 7)) + r2)), .inr (.inr 128)], (am_sh, am_mm U2))) 3 (fun _ => rfl) ?_
    refine eu_bald 128 (n := 182784) rfl (by decide) rfl (fun _ => rfl) haaa1.1 ?_
    have haaa1a := haaa1.2
    refine ev_br (P := ¬ (U2 128 (w32 ((w32 ((w32 ((w32 ((w32 ((w32 ((w32 ((w32 ((w32 (16 * x1)) + x2)) * 17)) + x3)) + 1)) * 12)) + r1)) * 7)) + r2)).toNat) = 2) (σ1 := ((d + 1), 311, 104, [some (.inr (.inr 86)), some (.inl x1), some (.inl x2), some (.inl x3), some (.inl r1), some (.inl (w32 ((w32 ((w32 ((w32 ((w32 ((w32 ((w32 ((w32 ((w32 (16 * x1)) + x2)) * 17)) + x3)) + 1)) * 12)) + r1)) * 7)) + r2)))], [], (am_sh, am_mm U2))) (σ2 := ((d + 1), 311, 100, [some (.inr (.inr 86)), some (.inl x1), some (.inl x2), some (.inl x3), some (.inl r1), some (.inl (w32 ((w32 ((w32 ((w32 ((w32 ((w32 ((w32 ((w32 ((w32 (16 * x1)) + x2)) * 17)) + x3)) + 1)) * 12)) + r1)) * 7)) + r2)))], [], (am_sh, am_mm U2))) 2 (fun _ => rfl) (fun hc => ?_) (fun hc => ?_)
    · have haaa1a1 := haaa1a.1 hc
      subst haaa1a1
      exact ev_end 2 (fun _ => rfl)
    · have haaa1a2 := haaa1a.2 hc
      subst haaa1a2
      exact ev_end 3 (fun _ => rfl)
  · have haaa2 := haaa.2 hc
    refine ev_br (P := ¬ x3 = (-1)) (σ1 := ((d + 1), 311, 69, [some (.inr (.inr 86)), some (.inl x1), some (.inl x2), some (.inl x3), some (.inl r1), some (.inl (w32 ((w32 ((w32 ((w32 ((w32 ((w32 ((w32 ((w32 ((w32 (16 * x1)) + x2)) * 17)) + x3)) + 1)) * 12)) + r1)) * 7)) + r2)))], [.inl x2, .inl x1, .inl 1, .inr (.inr 86), .inl (w32 ((w32 ((w32 ((w32 ((w32 ((w32 ((w32 ((w32 ((w32 (16 * x1)) + x2)) * 17)) + x3)) + 1)) * 12)) + r1)) * 7)) + r2)), .inr (.inr 128)], (am_sh, am_mm U2))) (σ2 := ((d + 1), 311, 65, [some (.inr (.inr 86)), some (.inl x1), some (.inl x2), some (.inl x3), some (.inl r1), some (.inl (w32 ((w32 ((w32 ((w32 ((w32 ((w32 ((w32 ((w32 ((w32 (16 * x1)) + x2)) * 17)) + x3)) + 1)) * 12)) + r1)) * 7)) + r2)))], [.inl x2, .inl x1, .inl 1, .inr (.inr 86), .inl (w32 ((w32 ((w32 ((w32 ((w32 ((w32 ((w32 ((w32 ((w32 (16 * x1)) + x2)) * 17)) + x3)) + 1)) * 12)) + r1)) * 7)) + r2)), .inr (.inr 128)], (am_sh, am_mm U2))) 10 (fun _ => rfl) (fun hc => ?_) (fun hc => ?_)
    · have haaa21 := haaa2.1 hc
      refine ev_seg (σ1 := ((d + 1), 311, 72, [some (.inr (.inr 86)), some (.inl x1), some (.inl x2), some (.inl x3), some (.inl r1), some (.inl (w32 ((w32 ((w32 ((w32 ((w32 ((w32 ((w32 ((w32 ((w32 (16 * x1)) + x2)) * 17)) + x3)) + 1)) * 12)) + r1)) * 7)) + r2)))], [.inl x3, .inl 1, .inr (.inr 86), .inl x2, .inl x1, .inl 1, .inr (.inr 86), .inl (w32 ((w32 ((w32 ((w32 ((w32 ((w32 ((w32 ((w32 ((w32 (16 * x1)) + x2)) * 17)) + x3)) + 1)) * 12)) + r1)) * 7)) + r2)), .inr (.inr 128)], (am_sh, am_mm U2))) 3 (fun _ => rfl) ?_
      obtain ⟨r3, U3, haaa21c, haaa21a⟩ := haaa21
      refine ev_cal (σc := (d, 203, 0, [some (.inr (.inr 86)), some (.inl 1), some (.inl x3)], [], (am_sh, am_mm U2))) (fun _ => rfl) haaa21c ?_
      show Ev (am_kz N X) ((d + 1), 311, 75, [some (.inr (.inr 86)), some (.inl x1), some (.inl x2), some (.inl x3), some (.inl r1), some (.inl (w32 ((w32 ((w32 ((w32 ((w32 ((w32 ((w32 ((w32 ((w32 (16 * x1)) + x2)) * 17)) + x3)) + 1)) * 12)) + r1)) * 7)) + r2)))], [.inl r3, .inl x2, .inl x1, .inl 1, .inr (.inr 86), .inl (w32 ((w32 ((w32 ((w32 ((w32 ((w32 ((w32 ((w32 ((w32 (16 * x1)) + x2)) * 17)) + x3)) + 1)) * 12)) + r1)) * 7)) + r2)), .inr (.inr 128)], (am_sh, am_mm U3)) R
      refine ev_seg (σ1 := ((d + 1), 311, 76, [some (.inr (.inr 86)), some (.inl x1), some (.inl x2), some (.inl x3), some (.inl r1), some (.inl (w32 ((w32 ((w32 ((w32 ((w32 ((w32 ((w32 ((w32 ((w32 (16 * x1)) + x2)) * 17)) + x3)) + 1)) * 12)) + r1)) * 7)) + r2)))], [.inr (.inl r3), .inl x2, .inl x1, .inl 1, .inr (.inr 86), .inl (w32 ((w32 ((w32 ((w32 ((w32 ((w32 ((w32 ((w32 ((w32 (16 * x1)) + x2)) * 17)) + x3)) + 1)) * 12)) + r1)) * 7)) + r2)), .inr (.inr 128)], (am_sh, am_mm U3))) 1 (fun _ => rfl) ?_
      obtain ⟨r4, U4, haaa21ac, haaa21aa⟩ := haaa21a
      refine ev_cal (σc := (d, 136, 0, [some (.inr (.inr 86)), some (.inl 1), some (.inl x1), some (.inl x2), some (.inr (.inl r3)), none], [], (am_sh, am_mm U3))) (fun _ => rfl) haaa21ac ?_
      show Ev (am_kz N X) ((d + 1), 311, 79, [some (.inr (.inr 86)), some (.inl x1), some (.inl x2), some (.inl x3), some (.inl r1), some (.inl (w32 ((w32 ((w32 ((w32 ((w32 ((w32 ((w32 ((w32 ((w32 (16 * x1)) + x2)) * 17)) + x3)) + 1)) * 12)) + r1)) * 7)) + r2)))], [.inl r4, .inl (w32 ((w32 ((w32 ((w32 ((w32 ((w32 ((w32 ((w32 ((w32 (16 * x1)) + x2)) * 17)) + x3)) + 1)) * 12)) + r1)) * 7)) + r2)), .inr (.inr 128)], (am_sh, am_mm U4)) R
      refine ev_br (P := r4 = 0) (σ1 := ((d + 1), 311, 86, [some (.inr (.inr 86)), some (.inl x1), some (.inl x2), some (.inl x3), some (.inl r1), some (.inl (w32 ((w32 ((w32 ((w32 ((w32 ((w32 ((w32 ((w32 ((w32 (16 * x1)) + x2)) * 17)) + x3)) + 1)) * 12)) + r1)) * 7)) + r2)))], [.inl (w32 ((w32 ((w32 ((w32 ((w32 ((w32 ((w32 ((w32 ((w32 (16 * x1)) + x2)) * 17)) + x3)) + 1)) * 12)) + r1)) * 7)) + r2)), .inr (.inr 128)], (am_sh, am_mm U4))) (σ2 := ((d + 1), 311, 82, [some (.inr (.inr 86)), some (.inl x1), some (.inl x2), some (.inl x3), some (.inl r1), some (.inl (w32 ((w32 ((w32 ((w32 ((w32 ((w32 ((w32 ((w32 ((w32 (16 * x1)) + x2)) * 17)) + x3)) + 1)) * 12)) + r1)) * 7)) + r2)))], [.inl (w32 ((w32 ((w32 ((w32 ((w32 ((w32 ((w32 ((w32 ((w32 (16 * x1)) + x2)) * 17)) + x3)) + 1)) * 12)) + r1)) * 7)) + r2)), .inr (.inr 128)], (am_sh, am_mm U4))) 1 (fun _ => rfl) (fun hc => ?_) (fun hc => ?_)
      · have haaa21aa1 := haaa21aa.1 hc
        refine ev_seg (σ1 := ((d + 1), 311, 88, [some (.inr (.inr 86)), some (.inl x1), some (.inl x2), some (.inl x3), some (.inl r1), some (.inl (w32 ((w32 ((w32 ((w32 ((w32 ((w32 ((w32 ((w32 ((w32 (16 * x1)) + x2)) * 17)) + x3)) + 1)) * 12)) + r1)) * 7)) + r2)))], [.inl ((Int32.ofInt 1).toInt8.toInt32.toInt), .inl (w32 ((w32 ((w32 ((w32 ((w32 ((w32 ((w32 ((w32 ((w32 (16 * x1)) + x2)) * 17)) + x3)) + 1)) * 12)) + r1)) * 7)) + r2)), .inr (.inr 128)], (am_sh, am_mm U4))) 2 (fun _ => rfl) ?_
        refine eu_bast 128 haaa21aa1.1 (n := 182784) rfl (by decide) rfl (fun _ => rfl) haaa21aa1.2.1 ?_
        have haaa21aa1a := haaa21aa1.2.2
        refine ev_seg (σ1 := ((d + 1), 311, 95, [some (.inr (.inr 86)), some (.inl x1), some (.inl x2), some (.inl x3), some (.inl r1), some (.inl (w32 ((w32 ((w32 ((w32 ((w32 ((w32 ((w32 ((w32 ((w32 (16 * x1)) + x2)) * 17)) + x3)) + 1)) * 12)) + r1)) * 7)) + r2)))], [.inl (w32 ((w32 ((w32 ((w32 ((w32 ((w32 ((w32 ((w32 ((w32 (16 * x1)) + x2)) * 17)) + x3)) + 1)) * 12)) + r1)) * 7)) + r2)), .inr (.inr 128)], (am_sh, am_mm (am_upd U4 128 (w32 ((w32 ((w32 ((w32 ((w32 ((w32 ((w32 ((w32 ((w32 (16 * x1)) + x2)) * 17)) + x3)) + 1)) * 12)) + r1)) * 7)) + r2)).toNat ((Int32.ofInt 1).toInt8.toInt32.toInt))))) 3 (fun _ => rfl) ?_
        refine eu_bald 128 (n := 182784) rfl (by decide) rfl (fun _ => rfl) haaa21aa1a.1 ?_
        have haaa21aa1aa := haaa21aa1a.2
        refine ev_br (P := ¬ ((am_upd U4 128 (w32 ((w32 ((w32 ((w32 ((w32 ((w32 ((w32 ((w32 ((w32 (16 * x1)) + x2)) * 17)) + x3)) + 1)) * 12)) + r1)) * 7)) + r2)).toNat ((Int32.ofInt 1).toInt8.toInt32.toInt)) 128 (w32 ((w32 ((w32 ((w32 ((w32 ((w32 ((w32 ((w32 ((w32 (16 * x1)) + x2)) * 17)) + x3)) + 1)) * 12)) + r1)) * 7)) + r2)).toNat) = 2) (σ1 := ((d + 1), 311, 104, [some (.inr (.inr 86)), some (.inl x1), some (.inl x2), some (.inl x3), some (.inl r1), some (.inl (w32 ((w32 ((w32 ((w32 ((w32 ((w32 ((w32 ((w32 ((w32 (16 * x1)) + x2)) * 17)) + x3)) + 1)) * 12)) + r1)) * 7)) + r2)))], [], (am_sh, am_mm (am_upd U4 128 (w32 ((w32 ((w32 ((w32 ((w32 ((w32 ((w32 ((w32 ((w32 (16 * x1)) + x2)) * 17)) + x3)) + 1)) * 12)) + r1)) * 7)) + r2)).toNat ((Int32.ofInt 1).toInt8.toInt32.toInt))))) (σ2 := ((d + 1), 311, 100, [some (.inr (.inr 86)), some (.inl x1), some (.inl x2), some (.inl x3), some (.inl r1), some (.inl (w32 ((w32 ((w32 ((w32 ((w32 ((w32 ((w32 ((w32 ((w32 (16 * x1)) + x2)) * 17)) + x3)) + 1)) * 12)) + r1)) * 7)) + r2)))], [], (am_sh, am_mm (am_upd U4 128 (w32 ((w32 ((w32 ((w32 ((w32 ((w32 ((w32 ((w32 ((w32 (16 * x1)) + x2)) * 17)) + x3)) + 1)) * 12)) + r1)) * 7)) + r2)).toNat ((Int32.ofInt 1).toInt8.toInt32.toInt))))) 2 (fun _ => rfl) (fun hc => ?_) (fun hc => ?_)
        · have haaa21aa1aa1 := haaa21aa1aa.1 hc
          subst haaa21aa1aa1
          exact ev_end 2 (fun _ => rfl)
        · have haaa21aa1aa2 := haaa21aa1aa.2 hc
          subst haaa21aa1aa2
          exact ev_end 3 (fun _ => rfl)
      · have haaa21aa2 := haaa21aa.2 hc
        refine ev_seg (σ1 := ((d + 1), 311, 88, [some (.inr (.inr 86)), some (.inl x1), some (.inl x2), some (.inl x3), some (.inl r1), some (.inl (w32 ((w32 ((w32 ((w32 ((w32 ((w32 ((w32 ((w32 ((w32 (16 * x1)) + x2)) * 17)) + x3)) + 1)) * 12)) + r1)) * 7)) + r2)))], [.inl ((Int32.ofInt 2).toInt8.toInt32.toInt), .inl (w32 ((w32 ((w32 ((w32 ((w32 ((w32 ((w32 ((w32 ((w32 (16 * x1)) + x2)) * 17)) + x3)) + 1)) * 12)) + r1)) * 7)) + r2)), .inr (.inr 128)], (am_sh, am_mm U4))) 3 (fun _ => rfl) ?_
        refine eu_bast 128 haaa21aa2.1 (n := 182784) rfl (by decide) rfl (fun _ => rfl) haaa21aa2.2.1 ?_
        have haaa21aa2a := haaa21aa2.2.2
        refine ev_seg (σ1 := ((d + 1), 311, 95, [some (.inr (.inr 86)), some (.inl x1), some (.inl x2), some (.inl x3), some (.inl r1), some (.inl (w32 ((w32 ((w32 ((w32 ((w32 ((w32 ((w32 ((w32 ((w32 (16 * x1)) + x2)) * 17)) + x3)) + 1)) * 12)) + r1)) * 7)) + r2)))], [.inl (w32 ((w32 ((w32 ((w32 ((w32 ((w32 ((w32 ((w32 ((w32 (16 * x1)) + x2)) * 17)) + x3)) + 1)) * 12)) + r1)) * 7)) + r2)), .inr (.inr 128)], (am_sh, am_mm (am_upd U4 128 (w32 ((w32 ((w32 ((w32 ((w32 ((w32 ((w32 ((w32 ((w32 (16 * x1)) + x2)) * 17)) + x3)) + 1)) * 12)) + r1)) * 7)) + r2)).toNat ((Int32.ofInt 2).toInt8.toInt32.toInt))))) 3 (fun _ => rfl) ?_
        refine eu_bald 128 (n := 182784) rfl (by decide) rfl (fun _ => rfl) haaa21aa2a.1 ?_
        have haaa21aa2aa := haaa21aa2a.2
        refine ev_br (P := ¬ ((am_upd U4 128 (w32 ((w32 ((w32 ((w32 ((w32 ((w32 ((w32 ((w32 ((w32 (16 * x1)) + x2)) * 17)) + x3)) + 1)) * 12)) + r1)) * 7)) + r2)).toNat ((Int32.ofInt 2).toInt8.toInt32.toInt)) 128 (w32 ((w32 ((w32 ((w32 ((w32 ((w32 ((w32 ((w32 ((w32 (16 * x1)) + x2)) * 17)) + x3)) + 1)) * 12)) + r1)) * 7)) + r2)).toNat) = 2) (σ1 := ((d + 1), 311, 104, [some (.inr (.inr 86)), some (.inl x1), some (.inl x2), some (.inl x3), some (.inl r1), some (.inl (w32 ((w32 ((w32 ((w32 ((w32 ((w32 ((w32 ((w32 ((w32 (16 * x1)) + x2)) * 17)) + x3)) + 1)) * 12)) + r1)) * 7)) + r2)))], [], (am_sh, am_mm (am_upd U4 128 (w32 ((w32 ((w32 ((w32 ((w32 ((w32 ((w32 ((w32 ((w32 (16 * x1)) + x2)) * 17)) + x3)) + 1)) * 12)) + r1)) * 7)) + r2)).toNat ((Int32.ofInt 2).toInt8.toInt32.toInt))))) (σ2 := ((d + 1), 311, 100, [some (.inr (.inr 86)), some (.inl x1), some (.inl x2), some (.inl x3), some (.inl r1), some (.inl (w32 ((w32 ((w32 ((w32 ((w32 ((w32 ((w32 ((w32 ((w32 (16 * x1)) + x2)) * 17)) + x3)) + 1)) * 12)) + r1)) * 7)) + r2)))], [], (am_sh, am_mm (am_upd U4 128 (w32 ((w32 ((w32 ((w32 ((w32 ((w32 ((w32 ((w32 ((w32 (16 * x1)) + x2)) * 17)) + x3)) + 1)) * 12)) + r1)) * 7)) + r2)).toNat ((Int32.ofInt 2).toInt8.toInt32.toInt))))) 2 (fun _ => rfl) (fun hc => ?_) (fun hc => ?_)
        · have haaa21aa2aa1 := haaa21aa2aa.1 hc
          subst haaa21aa2aa1
          exact ev_end 2 (fun _ => rfl)
        · have haaa21aa2aa2 := haaa21aa2aa.2 hc
          subst haaa21aa2aa2
          exact ev_end 3 (fun _ => rfl)
    · have haaa22 := haaa2.2 hc
      refine ev_seg (σ1 := ((d + 1), 311, 76, [some (.inr (.inr 86)), some (.inl x1), some (.inl x2), some (.inl x3), some (.inl r1), some (.inl (w32 ((w32 ((w32 ((w32 ((w32 ((w32 ((w32 ((w32 ((w32 (16 * x1)) + x2)) * 17)) + x3)) + 1)) * 12)) + r1)) * 7)) + r2)))], [.inr (.inl 0), .inl x2, .inl x1, .inl 1, .inr (.inr 86), .inl (w32 ((w32 ((w32 ((w32 ((w32 ((w32 ((w32 ((w32 ((w32 (16 * x1)) + x2)) * 17)) + x3)) + 1)) * 12)) + r1)) * 7)) + r2)), .inr (.inr 128)], (am_sh, am_mm U2))) 2 (fun _ => rfl) ?_
      obtain ⟨r5, U5, haaa22c, haaa22a⟩ := haaa22
      refine ev_cal (σc := (d, 136, 0, [some (.inr (.inr 86)), some (.inl 1), some (.inl x1), some (.inl x2), some (.inr (.inl 0)), none], [], (am_sh, am_mm U2))) (fun _ => rfl) haaa22c ?_
      show Ev (am_kz N X) ((d + 1), 311, 79, [some (.inr (.inr 86)), some (.inl x1), some (.inl x2), some (.inl x3), some (.inl r1), some (.inl (w32 ((w32 ((w32 ((w32 ((w32 ((w32 ((w32 ((w32 ((w32 (16 * x1)) + x2)) * 17)) + x3)) + 1)) * 12)) + r1)) * 7)) + r2)))], [.inl r5, .inl (w32 ((w32 ((w32 ((w32 ((w32 ((w32 ((w32 ((w32 ((w32 (16 * x1)) + x2)) * 17)) + x3)) + 1)) * 12)) + r1)) * 7)) + r2)), .inr (.inr 128)], (am_sh, am_mm U5)) R
      refine ev_br (P := r5 = 0) (σ1 := ((d + 1), 311, 86, [some (.inr (.inr 86)), some (.inl x1), some (.inl x2), some (.inl x3), some (.inl r1), some (.inl (w32 ((w32 ((w32 ((w32 ((w32 ((w32 ((w32 ((w32 ((w32 (16 * x1)) + x2)) * 17)) + x3)) + 1)) * 12)) + r1)) * 7)) + r2)))], [.inl (w32 ((w32 ((w32 ((w32 ((w32 ((w32 ((w32 ((w32 ((w32 (16 * x1)) + x2)) * 17)) + x3)) + 1)) * 12)) + r1)) * 7)) + r2)), .inr (.inr 128)], (am_sh, am_mm U5))) (σ2 := ((d + 1), 311, 82, [some (.inr (.inr 86)), some (.inl x1), some (.inl x2), some (.inl x3), some (.inl r1), some (.inl (w32 ((w32 ((w32 ((w32 ((w32 ((w32 ((w32 ((w32 ((w32 (16 * x1)) + x2)) * 17)) + x3)) + 1)) * 12)) + r1)) * 7)) + r2)))], [.inl (w32 ((w32 ((w32 ((w32 ((w32 ((w32 ((w32 ((w32 ((w32 (16 * x1)) + x2)) * 17)) + x3)) + 1)) * 12)) + r1)) * 7)) + r2)), .inr (.inr 128)], (am_sh, am_mm U5))) 1 (fun _ => rfl) (fun hc => ?_) (fun hc => ?_)
      · have haaa22a1 := haaa22a.1 hc
        refine ev_seg (σ1 := ((d + 1), 311, 88, [some (.inr (.inr 86)), some (.inl x1), some (.inl x2), some (.inl x3), some (.inl r1), some (.inl (w32 ((w32 ((w32 ((w32 ((w32 ((w32 ((w32 ((w32 ((w32 (16 * x1)) + x2)) * 17)) + x3)) + 1)) * 12)) + r1)) * 7)) + r2)))], [.inl ((Int32.ofInt 1).toInt8.toInt32.toInt), .inl (w32 ((w32 ((w32 ((w32 ((w32 ((w32 ((w32 ((w32 ((w32 (16 * x1)) + x2)) * 17)) + x3)) + 1)) * 12)) + r1)) * 7)) + r2)), .inr (.inr 128)], (am_sh, am_mm U5))) 2 (fun _ => rfl) ?_
        refine eu_bast 128 haaa22a1.1 (n := 182784) rfl (by decide) rfl (fun _ => rfl) haaa22a1.2.1 ?_
        have haaa22a1a := haaa22a1.2.2
        refine ev_seg (σ1 := ((d + 1), 311, 95, [some (.inr (.inr 86)), some (.inl x1), some (.inl x2), some (.inl x3), some (.inl r1), some (.inl (w32 ((w32 ((w32 ((w32 ((w32 ((w32 ((w32 ((w32 ((w32 (16 * x1)) + x2)) * 17)) + x3)) + 1)) * 12)) + r1)) * 7)) + r2)))], [.inl (w32 ((w32 ((w32 ((w32 ((w32 ((w32 ((w32 ((w32 ((w32 (16 * x1)) + x2)) * 17)) + x3)) + 1)) * 12)) + r1)) * 7)) + r2)), .inr (.inr 128)], (am_sh, am_mm (am_upd U5 128 (w32 ((w32 ((w32 ((w32 ((w32 ((w32 ((w32 ((w32 ((w32 (16 * x1)) + x2)) * 17)) + x3)) + 1)) * 12)) + r1)) * 7)) + r2)).toNat ((Int32.ofInt 1).toInt8.toInt32.toInt))))) 3 (fun _ => rfl) ?_
        refine eu_bald 128 (n := 182784) rfl (by decide) rfl (fun _ => rfl) haaa22a1a.1 ?_
        have haaa22a1aa := haaa22a1a.2
        refine ev_br (P := ¬ ((am_upd U5 128 (w32 ((w32 ((w32 ((w32 ((w32 ((w32 ((w32 ((w32 ((w32 (16 * x1)) + x2)) * 17)) + x3)) + 1)) * 12)) + r1)) * 7)) + r2)).toNat ((Int32.ofInt 1).toInt8.toInt32.toInt)) 128 (w32 ((w32 ((w32 ((w32 ((w32 ((w32 ((w32 ((w32 ((w32 (16 * x1)) + x2)) * 17)) + x3)) + 1)) * 12)) + r1)) * 7)) + r2)).toNat) = 2) (σ1 := ((d + 1), 311, 104, [some (.inr (.inr 86)), some (.inl x1), some (.inl x2), some (.inl x3), some (.inl r1), some (.inl (w32 ((w32 ((w32 ((w32 ((w32 ((w32 ((w32 ((w32 ((w32 (16 * x1)) + x2)) * 17)) + x3)) + 1)) * 12)) + r1)) * 7)) + r2)))], [], (am_sh, am_mm (am_upd U5 128 (w32 ((w32 ((w32 ((w32 ((w32 ((w32 ((w32 ((w32 ((w32 (16 * x1)) + x2)) * 17)) + x3)) + 1)) * 12)) + r1)) * 7)) + r2)).toNat ((Int32.ofInt 1).toInt8.toInt32.toInt))))) (σ2 := ((d + 1), 311, 100, [some (.inr (.inr 86)), some (.inl x1), some (.inl x2), some (.inl x3), some (.inl r1), some (.inl (w32 ((w32 ((w32 ((w32 ((w32 ((w32 ((w32 ((w32 ((w32 (16 * x1)) + x2)) * 17)) + x3)) + 1)) * 12)) + r1)) * 7)) + r2)))], [], (am_sh, am_mm (am_upd U5 128 (w32 ((w32 ((w32 ((w32 ((w32 ((w32 ((w32 ((w32 ((w32 (16 * x1)) + x2)) * 17)) + x3)) + 1)) * 12)) + r1)) * 7)) + r2)).toNat ((Int32.ofInt 1).toInt8.toInt32.toInt))))) 2 (fun _ => rfl) (fun hc => ?_) (fun hc => ?_)
        · have haaa22a1aa1 := haaa22a1aa.1 hc
          subst haaa22a1aa1
          exact ev_end 2 (fun _ => rfl)
        · have haaa22a1aa2 := haaa22a1aa.2 hc
          subst haaa22a1aa2
          exact ev_end 3 (fun _ => rfl)
      · have haaa22a2 := haaa22a.2 hc
        refine ev_seg (σ1 := ((d + 1), 311, 88, [some (.inr (.inr 86)), some (.inl x1), some (.inl x2), some (.inl x3), some (.inl r1), some (.inl (w32 ((w32 ((w32 ((w32 ((w32 ((w32 ((w32 ((w32 ((w32 (16 * x1)) + x2)) * 17)) + x3)) + 1)) * 12)) + r1)) * 7)) + r2)))], [.inl ((Int32.ofInt 2).toInt8.toInt32.toInt), .inl (w32 ((w32 ((w32 ((w32 ((w32 ((w32 ((w32 ((w32 ((w32 (16 * x1)) + x2)) * 17)) + x3)) + 1)) * 12)) + r1)) * 7)) + r2)), .inr (.inr 128)], (am_sh, am_mm U5))) 3 (fun _ => rfl) ?_
        refine eu_bast 128 haaa22a2.1 (n := 182784) rfl (by decide) rfl (fun _ => rfl) haaa22a2.2.1 ?_
        have haaa22a2a := haaa22a2.2.2
        refine ev_seg (σ1 := ((d + 1), 311, 95, [some (.inr (.inr 86)), some (.inl x1), some (.inl x2), some (.inl x3), some (.inl r1), some (.inl (w32 ((w32 ((w32 ((w32 ((w32 ((w32 ((w32 ((w32 ((w32 (16 * x1)) + x2)) * 17)) + x3)) + 1)) * 12)) + r1)) * 7)) + r2)))], [.inl (w32 ((w32 ((w32 ((w32 ((w32 ((w32 ((w32 ((w32 ((w32 (16 * x1)) + x2)) * 17)) + x3)) + 1)) * 12)) + r1)) * 7)) + r2)), .inr (.inr 128)], (am_sh, am_mm (am_upd U5 128 (w32 ((w32 ((w32 ((w32 ((w32 ((w32 ((w32 ((w32 ((w32 (16 * x1)) + x2)) * 17)) + x3)) + 1)) * 12)) + r1)) * 7)) + r2)).toNat ((Int32.ofInt 2).toInt8.toInt32.toInt))))) 3 (fun _ => rfl) ?_
        refine eu_bald 128 (n := 182784) rfl (by decide) rfl (fun _ => rfl) haaa22a2a.1 ?_
        have haaa22a2aa := haaa22a2a.2
        refine ev_br (P := ¬ ((am_upd U5 128 (w32 ((w32 ((w32 ((w32 ((w32 ((w32 ((w32 ((w32 ((w32 (16 * x1)) + x2)) * 17)) + x3)) + 1)) * 12)) + r1)) * 7)) + r2)).toNat ((Int32.ofInt 2).toInt8.toInt32.toInt)) 128 (w32 ((w32 ((w32 ((w32 ((w32 ((w32 ((w32 ((w32 ((w32 (16 * x1)) + x2)) * 17)) + x3)) + 1)) * 12)) + r1)) * 7)) + r2)).toNat) = 2) (σ1 := ((d + 1), 311, 104, [some (.inr (.inr 86)), some (.inl x1), some (.inl x2), some (.inl x3), some (.inl r1), some (.inl (w32 ((w32 ((w32 ((w32 ((w32 ((w32 ((w32 ((w32 ((w32 (16 * x1)) + x2)) * 17)) + x3)) + 1)) * 12)) + r1)) * 7)) + r2)))], [], (am_sh, am_mm (am_upd U5 128 (w32 ((w32 ((w32 ((w32 ((w32 ((w32 ((w32 ((w32 ((w32 (16 * x1)) + x2)) * 17)) + x3)) + 1)) * 12)) + r1)) * 7)) + r2)).toNat ((Int32.ofInt 2).toInt8.toInt32.toInt))))) (σ2 := ((d + 1), 311, 100, [some (.inr (.inr 86)), some (.inl x1), some (.inl x2), some (.inl x3), some (.inl r1), some (.inl (w32 ((w32 ((w32 ((w32 ((w32 ((w32 ((w32 ((w32 ((w32 (16 * x1)) + x2)) * 17)) + x3)) + 1)) * 12)) + r1)) * 7)) + r2)))], [], (am_sh, am_mm (am_upd U5 128 (w32 ((w32 ((w32 ((w32 ((w32 ((w32 ((w32 ((w32 ((w32 (16 * x1)) + x2)) * 17)) + x3)) + 1)) * 12)) + r1)) * 7)) + r2)).toNat ((Int32.ofInt 2).toInt8.toInt32.toInt))))) 2 (fun _ => rfl) (fun hc => ?_) (fun hc => ?_)
        · have haaa22a2aa1 := haaa22a2aa.1 hc
          subst haaa22a2aa1
          exact ev_end 2 (fun _ => rfl)
        · have haaa22a2aa2 := haaa22a2aa.2 hc
          subst haaa22a2aa2
          exact ev_end 3 (fun _ => rfl)
set_option maxRecDepth 8000 in
theorem st313_0 (N : Nat) (X : Nat → Int) (d : Nat) (x0 x2 : Int) (U : Nat → Nat → Int) (R : Option am_V × am_M) (h : (((¬ (am_lcmp x2 0) = 0 : Prop)) → x2 ≠ 0 ∧ x2 ≠ 0 ∧ ((((am_lcmp (Int.tmod x0 x2) 0) = 0 : Prop)) → R = (some (.inr (.inl (w64 (Int.tdiv x0 x2)))), (am_sh, am_mm U))) ∧ (¬ ((am_lcmp (Int.tmod x0 x2) 0) = 0) → (((0 ≤ (am_lcmp x0 0) : Prop)) → (((0 ≤ (am_lcmp x2 0) : Prop)) → (((0 = 0 : Prop)) → R = (some (.inr (.inl (w64 (Int.tdiv x0 x2)))), (am_sh, am_mm U))) ∧ (¬ (0 = 0) → R = (some (.inr (.inl (w64 ((w64 (Int.tdiv x0 x2)) - 1)))), (am_sh, am_mm U)))) ∧ (¬ (0 ≤ (am_lcmp x2 0)) → (((0 = 1 : Prop)) → R = (some (.inr (.inl (w64 (Int.tdiv x0 x2)))), (am_sh, am_mm U))) ∧ (¬ (0 = 1) → R = (some (.inr (.inl (w64 ((w64 (Int.tdiv x0 x2)) - 1)))), (am_sh, am_mm U))))) ∧ (¬ (0 ≤ (am_lcmp x0 0)) → (((0 ≤ (am_lcmp x2 0) : Prop)) → (((1 = 0 : Prop)) → R = (some (.inr (.inl (w64 (Int.tdiv x0 x2)))), (am_sh, am_mm U))) ∧ (¬ (1 = 0) → R = (some (.inr (.inl (w64 ((w64 (Int.tdiv x0 x2)) - 1)))), (am_sh, am_mm U)))) ∧ (¬ (0 ≤ (am_lcmp x2 0)) → (((1 = 1 : Prop)) → R = (some (.inr (.inl (w64 (Int.tdiv x0 x2)))), (am_sh, am_mm U))) ∧ (¬ (1 = 1) → R = (some (.inr (.inl (w64 ((w64 (Int.tdiv x0 x2)) - 1)))), (am_sh, am_mm U))))))) ∧ (¬ (¬ (am_lcmp x2 0) = 0) → R = (some (.inr (.inl 0)), (am_sh, am_mm U)))) : Ev (am_kz N X) (d, 313, 0, [some (.inr (.inl x0)), none, some (.inr (.inl x2)), none, none, none], [], (am_sh, am_mm U)) R := by
  refine ev_br (P := ¬ (am_lcmp x2 0) = 0) (σ1 := (d, 313, 8, [some (.inr (.inl x0)), none, some (.inr (.inl x2)), none, none, none], [], (am_sh, am_mm U))) (σ2 := (d, 313, 6, [some (.inr (.inl x0)), none, some (.inr (.inl x2)), none, none, none], [], (am_sh, am_mm U))) 4 (fun _ => rfl) (fun hc => ?_) (fun hc => ?_)
  · have h1 := h.1 hc
    refine ev_seg (σ1 := (d, 313, 10, [some (.inr (.inl x0)), none, some (.inr (.inl x2)), none, none, none], [.inr (.inl x2), .inr (.inl x0)], (am_sh, am_mm U))) 2 (fun _ => rfl) ?_
    refine ev_ldiv rfl h1.1 ?_
    have h1a := h1.2
    refine ev_seg (σ1 := (d, 313, 15, [some (.inr (.inl x0)), none, some (.inr (.inl x2)), none, some (.inr (.inl (w64 (Int.tdiv x0 x2)))), none], [.inr (.inl x2), .inr (.inl x0)], (am_sh, am_mm U))) 3 (fun _ => rfl) ?_
    refine ev_lrem rfl h1a.1 ?_
    have h1aa := h1a.2
    refine ev_br (P := (am_lcmp (Int.tmod x0 x2) 0) = 0) (σ1 := (d, 313, 53, [some (.inr (.inl x0)), none, some (.inr (.inl x2)), none, some (.inr (.inl (w64 (Int.tdiv x0 x2)))), none], [], (am_sh, am_mm U))) (σ2 := (d, 313, 21, [some (.inr (.inl x0)), none, some (.inr (.inl x2)), none, some (.inr (.inl (w64 (Int.tdiv x0 x2)))), none], [], (am_sh, am_mm U))) 3 (fun _ => rfl) (fun hc => ?_) (fun hc => ?_)
    · have h1aa1 := h1aa.1 hc
      subst h1aa1
      exact ev_end 2 (fun _ => rfl)
    · have h1aa2 := h1aa.2 hc
      refine ev_br (P := 0 ≤ (am_lcmp x0 0)) (σ1 := (d, 313, 31, [some (.inr (.inl x0)), none, some (.inr (.inl x2)), none, some (.inr (.inl (w64 (Int.tdiv x0 x2)))), none], [], (am_sh, am_mm U))) (σ2 := (d, 313, 27, [some (.inr (.inl x0)), none, some (.inr (.inl x2)), none, some (.inr (.inl (w64 (Int.tdiv x0 x2)))), none], [], (am_sh, am_mm U))) 4 (fun _ => rfl) (fun hc => ?_) (fun hc => ?_)
      · have h1aa21 := h1aa2.1 hc
        refine ev_br (P := 0 ≤ (am_lcmp x2 0)) (σ1 := (d, 313, 42, [some (.inr (.inl x0)), none, some (.inr (.inl x2)), none, some (.inr (.inl (w64 (Int.tdiv x0 x2)))), none], [.inl 0], (am_sh, am_mm U))) (σ2 := (d, 313, 38, [some (.inr (.inl x0)), none, some (.inr (.inl x2)), none, some (.inr (.inl (w64 (Int.tdiv x0 x2)))), none], [.inl 0], (am_sh, am_mm U))) 5 (fun _ => rfl) (fun hc => ?_) (fun hc => ?_)
        · have h1aa211 := h1aa21.1 hc
          refine ev_br (P := 0 = 0) (σ1 := (d, 313, 53, [some (.inr (.inl x0)), none, some (.inr (.inl x2)), none, some (.inr (.inl (w64 (Int.tdiv x0 x2)))), none], [], (am_sh, am_mm U))) (σ2 := (d, 313, 46, [some (.inr (.inl x0)), none, some (.inr (.inl x2)), none, some (.inr (.inl (w64 (Int.tdiv x0 x2)))), none], [], (am_sh, am_mm U))) 2 (fun _ => rfl) (fun hc => ?_) (fun hc => ?_)
          · have h1aa2111 := h1aa211.1 hc
            subst h1aa2111
            exact ev_end 2 (fun _ => rfl)
          · have h1aa2112 := h1aa211.2 hc
            subst h1aa2112
            exact ev_end 5 (fun _ => rfl)
        · have h1aa212 := h1aa21.2 hc
          refine ev_br (P := 0 = 1) (σ1 := (d, 313, 53, [some (.inr (.inl x0)), none, some (.inr (.inl x2)), none, some (.inr (.inl (w64 (Int.tdiv x0 x2)))), none], [], (am_sh, am_mm U))) (σ2 := (d, 313, 46, [some (.inr (.inl x0)), none, some (.inr (.inl x2)), none, some (.inr (.inl (w64 (Int.tdiv x0 x2)))), none], [], (am_sh, am_mm U))) 3 (fun _ => rfl) (fun hc => ?_) (fun hc => ?_)
          · have h1aa2121 := h1aa212.1 hc
            subst h1aa2121
            exact ev_end 2 (fun _ => rfl)
          · have h1aa2122 := h1aa212.2 hc
            subst h1aa2122
            exact ev_end 5 (fun _ => rfl)
      · have h1aa22 := h1aa2.2 hc
        refine ev_br (P := 0 ≤ (am_lcmp x2 0)) (σ1 := (d, 313, 42, [some (.inr (.inl x0)), none, some (.inr (.inl x2)), none, some (.inr (.inl (w64 (Int.tdiv x0 x2)))), none], [.inl 1], (am_sh, am_mm U))) (σ2 := (d, 313, 38, [some (.inr (.inl x0)), none, some (.inr (.inl x2)), none, some (.inr (.inl (w64 (Int.tdiv x0 x2)))), none], [.inl 1], (am_sh, am_mm U))) 6 (fun _ => rfl) (fun hc => ?_) (fun hc => ?_)
        · have h1aa221 := h1aa22.1 hc
          refine ev_br (P := 1 = 0) (σ1 := (d, 313, 53, [some (.inr (.inl x0)), none, some (.inr (.inl x2)), none, some (.inr (.inl (w64 (Int.tdiv x0 x2)))), none], [], (am_sh, am_mm U))) (σ2 := (d, 313, 46, [some (.inr (.inl x0)), none, some (.inr (.inl x2)), none, some (.inr (.inl (w64 (Int.tdiv x0 x2)))), none], [], (am_sh, am_mm U))) 2 (fun _ => rfl) (fun hc => ?_) (fun hc => ?_)
          · have h1aa2211 := h1aa221.1 hc
            subst h1aa2211
            exact ev_end 2 (fun _ => rfl)
          · have h1aa2212 := h1aa221.2 hc
            subst h1aa2212
            exact ev_end 5 (fun _ => rfl)
        · have h1aa222 := h1aa22.2 hc
          refine ev_br (P := 1 = 1) (σ1 := (d, 313, 53, [some (.inr (.inl x0)), none, some (.inr (.inl x2)), none, some (.inr (.inl (w64 (Int.tdiv x0 x2)))), none], [], (am_sh, am_mm U))) (σ2 := (d, 313, 46, [some (.inr (.inl x0)), none, some (.inr (.inl x2)), none, some (.inr (.inl (w64 (Int.tdiv x0 x2)))), none], [], (am_sh, am_mm U))) 3 (fun _ => rfl) (fun hc => ?_) (fun hc => ?_)
          · have h1aa2221 := h1aa222.1 hc
            subst h1aa2221
            exact ev_end 2 (fun _ => rfl)
          · have h1aa2222 := h1aa222.2 hc
            subst h1aa2222
            exact ev_end 5 (fun _ => rfl)
  · have h2 := h.2 hc
    subst h2
    exact ev_end 2 (fun _ => rfl)
set_option maxRecDepth 8000 in
theorem st312_0 (N : Nat) (X : Nat → Int) (d : Nat) (x0 : Int) (U : Nat → Nat → Int) (R : Option am_V × am_M) (h : ((((am_lcmp x0 1000000000) ≤ 0 : Prop)) → (((0 ≤ (am_lcmp x0 (-1000000000)) : Prop)) → R = (some (.inr (.inl x0)), (am_sh, am_mm U))) ∧ (¬ (0 ≤ (am_lcmp x0 (-1000000000))) → R = (some (.inr (.inl (-1000000000))), (am_sh, am_mm U)))) ∧ (¬ ((am_lcmp x0 1000000000) ≤ 0) → R = (some (.inr (.inl 1000000000)), (am_sh, am_mm U)))) : Ev (am_kz N X) (d, 312, 0, [some (.inr (.inl x0)), none], [], (am_sh, am_mm U)) R := by
  refine ev_br (P := (am_lcmp x0 1000000000) ≤ 0) (σ1 := (d, 312, 14, [some (.inr (.inl x0)), none], [], (am_sh, am_mm U))) (σ2 := (d, 312, 8, [some (.inr (.inl x0)), none], [], (am_sh, am_mm U))) 4 (fun _ => rfl) (fun hc => ?_) (fun hc => ?_)
  · have h1 := h.1 hc
    refine ev_br (P := 0 ≤ (am_lcmp x0 (-1000000000))) (σ1 := (d, 312, 28, [some (.inr (.inl x0)), none], [], (am_sh, am_mm U))) (σ2 := (d, 312, 22, [some (.inr (.inl x0)), none], [], (am_sh, am_mm U))) 4 (fun _ => rfl) (fun hc => ?_) (fun hc => ?_)
    · have h11 := h1.1 hc
      subst h11
      exact ev_end 2 (fun _ => rfl)
    · have h12 := h1.2 hc
      subst h12
      exact ev_end 3 (fun _ => rfl)
  · have h2 := h.2 hc
    subst h2
    exact ev_end 3 (fun _ => rfl)
set_option maxRecDepth 8000 in
theorem st314_0 (N : Nat) (X : Nat → Int) (d : Nat) (x0 : Int) (U : Nat → Nat → Int) (R : Option am_V × am_M) (h : (((0 < (am_and (am_xor x0 (-1)) (w32 (x0 - 1))) : Prop)) → ((((am_and (am_xor x0 (-1)) (w32 (x0 - 1))) ≤ 65536 : Prop)) → ((((am_and (am_xor x0 (-1)) (w32 (x0 - 1))) ≤ 256 : Prop)) → ((((am_and (am_xor x0 (-1)) (w32 (x0 - 1))) ≤ 16 : Prop)) → ((((am_and (am_xor x0 (-1)) (w32 (x0 - 1))) ≤ 4 : Prop)) → R = (some (.inl (w32 (1 + (am_ushr (am_and (am_xor x0 (-1)) (w32 (x0 - 1))) 1)))), (am_sh, am_mm U))) ∧ (¬ ((am_and (am_xor x0 (-1)) (w32 (x0 - 1))) ≤ 4) → R = (some (.inl (w32 ((w32 (1 + 2)) + (am_ushr (am_ushr (am_and (am_xor x0 (-1)) (w32 (x0 - 1))) 2) 1)))), (am_sh, am_mm U)))) ∧ (¬ ((am_and (am_xor x0 (-1)) (w32 (x0 - 1))) ≤ 16) → ((((am_ushr (am_and (am_xor x0 (-1)) (w32 (x0 - 1))) 4) ≤ 4 : Prop)) → R = (some (.inl (w32 ((w32 (1 + 4)) + (am_ushr (am_ushr (am_and (am_xor x0 (-1)) (w32 (x0 - 1))) 4) 1)))), (am_sh, am_mm U))) ∧ (¬ ((am_ushr (am_and (am_xor x0 (-1)) (w32 (x0 - 1))) 4) ≤ 4) → R = (some (.inl (w32 ((w32 ((w32 (1 + 4)) + 2)) + (am_ushr (am_ushr (am_ushr (am_and (am_xor x0 (-1)) (w32 (x0 - 1))) 4) 2) 1)))), (am_sh, am_mm U))))) ∧ (¬ ((am_and (am_xor x0 (-1)) (w32 (x0 - 1))) ≤ 256) → ((((am_ushr (am_and (am_xor x0 (-1)) (w32 (x0 - 1))) 8) ≤ 16 : Prop)) → ((((am_ushr (am_and (am_xor x0 (-1)) (w32 (x0 - 1))) 8) ≤ 4 : Prop)) → R = (some (.inl (w32 ((w32 (1 + 8)) + (am_ushr (am_ushr (am_and (am_xor x0 (-1)) (w32 (x0 - 1))) 8) 1)))), (am_sh, am_mm U))) ∧ (¬ ((am_ushr (am_and (am_xor x0 (-1)) (w32 (x0 - 1))) 8) ≤ 4) → R = (some (.inl (w32 ((w32 ((w32 (1 + 8)) + 2)) + (am_ushr (am_ushr (am_ushr (am_and (am_xor x0 (-1)) (w32 (x0 - 1))) 8) 2) 1)))), (am_sh, am_mm U)))) ∧ (¬ ((am_ushr (am_and (am_xor x0 (-1)) (w32 (x0 - 1))) 8) ≤ 16) → ((((am_ushr (am_ushr (am_and (am_xor x0 (-1)) (w32 (x0 - 1))) 8) 4) ≤ 4 : Prop)) → R = (some (.inl (w32 ((w32 ((w32 (1 + 8)) + 4)) + (am_ushr (am_ushr (am_ushr (am_and (am_xor x0 (-1)) (w32 (x0 - 1))) 8) 4) 1)))), (am_sh, am_mm U))) ∧ (¬ ((am_ushr (am_ushr (am_and (am_xor x0 (-1)) (w32 (x0 - 1))) 8) 4) ≤ 4) → R = (some (.inl (w32 ((w32 ((w32 ((w32 (1 + 8)) + 4)) + 2)) + (am_ushr (am_ushr (am_ushr (am_ushr (am_and (am_xor x0 (-1)) (w32 (x0 - 1))) 8) 4) 2) 1)))), (am_sh, am_mm U)))))) ∧ (¬ ((am_and (am_xor x0 (-1)) (w32 (x0 - 1))) ≤ 65536) → ((((am_ushr (am_and (am_xor x0 (-1)) (w32 (x0 - 1))) 16) ≤ 256 : Prop)) → ((((am_ushr (am_and (am_xor x0 (-1)) (w32 (x0 - 1))) 16) ≤ 16 : Prop)) → ((((am_ushr (am_and (am_xor x0 (-1)) (w32 (x0 - 1))) 16) ≤ 4 : Prop)) → R = (some (.inl (w32 ((w32 (1 + 16)) + (am_ushr (am_ushr (am_and (am_xor x0 (-1)) (w32 (x0 - 1))) 16) 1)))), (am_sh, am_mm U))) ∧ (¬ ((am_ushr (am_and (am_xor x0 (-1)) (w32 (x0 - 1))) 16) ≤ 4) → R = (some (.inl (w32 ((w32 ((w32 (1 + 16)) + 2)) + (am_ushr (am_ushr (am_ushr (am_and (am_xor x0 (-1)) (w32 (x0 - 1))) 16) 2) 1)))), (am_sh, am_mm U)))) ∧ (¬ ((am_ushr (am_and (am_xor x0 (-1)) (w32 (x0 - 1))) 16) ≤ 16) → ((((am_ushr (am_ushr (am_and (am_xor x0 (-1)) (w32 (x0 - 1))) 16) 4) ≤ 4 : Prop)) → R = (some (.inl (w32 ((w32 ((w32 (1 + 16)) + 4)) + (am_ushr (am_ushr (am_ushr (am_and (am_xor x0 (-1)) (w32 (x0 - 1))) 16) 4) 1)))), (am_sh, am_mm U))) ∧ (¬ ((am_ushr (am_ushr (am_and (am_xor x0 (-1)) (w32 (x0 - 1))) 16) 4) ≤ 4) → R = (some (.inl (w32 ((w32 ((w32 ((w32 (1 + 16)) + 4)) + 2)) + (am_ushr (am_ushr (am_ushr (am_ushr (am_and (am_xor x0 (-1)) (w32 (x0 - 1))) 16) 4) 2) 1)))), (am_sh, am_mm U))))) ∧ (¬ ((am_ushr (am_and (am_xor x0 (-1)) (w32 (x0 - 1))) 16) ≤ 256) → ((((am_ushr (am_ushr (am_and (am_xor x0 (-1)) (w32 (x0 - 1))) 16) 8) ≤ 16 : Prop)) → ((((am_ushr (am_ushr (am_and (am_xor x0 (-1)) (w32 (x0 - 1))) 16) 8) ≤ 4 : Prop)) → R = (some (.inl (w32 ((w32 ((w32 (1 + 16)) + 8)) + (am_ushr (am_ushr (am_ushr (am_and (am_xor x0 (-1)) (w32 (x0 - 1))) 16) 8) 1)))), (am_sh, am_mm U))) ∧ (¬ ((am_ushr (am_ushr (am_and (am_xor x0 (-1)) (w32 (x0 - 1))) 16) 8) ≤ 4) → R = (some (.inl (w32 ((w32 ((w32 ((w32 (1 + 16)) + 8)) + 2)) + (am_ushr (am_ushr (am_ushr (am_ushr (am_and (am_xor x0 (-1)) (w32 (x0 - 1))) 16) 8) 2) 1)))), (am_sh, am_mm U)))) ∧ (¬ ((am_ushr (am_ushr (am_and (am_xor x0 (-1)) (w32 (x0 - 1))) 16) 8) ≤ 16) → ((((am_ushr (am_ushr (am_ushr (am_and (am_xor x0 (-1)) (w32 (x0 - 1))) 16) 8) 4) ≤ 4 : Prop)) → R = (some (.inl (w32 ((w32 ((w32 ((w32 (1 + 16)) + 8)) + 4)) + (am_ushr (am_ushr (am_ushr (am_ushr (am_and (am_xor x0 (-1)) (w32 (x0 - 1))) 16) 8) 4) 1)))), (am_sh, am_mm U))) ∧ (¬ ((am_ushr (am_ushr (am_ushr (am_and (am_xor x0 (-1)) (w32 (x0 - 1))) 16) 8) 4) ≤ 4) → R = (some (.inl (w32 ((w32 ((w32 ((w32 ((w32 (1 + 16)) + 8)) + 4)) + 2)) + (am_ushr (am_ushr (am_ushr (am_ushr (am_ushr (am_and (am_xor x0 (-1)) (w32 (x0 - 1))) 16) 8) 4) 2) 1)))), (am_sh, am_mm U))))))) ∧ (¬ (0 < (am_and (am_xor x0 (-1)) (w32 (x0 - 1)))) → R = (some (.inl (am_and (am_and (am_xor x0 (-1)) (w32 (x0 - 1))) 32)), (am_sh, am_mm U)))) : Ev (am_kz N X) (d, 314, 0, [some (.inl x0), none], [], (am_sh, am_mm U)) R := by
  refine ev_br (P := 0 < (am_and (am_xor x0 (-1)) (w32 (x0 - 1)))) (σ1 := (d, 314, 17, [some (.inl (am_and (am_xor x0 (-1)) (w32 (x0 - 1)))), none], [], (am_sh, am_mm U))) (σ2 := (d, 314, 12, [some (.inl (am_and (am_xor x0 (-1)) (w32 (x0 - 1)))), none], [], (am_sh, am_mm U))) 10 (fun _ => rfl) (fun hc => ?_) (fun hc => ?_)
  · have h1 := h.1 hc
    refine ev_br (P := (am_and (am_xor x0 (-1)) (w32 (x0 - 1))) ≤ 65536) (σ1 := (d, 314, 34, [some (.inl (am_and (am_xor x0 (-1)) (w32 (x0 - 1)))), some (.inl 1)], [], (am_sh, am_mm U))) (σ2 := (d, 314, 26, [some (.inl (am_and (am_xor x0 (-1)) (w32 (x0 - 1)))), some (.inl 1)], [], (am_sh, am_mm U))) 5 (fun _ => rfl) (fun hc => ?_) (fun hc => ?_)
    · have h11 := h1.1 hc
      refine ev_br (P := (am_and (am_xor x0 (-1)) (w32 (x0 - 1))) ≤ 256) (σ1 := (d, 314, 49, [some (.inl (am_and (am_xor x0 (-1)) (w32 (x0 - 1)))), some (.inl 1)], [], (am_sh, am_mm U))) (σ2 := (d, 314, 41, [some (.inl (am_and (am_xor x0 (-1)) (w32 (x0 - 1)))), some (.inl 1)], [], (am_sh, am_mm U))) 3 (fun _ => rfl) (fun hc => ?_) (fun hc => ?_)
      · have h111 := h11.1 hc
        refine ev_br (P := (am_and (am_xor x0 (-1)) (w32 (x0 - 1))) ≤ 16) (σ1 := (d, 314, 62, [some (.inl (am_and (am_xor x0 (-1)) (w32 (x0 - 1)))), some (.inl 1)], [], (am_sh, am_mm U))) (σ2 := (d, 314, 55, [some (.inl (am_and (am_xor x0 (-1)) (w32 (x0 - 1)))), some (.inl 1)], [], (am_sh, am_mm U))) 3 (fun _ => rfl) (fun hc => ?_) (fun hc => ?_)
        · have h1111 := h111.1 hc
          refine ev_br (P := (am_and (am_xor x0 (-1)) (w32 (x0 - 1))) ≤ 4) (σ1 := (d, 314, 74, [some (.inl (am_and (am_xor x0 (-1)) (w32 (x0 - 1)))), some (.inl 1)], [], (am_sh, am_mm U))) (σ2 := (d, 314, 67, [some (.inl (am_and (am_xor x0 (-1)) (w32 (x0 - 1)))), some (.inl 1)], [], (am_sh, am_mm U))) 3 (fun _ => rfl) (fun hc => ?_) (fun hc => ?_)
          · have h11111 := h1111.1 hc
            subst h11111
            exact ev_end 6 (fun _ => rfl)
          · have h11112 := h1111.2 hc
            subst h11112
            exact ev_end 11 (fun _ => rfl)
        · have h1112 := h111.2 hc
          refine ev_br (P := (am_ushr (am_and (am_xor x0 (-1)) (w32 (x0 - 1))) 4) ≤ 4) (σ1 := (d, 314, 74, [some (.inl (am_ushr (am_and (am_xor x0 (-1)) (w32 (x0 - 1))) 4)), some (.inl (w32 (1 + 4)))], [], (am_sh, am_mm U))) (σ2 := (d, 314, 67, [some (.inl (am_ushr (am_and (am_xor x0 (-1)) (w32 (x0 - 1))) 4)), some (.inl (w32 (1 + 4)))], [], (am_sh, am_mm U))) 8 (fun _ => rfl) (fun hc => ?_) (fun hc => ?_)
          · have h11121 := h1112.1 hc
            subst h11121
            exact ev_end 6 (fun _ => rfl)
          · have h11122 := h1112.2 hc
            subst h11122
            exact ev_end 11 (fun _ => rfl)
      · have h112 := h11.2 hc
        refine ev_br (P := (am_ushr (am_and (am_xor x0 (-1)) (w32 (x0 - 1))) 8) ≤ 16) (σ1 := (d, 314, 62, [some (.inl (am_ushr (am_and (am_xor x0 (-1)) (w32 (x0 - 1))) 8)), some (.inl (w32 (1 + 8)))], [], (am_sh, am_mm U))) (σ2 := (d, 314, 55, [some (.inl (am_ushr (am_and (am_xor x0 (-1)) (w32 (x0 - 1))) 8)), some (.inl (w32 (1 + 8)))], [], (am_sh, am_mm U))) 8 (fun _ => rfl) (fun hc => ?_) (fun hc => ?_)
        · have h1121 := h112.1 hc
          refine ev_br (P := (am_ushr (am_and (am_xor x0 (-1)) (w32 (x0 - 1))) 8) ≤ 4) (σ1 := (d, 314, 74, [some (.inl (am_ushr (am_and (am_xor x0 (-1)) (w32 (x0 - 1))) 8)), some (.inl (w32 (1 + 8)))], [], (am_sh, am_mm U))) (σ2 := (d, 314, 67, [some (.inl (am_ushr (am_and (am_xor x0 (-1)) (w32 (x0 - 1))) 8)), some (.inl (w32 (1 + 8)))], [], (am_sh, am_mm U))) 3 (fun _ => rfl) (fun hc => ?_) (fun hc => ?_)
          · have h11211 := h1121.1 hc
            subst h11211
            exact ev_end 6 (fun _ => rfl)
          · have h11212 := h1121.2 hc
            subst h11212
            exact ev_end 11 (fun _ => rfl)
        · have h1122 := h112.2 hc
          refine ev_br (P := (am_ushr (am_ushr (am_and (am_xor x0 (-1)) (w32 (x0 - 1))) 8) 4) ≤ 4) (σ1 := (d, 314, 74, [some (.inl (am_ushr (am_ushr (am_and (am_xor x0 (-1)) (w32 (x0 - 1))) 8) 4)), some (.inl (w32 ((w32 (1 + 8)) + 4)))], [], (am_sh, am_mm U))) (σ2 := (d, 314, 67, [some (.inl (am_ushr (am_ushr (am_and (am_xor x0 (-1)) (w32 (x0 - 1))) 8) 4)), some (.inl (w32 ((w32 (1 + 8)) + 4)))], [], (am_sh, am_mm U))) 8 (fun _ => rfl) (fun hc => ?_) (fun hc => ?_)
          · have h11221 := h1122.1 hc
            subst h11221
            exact ev_end 6 (fun _ => rfl)
          · have h11222 := h1122.2 hc
            subst h11222
            exact ev_end 11 (fun _ => rfl)
    · have h12 := h1.2 hc
      refine ev_br (P := (am_ushr (am_and (am_xor x0 (-1)) (w32 (x0 - 1))) 16) ≤ 256) (σ1 := (d, 314, 49, [some (.inl (am_ushr (am_and (am_xor x0 (-1)) (w32 (x0 - 1))) 16)), some (.inl (w32 (1 + 16)))], [], (am_sh, am_mm U))) (σ2 := (d, 314, 41, [some (.inl (am_ushr (am_and (am_xor x0 (-1)) (w32 (x0 - 1))) 16)), some (.inl (w32 (1 + 16)))], [], (am_sh, am_mm U))) 8 (fun _ => rfl) (fun hc => ?_) (fun hc => ?_)
      · have h121 := h12.1 hc
        refine ev_br (P := (am_ushr (am_and (am_xor x0 (-1)) (w32 (x0 - 1))) 16) ≤ 16) (σ1 := (d, 314, 62, [some (.inl (am_ushr (am_and (am_xor x0 (-1)) (w32 (x0 - 1))) 16)), some (.inl (w32 (1 + 16)))], [], (am_sh, am_mm U))) (σ2 := (d, 314, 55, [some (.inl (am_ushr (am_and (am_xor x0 (-1)) (w32 (x0 - 1))) 16)), some (.inl (w32 (1 + 16)))], [], (am_sh, am_mm U))) 3 (fun _ => rfl) (fun hc => ?_) (fun hc => ?_)
        · have h1211 := h121.1 hc
          refine ev_br (P := (am_ushr (am_and (am_xor x0 (-1)) (w32 (x0 - 1))) 16) ≤ 4) (σ1 := (d, 314, 74, [some (.inl (am_ushr (am_and (am_xor x0 (-1)) (w32 (x0 - 1))) 16)), some (.inl (w32 (1 + 16)))], [], (am_sh, am_mm U))) (σ2 := (d, 314, 67, [some (.inl (am_ushr (am_and (am_xor x0 (-1)) (w32 (x0 - 1))) 16)), some (.inl (w32 (1 + 16)))], [], (am_sh, am_mm U))) 3 (fun _ => rfl) (fun hc => ?_) (fun hc => ?_)
          · have h12111 := h1211.1 hc
            subst h12111
            exact ev_end 6 (fun _ => rfl)
          · have h12112 := h1211.2 hc
            subst h12112
            exact ev_end 11 (fun _ => rfl)
        · have h1212 := h121.2 hc
          refine ev_br (P := (am_ushr (am_ushr (am_and (am_xor x0 (-1)) (w32 (x0 - 1))) 16) 4) ≤ 4) (σ1 := (d, 314, 74, [some (.inl (am_ushr (am_ushr (am_and (am_xor x0 (-1)) (w32 (x0 - 1))) 16) 4)), some (.inl (w32 ((w32 (1 + 16)) + 4)))], [], (am_sh, am_mm U))) (σ2 := (d, 314, 67, [some (.inl (am_ushr (am_ushr (am_and (am_xor x0 (-1)) (w32 (x0 - 1))) 16) 4)), some (.inl (w32 ((w32 (1 + 16)) + 4)))], [], (am_sh, am_mm U))) 8 (fun _ => rfl) (fun hc => ?_) (fun hc => ?_)
          · have h12121 := h1212.1 hc
            subst h12121
            exact ev_end 6 (fun _ => rfl)
          · have h12122 := h1212.2 hc
            subst h12122
            exact ev_end 11 (fun _ => rfl)
      · have h122 := h12.2 hc
        refine ev_br (P := (am_ushr (am_ushr (am_and (am_xor x0 (-1)) (w32 (x0 - 1))) 16) 8) ≤ 16) (σ1 := (d, 314, 62, [some (.inl (am_ushr (am_ushr (am_and (am_xor x0 (-1)) (w32 (x0 - 1))) 16) 8)), some (.inl (w32 ((w32 (1 + 16)) + 8)))], [], (am_sh, am_mm U))) (σ2 := (d, 314, 55, [some (.inl (am_ushr (am_ushr (am_and (am_xor x0 (-1)) (w32 (x0 - 1))) 16) 8)), some (.inl (w32 ((w32 (1 + 16)) + 8)))], [], (am_sh, am_mm U))) 8 (fun _ => rfl) (fun hc => ?_) (fun hc => ?_)
        · have h1221 := h122.1 hc
          refine ev_br (P := (am_ushr (am_ushr (am_and (am_xor x0 (-1)) (w32 (x0 - 1))) 16) 8) ≤ 4) (σ1 := (d, 314, 74, [some (.inl (am_ushr (am_ushr (am_and (am_xor x0 (-1)) (w32 (x0 - 1))) 16) 8)), some (.inl (w32 ((w32 (1 + 16)) + 8)))], [], (am_sh, am_mm U))) (σ2 := (d, 314, 67, [some (.inl (am_ushr (am_ushr (am_and (am_xor x0 (-1)) (w32 (x0 - 1))) 16) 8)), some (.inl (w32 ((w32 (1 + 16)) + 8)))], [], (am_sh, am_mm U))) 3 (fun _ => rfl) (fun hc => ?_) (fun hc => ?_)
          · have h12211 := h1221.1 hc
            subst h12211
            exact ev_end 6 (fun _ => rfl)
          · have h12212 := h1221.2 hc
            subst h12212
            exact ev_end 11 (fun _ => rfl)
        · have h1222 := h122.2 hc
          refine ev_br (P := (am_ushr (am_ushr (am_ushr (am_and (am_xor x0 (-1)) (w32 (x0 - 1))) 16) 8) 4) ≤ 4) (σ1 := (d, 314, 74, [some (.inl (am_ushr (am_ushr (am_ushr (am_and (am_xor x0 (-1)) (w32 (x0 - 1))) 16) 8) 4)), some (.inl (w32 ((w32 ((w32 (1 + 16)) + 8)) + 4)))], [], (am_sh, am_mm U))) (σ2 := (d, 314, 67, [some (.inl (am_ushr (am_ushr (am_ushr (am_and (am_xor x0 (-1)) (w32 (x0 - 1))) 16) 8) 4)), some (.inl (w32 ((w32 ((w32 (1 + 16)) + 8)) + 4)))], [], (am_sh, am_mm U))) 8 (fun _ => rfl) (fun hc => ?_) (fun hc => ?_)
          · have h12221 := h1222.1 hc
            subst h12221
            exact ev_end 6 (fun _ => rfl)
          · have h12222 := h1222.2 hc
            subst h12222
            exact ev_end 11 (fun _ => rfl)
  · have h2 := h.2 hc
    subst h2
    exact ev_end 4 (fun _ => rfl)
set_option maxRecDepth 8000 in
theorem st316_52_0 (N : Nat) (X : Nat → Int) (d : Nat) (x1 x2 x3 : Int) (U : Nat → Nat → Int) (R : Option am_V × am_M) (h : Ev (am_kz N X) (d, 316, 5, [some (.inr (.inr 52)), some (.inl x1), some (.inl x2), some (.inl x3), some (.inl (w32 (x1 + 1))), none, none], [], (am_sh, am_mm U)) R) : Ev (am_kz N X) (d, 316, 0, [some (.inr (.inr 52)), some (.inl x1), some (.inl x2), some (.inl x3), none, none, none], [], (am_sh, am_mm U)) R := by
  refine ev_seg (σ1 := (d, 316, 5, [some (.inr (.inr 52)), some (.inl x1), some (.inl x2), some (.inl x3), some (.inl (w32 (x1 + 1))), none, none], [], (am_sh, am_mm U))) 4 (fun _ => rfl) ?_
  exact h
set_option maxRecDepth 8000 in
theorem st316_52_5 (N : Nat) (X : Nat → Int) (d : Nat) (x1 x2 x3 x4 : Int) (U : Nat → Nat → Int) (R : Option am_V × am_M) (h : ((((U 16 0) ≤ x4 : Prop)) → R = (some (.inl x3), (am_sh, am_mm U))) ∧ (¬ ((U 16 0) ≤ x4) → ((((am_and x3 (am_xor (am_shl 1 (w32 (x4 - (U 52 6)))) (-1))) = x3 : Prop)) → (((0 = 0 : Prop)) → Ev (am_kz N X) (d, 316, 5, [some (.inr (.inr 52)), some (.inl x1), some (.inl x2), some (.inl x3), some (.inl (w32 (x4 + 1))), some (.inl (am_and x3 (am_xor (am_shl 1 (w32 (x4 - (U 52 6)))) (-1)))), some (.inl 0)], [], (am_sh, am_mm U)) R) ∧ (¬ (0 = 0) → (((4096 ≤ x2 : Prop)) → Ev (am_kz N X) (d, 316, 5, [some (.inr (.inr 52)), some (.inl x1), some (.inl x2), some (.inl x3), some (.inl (w32 (x4 + 1))), some (.inl (am_and x3 (am_xor (am_shl 1 (w32 (x4 - (U 52 6)))) (-1)))), some (.inl 0)], [], (am_sh, am_mm U)) R) ∧ (¬ (4096 ≤ x2) → (0 ≤ (am_and x3 (am_xor (am_shl 1 (w32 (x4 - (U 52 6)))) (-1))) ∧ (am_and x3 (am_xor (am_shl 1 (w32 (x4 - (U 52 6)))) (-1))) < 4096) ∧ (0 ≤ x2 ∧ x2 < 4096) ∧ (((¬ (w32 (1 + (U 44 (am_and x3 (am_xor (am_shl 1 (w32 (x4 - (U 52 6)))) (-1))).toNat))) = (U 44 x2.toNat) : Prop)) → Ev (am_kz N X) (d, 316, 5, [some (.inr (.inr 52)), some (.inl x1), some (.inl x2), some (.inl x3), some (.inl (w32 (x4 + 1))), some (.inl (am_and x3 (am_xor (am_shl 1 (w32 (x4 - (U 52 6)))) (-1)))), some (.inl 0)], [], (am_sh, am_mm U)) R) ∧ (¬ (¬ (w32 (1 + (U 44 (am_and x3 (am_xor (am_shl 1 (w32 (x4 - (U 52 6)))) (-1))).toNat))) = (U 44 x2.toNat)) → (0 ≤ x1 ∧ x1 < 16) ∧ (0 ≤ x4 ∧ x4 < 16) ∧ R = (some (.inl (am_and x3 (am_xor (am_shl 1 (w32 (x4 - (U 52 6)))) (-1)))), (am_sh, am_mm (am_upd (am_upd U 55 x1.toNat x4) 55 x4.toNat x1))))))) ∧ (¬ ((am_and x3 (am_xor (am_shl 1 (w32 (x4 - (U 52 6)))) (-1))) = x3) → (0 ≤ x1 ∧ x1 < 16) ∧ (((¬ (am_and (am_shr (U 53 x1.toNat) x4) 1) = 1 : Prop)) → (((0 = 0 : Prop)) → Ev (am_kz N X) (d, 316, 5, [some (.inr (.inr 52)), some (.inl x1), some (.inl x2), some (.inl x3), some (.inl (w32 (x4 + 1))), some (.inl (am_and x3 (am_xor (am_shl 1 (w32 (x4 - (U 52 6)))) (-1)))), some (.inl 0)], [], (am_sh, am_mm U)) R) ∧ (¬ (0 = 0) → (((4096 ≤ x2 : Prop)) → Ev (am_kz N X) (d, 316, 5, [some (.inr (.inr 52)), some (.inl x1), some (.inl x2), some (.inl x3), some (.inl (w32 (x4 + 1))), some (.inl (am_and x3 (am_xor (am_shl 1 (w32 (x4 - (U 52 6)))) (-1)))), some (.inl 0)], [], (am_sh, am_mm U)) R) ∧ (¬ (4096 ≤ x2) → (0 ≤ (am_and x3 (am_xor (am_shl 1 (w32 (x4 - (U 52 6)))) (-1))) ∧ (am_and x3 (am_xor (am_shl 1 (w32 (x4 - (U 52 6)))) (-1))) < 4096) ∧ (0 ≤ x2 ∧ x2 < 4096) ∧ (((¬ (w32 (1 + (U 44 (am_and x3 (am_xor (am_shl 1 (w32 (x4 - (U 52 6)))) (-1))).toNat))) = (U 44 x2.toNat) : Prop)) → Ev (am_kz N X) (d, 316, 5, [some (.inr (.inr 52)), some (.inl x1), some (.inl x2), some (.inl x3), some (.inl (w32 (x4 + 1))), some (.inl (am_and x3 (am_xor (am_shl 1 (w32 (x4 - (U 52 6)))) (-1)))), some (.inl 0)], [], (am_sh, am_mm U)) R) ∧ (¬ (¬ (w32 (1 + (U 44 (am_and x3 (am_xor (am_shl 1 (w32 (x4 - (U 52 6)))) (-1))).toNat))) = (U 44 x2.toNat)) → (0 ≤ x1 ∧ x1 < 16) ∧ (0 ≤ x4 ∧ x4 < 16) ∧ R = (some (.inl (am_and x3 (am_xor (am_shl 1 (w32 (x4 - (U 52 6)))) (-1)))), (am_sh, am_mm (am_upd (am_upd U 55 x1.toNat x4) 55 x4.toNat x1))))))) ∧ (¬ (¬ (am_and (am_shr (U 53 x1.toNat) x4) 1) = 1) → (((1 = 0 : Prop)) → Ev (am_kz N X) (d, 316, 5, [some (.inr (.inr 52)), some (.inl x1), some (.inl x2), some (.inl x3), some (.inl (w32 (x4 + 1))), some (.inl (am_and x3 (am_xor (am_shl 1 (w32 (x4 - (U 52 6)))) (-1)))), some (.inl 1)], [], (am_sh, am_mm U)) R) ∧ (¬ (1 = 0) → (((4096 ≤ x2 : Prop)) → Ev (am_kz N X) (d, 316, 5, [some (.inr (.inr 52)), some (.inl x1), some (.inl x2), some (.inl x3), some (.inl (w32 (x4 + 1))), some (.inl (am_and x3 (am_xor (am_shl 1 (w32 (x4 - (U 52 6)))) (-1)))), some (.inl 1)], [], (am_sh, am_mm U)) R) ∧ (¬ (4096 ≤ x2) → (0 ≤ (am_and x3 (am_xor (am_shl 1 (w32 (x4 - (U 52 6)))) (-1))) ∧ (am_and x3 (am_xor (am_shl 1 (w32 (x4 - (U 52 6)))) (-1))) < 4096) ∧ (0 ≤ x2 ∧ x2 < 4096) ∧ (((¬ (w32 (1 + (U 44 (am_and x3 (am_xor (am_shl 1 (w32 (x4 - (U 52 6)))) (-1))).toNat))) = (U 44 x2.toNat) : Prop)) → Ev (am_kz N X) (d, 316, 5, [some (.inr (.inr 52)), some (.inl x1), some (.inl x2), some (.inl x3), some (.inl (w32 (x4 + 1))), some (.inl (am_and x3 (am_xor (am_shl 1 (w32 (x4 - (U 52 6)))) (-1)))), some (.inl 1)], [], (am_sh, am_mm U)) R) ∧ (¬ (¬ (w32 (1 + (U 44 (am_and x3 (am_xor (am_shl 1 (w32 (x4 - (U 52 6)))) (-1))).toNat))) = (U 44 x2.toNat)) → (0 ≤ x1 ∧ x1 < 16) ∧ (0 ≤ x4 ∧ x4 < 16) ∧ R = (some (.inl (am_and x3 (am_xor (am_shl 1 (w32 (x4 - (U 52 6)))) (-1)))), (am_sh, am_mm (am_upd (am_upd U 55 x1.toNat x4) 55 x4.toNat x1)))))))))) : Ev (am_kz N X) (d, 316, 5, [some (.inr (.inr 52)), some (.inl x1), some (.inl x2), some (.inl x3), some (.inl x4), none, none], [], (am_sh, am_mm U)) R := by
  refine ev_br (P := (U 16 0) ≤ x4) (σ1 := (d, 316, 117, [some (.inr (.inr 52)), some (.inl x1), some (.inl x2), some (.inl x3), some (.inl x4), none, none], [], (am_sh, am_mm U))) (σ2 := (d, 316, 17, [some (.inr (.inr 52)), some (.inl x1), some (.inl x2), some (.inl x3), some (.inl x4), none, none], [], (am_sh, am_mm U))) 5 (fun _ => rfl) (fun hc => ?_) (fun hc => ?_)
  · have h1 := h.1 hc
    subst h1
    exact ev_end 2 (fun _ => rfl)
  · have h2 := h.2 hc
    refine ev_br (P := (am_and x3 (am_xor (am_shl 1 (w32 (x4 - (U 52 6)))) (-1))) = x3) (σ1 := (d, 316, 57, [some (.inr (.inr 52)), some (.inl x1), some (.inl x2), some (.inl x3), some (.inl x4), some (.inl (am_and x3 (am_xor (am_shl 1 (w32 (x4 - (U 52 6)))) (-1)))), none], [], (am_sh, am_mm U))) (σ2 := (d, 316, 38, [some (.inr (.inr 52)), some (.inl x1), some (.inl x2), some (.inl x3), some (.inl x4), some (.inl (am_and x3 (am_xor (am_shl 1 (w32 (x4 - (U 52 6)))) (-1)))), none], [], (am_sh, am_mm U))) 14 (fun _ => rfl) (fun hc => ?_) (fun hc => ?_)
    · have h21 := h2.1 hc
      refine ev_br (P := 0 = 0) (σ1 := (d, 316, 111, [some (.inr (.inr 52)), some (.inl x1), some (.inl x2), some (.inl x3), some (.inl x4), some (.inl (am_and x3 (am_xor (am_shl 1 (w32 (x4 - (U 52 6)))) (-1)))), some (.inl 0)], [], (am_sh, am_mm U))) (σ2 := (d, 316, 65, [some (.inr (.inr 52)), some (.inl x1), some (.inl x2), some (.inl x3), some (.inl x4), some (.inl (am_and x3 (am_xor (am_shl 1 (w32 (x4 - (U 52 6)))) (-1)))), some (.inl 0)], [], (am_sh, am_mm U))) 4 (fun _ => rfl) (fun hc => ?_) (fun hc => ?_)
      · have h211 := h21.1 hc
        refine ev_seg (σ1 := (d, 316, 5, [some (.inr (.inr 52)), some (.inl x1), some (.inl x2), some (.inl x3), some (.inl (w32 (x4 + 1))), some (.inl (am_and x3 (am_xor (am_shl 1 (w32 (x4 - (U 52 6)))) (-1)))), some (.inl 0)], [], (am_sh, am_mm U))) 2 (fun _ => rfl) ?_
        exact h211
      · have h212 := h21.2 hc
        refine ev_br (P := 4096 ≤ x2) (σ1 := (d, 316, 111, [some (.inr (.inr 52)), some (.inl x1), some (.inl x2), some (.inl x3), some (.inl x4), some (.inl (am_and x3 (am_xor (am_shl 1 (w32 (x4 - (U 52 6)))) (-1)))), some (.inl 0)], [], (am_sh, am_mm U))) (σ2 := (d, 316, 74, [some (.inr (.inr 52)), some (.inl x1), some (.inl x2), some (.inl x3), some (.inl x4), some (.inl (am_and x3 (am_xor (am_shl 1 (w32 (x4 - (U 52 6)))) (-1)))), some (.inl 0)], [], (am_sh, am_mm U))) 5 (fun _ => rfl) (fun hc => ?_) (fun hc => ?_)
        · have h2121 := h212.1 hc
          refine ev_seg (σ1 := (d, 316, 5, [some (.inr (.inr 52)), some (.inl x1), some (.inl x2), some (.inl x3), some (.inl (w32 (x4 + 1))), some (.inl (am_and x3 (am_xor (am_shl 1 (w32 (x4 - (U 52 6)))) (-1)))), some (.inl 0)], [], (am_sh, am_mm U))) 2 (fun _ => rfl) ?_
          exact h2121
        · have h2122 := h212.2 hc
          refine ev_seg (σ1 := (d, 316, 81, [some (.inr (.inr 52)), some (.inl x1), some (.inl x2), some (.inl x3), some (.inl x4), some (.inl (am_and x3 (am_xor (am_shl 1 (w32 (x4 - (U 52 6)))) (-1)))), some (.inl 0)], [.inl (am_and x3 (am_xor (am_shl 1 (w32 (x4 - (U 52 6)))) (-1))), .inr (.inr 44), .inl 1], (am_sh, am_mm U))) 4 (fun _ => rfl) ?_
          refine eu_iald 44 (n := 4096) rfl (by decide) rfl (fun _ => rfl) h2122.1 ?_
          have h2122a := h2122.2
          refine ev_seg (σ1 := (d, 316, 88, [some (.inr (.inr 52)), some (.inl x1), some (.inl x2), some (.inl x3), some (.inl x4), some (.inl (am_and x3 (am_xor (am_shl 1 (w32 (x4 - (U 52 6)))) (-1)))), some (.inl 0)], [.inl x2, .inr (.inr 44), .inl (w32 (1 + (U 44 (am_and x3 (am_xor (am_shl 1 (w32 (x4 - (U 52 6)))) (-1))).toNat)))], (am_sh, am_mm U))) 4 (fun _ => rfl) ?_
          refine eu_iald 44 (n := 4096) rfl (by decide) rfl (fun _ => rfl) h2122a.1 ?_
          have h2122aa := h2122a.2
          refine ev_br (P := ¬ (w32 (1 + (U 44 (am_and x3 (am_xor (am_shl 1 (w32 (x4 - (U 52 6)))) (-1))).toNat))) = (U 44 x2.toNat)) (σ1 := (d, 316, 111, [some (.inr (.inr 52)), some (.inl x1), some (.inl x2), some (.inl x3), some (.inl x4), some (.inl (am_and x3 (am_xor (am_shl 1 (w32 (x4 - (U 52 6)))) (-1)))), some (.inl 0)], [], (am_sh, am_mm U))) (σ2 := (d, 316, 92, [some (.inr (.inr 52)), some (.inl x1), some (.inl x2), some (.inl x3), some (.inl x4), some (.inl (am_and x3 (am_xor (am_shl 1 (w32 (x4 - (U 52 6)))) (-1)))), some (.inl 0)], [], (am_sh, am_mm U))) 1 (fun _ => rfl) (fun hc => ?_) (fun hc => ?_)
          · have h2122aa1 := h2122aa.1 hc
            refine ev_seg (σ1 := (d, 316, 5, [some (.inr (.inr 52)), some (.inl x1), some (.inl x2), some (.inl x3), some (.inl (w32 (x4 + 1))), some (.inl (am_and x3 (am_xor (am_shl 1 (w32 (x4 - (U 52 6)))) (-1)))), some (.inl 0)], [], (am_sh, am_mm U))) 2 (fun _ => rfl) ?_
            exact h2122aa1
          · have h2122aa2 := h2122aa.2 hc
            refine ev_seg (σ1 := (d, 316, 99, [some (.inr (.inr 52)), some (.inl x1), some (.inl x2), some (.inl x3), some (.inl x4), some (.inl (am_and x3 (am_xor (am_shl 1 (w32 (x4 - (U 52 6)))) (-1)))), some (.inl 0)], [.inl x4, .inl x1, .inr (.inr 55)], (am_sh, am_mm U))) 4 (fun _ => rfl) ?_
            refine eu_iast 55 (n := 16) rfl (by decide) rfl (fun _ => rfl) h2122aa2.1 ?_
            have h2122aa2a := h2122aa2.2
            refine ev_seg (σ1 := (d, 316, 107, [some (.inr (.inr 52)), some (.inl x1), some (.inl x2), some (.inl x3), some (.inl x4), some (.inl (am_and x3 (am_xor (am_shl 1 (w32 (x4 - (U 52 6)))) (-1)))), some (.inl 0)], [.inl x1, .inl x4, .inr (.inr 55)], (am_sh, am_mm (am_upd U 55 x1.toNat x4)))) 4 (fun _ => rfl) ?_
            refine eu_iast 55 (n := 16) rfl (by decide) rfl (fun _ => rfl) h2122aa2a.1 ?_
            have h2122aa2aa := h2122aa2a.2
            subst h2122aa2aa
            exact ev_end 2 (fun _ => rfl)
    · have h22 := h2.2 hc
      refine ev_seg (σ1 := (d, 316, 43, [some (.inr (.inr 52)), some (.inl x1), some (.inl x2), some (.inl x3), some (.inl x4), some (.inl (am_and x3 (am_xor (am_shl 1 (w32 (x4 - (U 52 6)))) (-1)))), none], [.inl x1, .inr (.inr 53)], (am_sh, am_mm U))) 3 (fun _ => rfl) ?_
      refine eu_iald 53 (n := 16) rfl (by decide) rfl (fun _ => rfl) h22.1 ?_
      have h22a := h22.2
      refine ev_br (P := ¬ (am_and (am_shr (U 53 x1.toNat) x4) 1) = 1) (σ1 := (d, 316, 57, [some (.inr (.inr 52)), some (.inl x1), some (.inl x2), some (.inl x3), some (.inl x4), some (.inl (am_and x3 (am_xor (am_shl 1 (w32 (x4 - (U 52 6)))) (-1)))), none], [], (am_sh, am_mm U))) (σ2 := (d, 316, 53, [some (.inr (.inr 52)), some (.inl x1), some (.inl x2), some (.inl x3), some (.inl x4), some (.inl (am_and x3 (am_xor (am_shl 1 (w32 (x4 - (U 52 6)))) (-1)))), none], [], (am_sh, am_mm U))) 6 (fun _ => rfl) (fun hc => ?_) (fun hc => ?_)
      · have h22a1 := h22a.1 hc
        refine ev_br (P := 0 = 0) (σ1 := (d, 316, 111, [some (.inr (.inr 52)), some (.inl x1), some (.inl x2), some (.inl x3), some (.inl x4), some (.inl (am_and x3 (am_xor (am_shl 1 (w32 (x4 - (U 52 6)))) (-1)))), some (.inl 0)], [], (am_sh, am_mm U))) (σ2 := (d, 316, 65, [some (.inr (.inr 52)), some (.inl x1), some (.inl x2), some (.inl x3), some (.inl x4), some (.inl (am_and x3 (am_xor (am_shl 1 (w32 (x4 - (U 52 6)))) (-1)))), some (.inl 0)], [], (am_sh, am_mm U))) 4 (fun _ => rfl) (fun hc => ?_) (fun hc => ?_)
        · have h22a11 := h22a1.1 hc
          refine ev_seg (σ1 := (d, 316, 5, [some (.inr (.inr 52)), some (.inl x1), some (.inl x2), some (.inl x3), some (.inl (w32 (x4 + 1))), some (.inl (am_and x3 (am_xor (am_shl 1 (w32 (x4 - (U 52 6)))) (-1)))), some (.inl 0)], [], (am_sh, am_mm U))) 2 (fun _ => rfl) ?_
          exact h22a11
        · have h22a12 := h22a1.2 hc
          refine ev_br (P := 4096 ≤ x2) (σ1 := (d, 316, 111, [some (.inr (.inr 52)), some (.inl x1), some (.inl x2), some (.inl x3), some (.inl x4), some (.inl (am_and x3 (am_xor (am_shl 1 (w32 (x4 - (U 52 6)))) (-1)))), some (.inl 0)], [], (am_sh, am_mm U))) (σ2 := (d, 316, 74, [some (.inr (.inr 52)), some (.inl x1), some (.inl x2), some (.inl x3), some (.inl x4), some (.inl (am_and x3 (am_xor (am_shl 1 (w32 (x4 - (U 52 6)))) (-1)))), some (.inl 0)], [], (am_sh, am_mm U))) 5 (fun _ => rfl) (fun hc => ?_) (fun hc => ?_)
          · have h22a121 := h22a12.1 hc
            refine ev_seg (σ1 := (d, 316, 5, [some (.inr (.inr 52)), some (.inl x1), some (.inl x2), some (.inl x3), some (.inl (w32 (x4 + 1))), some (.inl (am_and x3 (am_xor (am_shl 1 (w32 (x4 - (U 52 6)))) (-1)))), some (.inl 0)], [], (am_sh, am_mm U))) 2 (fun _ => rfl) ?_
            exact h22a121
          · have h22a122 := h22a12.2 hc
            refine ev_seg (σ1 := (d, 316, 81, [some (.inr (.inr 52)), some (.inl x1), some (.inl x2), some (.inl x3), some (.inl x4), some (.inl (am_and x3 (am_xor (am_shl 1 (w32 (x4 - (U 52 6)))) (-1)))), some (.inl 0)], [.inl (am_and x3 (am_xor (am_shl 1 (w32 (x4 - (U 52 6)))) (-1))), .inr (.inr 44), .inl 1], (am_sh, am_mm U))) 4 (fun _ => rfl) ?_
            refine eu_iald 44 (n := 4096) rfl (by decide) rfl (fun _ => rfl) h22a122.1 ?_
            have h22a122a := h22a122.2
            refine ev_seg (σ1 := (d, 316, 88, [some (.inr (.inr 52)), some (.inl x1), some (.inl x2), some (.inl x3), some (.inl x4), some (.inl (am_and x3 (am_xor (am_shl 1 (w32 (x4 - (U 52 6)))) (-1)))), some (.inl 0)], [.inl x2, .inr (.inr 44), .inl (w32 (1 + (U 44 (am_and x3 (am_xor (am_shl 1 (w32 (x4 - (U 52 6)))) (-1))).toNat)))], (am_sh, am_mm U))) 4 (fun _ => rfl) ?_
            refine eu_iald 44 (n := 4096) rfl (by decide) rfl (fun _ => rfl) h22a122a.1 ?_
            have h22a122aa := h22a122a.2
            refine ev_br (P := ¬ (w32 (1 + (U 44 (am_and x3 (am_xor (am_shl 1 (w32 (x4 - (U 52 6)))) (-1))).toNat))) = (U 44 x2.toNat)) (σ1 := (d, 316, 111, [some (.inr (.inr 52)), some (.inl x1), some (.inl x2), some (.inl x3), some (.inl x4), some (.inl (am_and x3 (am_xor (am_shl 1 (w32 (x4 - (U 52 6)))) (-1)))), some (.inl 0)], [], (am_sh, am_mm U))) (σ2 := (d, 316, 92, [some (.inr (.inr 52)), some (.inl x1), some (.inl x2), some (.inl x3), some (.inl x4), some (.inl (am_and x3 (am_xor (am_shl 1 (w32 (x4 - (U 52 6)))) (-1)))), some (.inl 0)], [], (am_sh, am_mm U))) 1 (fun _ => rfl) (fun hc => ?_) (fun hc => ?_)
            · have h22a122aa1 := h22a122aa.1 hc
              refine ev_seg (σ1 := (d, 316, 5, [some (.inr (.inr 52)), some (.inl x1), some (.inl x2), some (.inl x3), some (.inl (w32 (x4 + 1))), some (.inl (am_and x3 (am_xor (am_shl 1 (w32 (x4 - (U 52 6)))) (-1)))), some (.inl 0)], [], (am_sh, am_mm U))) 2 (fun _ => rfl) ?_
              exact h22a122aa1
            · have h22a122aa2 := h22a122aa.2 hc
              refine ev_seg (σ1 := (d, 316, 99, [some (.inr (.inr 52)), some (.inl x1), some (.inl x2), some (.inl x3), some (.inl x4), some (.inl (am_and x3 (am_xor (am_shl 1 (w32 (x4 - (U 52 6)))) (-1)))), some (.inl 0)], [.inl x4, .inl x1, .inr (.inr 55)], (am_sh, am_mm U))) 4 (fun _ => rfl) ?_
              refine eu_iast 55 (n := 16) rfl (by decide) rfl (fun _ => rfl) h22a122aa2.1 ?_
              have h22a122aa2a := h22a122aa2.2
              refine ev_seg (σ1 := (d, 316, 107, [some (.inr (.inr 52)), some (.inl x1), some (.inl x2), some (.inl x3), some (.inl x4), some (.inl (am_and x3 (am_xor (am_shl 1 (w32 (x4 - (U 52 6)))) (-1)))), some (.inl 0)], [.inl x1, .inl x4, .inr (.inr 55)], (am_sh, am_mm (am_upd U 55 x1.toNat x4)))) 4 (fun _ => rfl) ?_
              refine eu_iast 55 (n := 16) rfl (by decide) rfl (fun _ => rfl) h22a122aa2a.1 ?_
              have h22a122aa2aa := h22a122aa2a.2
              subst h22a122aa2aa
              exact ev_end 2 (fun _ => rfl)
      · have h22a2 := h22a.2 hc
        refine ev_br (P := 1 = 0) (σ1 := (d, 316, 111, [some (.inr (.inr 52)), some (.inl x1), some (.inl x2), some (.inl x3), some (.inl x4), some (.inl (am_and x3 (am_xor (am_shl 1 (w32 (x4 - (U 52 6)))) (-1)))), some (.inl 1)], [], (am_sh, am_mm U))) (σ2 := (d, 316, 65, [some (.inr (.inr 52)), some (.inl x1), some (.inl x2), some (.inl x3), some (.inl x4), some (.inl (am_and x3 (am_xor (am_shl 1 (w32 (x4 - (U 52 6)))) (-1)))), some (.inl 1)], [], (am_sh, am_mm U))) 5 (fun _ => rfl) (fun hc => ?_) (fun hc => ?_)
        · have h22a21 := h22a2.1 hc
          refine ev_seg (σ1 := (d, 316, 5, [some (.inr (.inr 52)), some (.inl x1), some (.inl x2), some (.inl x3), some (.inl (w32 (x4 + 1))), some (.inl (am_and x3 (am_xor (am_shl 1 (w32 (x4 - (U 52 6)))) (-1)))), some (.inl 1)], [], (am_sh, am_mm U))) 2 (fun _ => rfl) ?_
          exact h22a21
        · have h22a22 := h22a2.2 hc
          refine ev_br (P := 4096 ≤ x2) (σ1 := (d, 316, 111, [some (.inr (.inr 52)), some (.inl x1), some (.inl x2), some (.inl x3), some (.inl x4), some (.inl (am_and x3 (am_xor (am_shl 1 (w32 (x4 - (U 52 6)))) (-1)))), some (.inl 1)], [], (am_sh, am_mm U))) (σ2 := (d, 316, 74, [some (.inr (.inr 52)), some (.inl x1), some (.inl x2), some (.inl x3), some (.inl x4), some (.inl (am_and x3 (am_xor (am_shl 1 (w32 (x4 - (U 52 6)))) (-1)))), some (.inl 1)], [], (am_sh, am_mm U))) 5 (fun _ => rfl) (fun hc => ?_) (fun hc => ?_)
          · have h22a221 := h22a22.1 hc
            refine ev_seg (σ1 := (d, 316, 5, [some (.inr (.inr 52)), some (.inl x1), some (.inl x2), some (.inl x3), some (.inl (w32 (x4 + 1))), some (.inl (am_and x3 (am_xor (am_shl 1 (w32 (x4 - (U 52 6)))) (-1)))), some (.inl 1)], [], (am_sh, am_mm U))) 2 (fun _ => rfl) ?_
            exact h22a221
          · have h22a222 := h22a22.2 hc
            refine ev_seg (σ1 := (d, 316, 81, [some (.inr (.inr 52)), some (.inl x1), some (.inl x2), some (.inl x3), some (.inl x4), some (.inl (am_and x3 (am_xor (am_shl 1 (w32 (x4 - (U 52 6)))) (-1)))), some (.inl 1)], [.inl (am_and x3 (am_xor (am_shl 1 (w32 (x4 - (U 52 6)))) (-1))), .inr (.inr 44), .inl 1], (am_sh, am_mm U))) 4 (fun _ => rfl) ?_
            refine eu_iald 44 (n := 4096) rfl (by decide) rfl (fun _ => rfl) h22a222.1 ?_
            have h22a222a := h22a222.2
            refine ev_seg (σ1 := (d, 316, 88, [some (.inr (.inr 52)), some (.inl x1), some (.inl x2), some (.inl x3), some (.inl x4), some (.inl (am_and x3 (am_xor (am_shl 1 (w32 (x4 - (U 52 6)))) (-1)))), some (.inl 1)], [.inl x2, .inr (.inr 44), .inl (w32 (1 + (U 44 (am_and x3 (am_xor (am_shl 1 (w32 (x4 - (U 52 6)))) (-1))).toNat)))], (am_sh, am_mm U))) 4 (fun _ => rfl) ?_
            refine eu_iald 44 (n := 4096) rfl (by decide) rfl (fun _ => rfl) h22a222a.1 ?_
            have h22a222aa := h22a222a.2
            refine ev_br (P := ¬ (w32 (1 + (U 44 (am_and x3 (am_xor (am_shl 1 (w32 (x4 - (U 52 6)))) (-1))).toNat))) = (U 44 x2.toNat)) (σ1 := (d, 316, 111, [some (.inr (.inr 52)), some (.inl x1), some (.inl x2), some (.inl x3), some (.inl x4), some (.inl (am_and x3 (am_xor (am_shl 1 (w32 (x4 - (U 52 6)))) (-1)))), some (.inl 1)], [], (am_sh, am_mm U))) (σ2 := (d, 316, 92, [some (.inr (.inr 52)), some (.inl x1), some (.inl x2), some (.inl x3), some (.inl x4), some (.inl (am_and x3 (am_xor (am_shl 1 (w32 (x4 - (U 52 6)))) (-1)))), some (.inl 1)], [], (am_sh, am_mm U))) 1 (fun _ => rfl) (fun hc => ?_) (fun hc => ?_)
            · have h22a222aa1 := h22a222aa.1 hc
              refine ev_seg (σ1 := (d, 316, 5, [some (.inr (.inr 52)), some (.inl x1), some (.inl x2), some (.inl x3), some (.inl (w32 (x4 + 1))), some (.inl (am_and x3 (am_xor (am_shl 1 (w32 (x4 - (U 52 6)))) (-1)))), some (.inl 1)], [], (am_sh, am_mm U))) 2 (fun _ => rfl) ?_
              exact h22a222aa1
            · have h22a222aa2 := h22a222aa.2 hc
              refine ev_seg (σ1 := (d, 316, 99, [some (.inr (.inr 52)), some (.inl x1), some (.inl x2), some (.inl x3), some (.inl x4), some (.inl (am_and x3 (am_xor (am_shl 1 (w32 (x4 - (U 52 6)))) (-1)))), some (.inl 1)], [.inl x4, .inl x1, .inr (.inr 55)], (am_sh, am_mm U))) 4 (fun _ => rfl) ?_
              refine eu_iast 55 (n := 16) rfl (by decide) rfl (fun _ => rfl) h22a222aa2.1 ?_
              have h22a222aa2a := h22a222aa2.2
              refine ev_seg (σ1 := (d, 316, 107, [some (.inr (.inr 52)), some (.inl x1), some (.inl x2), some (.inl x3), some (.inl x4), some (.inl (am_and x3 (am_xor (am_shl 1 (w32 (x4 - (U 52 6)))) (-1)))), some (.inl 1)], [.inl x1, .inl x4, .inr (.inr 55)], (am_sh, am_mm (am_upd U 55 x1.toNat x4)))) 4 (fun _ => rfl) ?_
              refine eu_iast 55 (n := 16) rfl (by decide) rfl (fun _ => rfl) h22a222aa2a.1 ?_
              have h22a222aa2aa := h22a222aa2a.2
              subst h22a222aa2aa
              exact ev_end 2 (fun _ => rfl)
set_option maxRecDepth 8000 in
theorem st211_53_0 (N : Nat) (X : Nat → Int) (d : Nat) (x1 : Int) (U : Nat → Nat → Int) (R : Option am_V × am_M) (h : Ev (am_kz N X) (d, 211, 5, [some (.inr (.inr 53)), some (.inl x1), some (.inl 0), some (.inl 16)], [], (am_sh, am_mm U)) R) : Ev (am_kz N X) (d, 211, 0, [some (.inr (.inr 53)), some (.inl x1), none, none], [], (am_sh, am_mm U)) R := by
  refine ev_seg (σ1 := (d, 211, 5, [some (.inr (.inr 53)), some (.inl x1), some (.inl 0), some (.inl 16)], [], (am_sh, am_mm U))) 5 (fun _ => rfl) ?_
  exact h
set_option maxRecDepth 8000 in
theorem st211_53_5 (N : Nat) (X : Nat → Int) (d : Nat) (x1 x2 x3 : Int) (U : Nat → Nat → Int) (R : Option am_V × am_M) (h : (((x3 ≤ x2 : Prop)) → R = (none, (am_sh, am_mm U))) ∧ (¬ (x3 ≤ x2) → (0 ≤ x2 ∧ x2 < 16) ∧ Ev (am_kz N X) (d, 211, 5, [some (.inr (.inr 53)), some (.inl x1), some (.inl (w32 (x2 + 1))), some (.inl x3)], [], (am_sh, am_mm (am_upd U 53 x2.toNat x1))) R)) : Ev (am_kz N X) (d, 211, 5, [some (.inr (.inr 53)), some (.inl x1), some (.inl x2), some (.inl x3)], [], (am_sh, am_mm U)) R := by
  refine ev_br (P := x3 ≤ x2) (σ1 := (d, 211, 20, [some (.inr (.inr 53)), some (.inl x1), some (.inl x2), some (.inl x3)], [], (am_sh, am_mm U))) (σ2 := (d, 211, 10, [some (.inr (.inr 53)), some (.inl x1), some (.inl x2), some (.inl x3)], [], (am_sh, am_mm U))) 3 (fun _ => rfl) (fun hc => ?_) (fun hc => ?_)
  · have h1 := h.1 hc
    subst h1
    exact ev_end 1 (fun _ => rfl)
  · have h2 := h.2 hc
    refine ev_seg (σ1 := (d, 211, 13, [some (.inr (.inr 53)), some (.inl x1), some (.inl x2), some (.inl x3)], [.inl x1, .inl x2, .inr (.inr 53)], (am_sh, am_mm U))) 3 (fun _ => rfl) ?_
    refine eu_iast 53 (n := 16) rfl (by decide) rfl (fun _ => rfl) h2.1 ?_
    have h2a := h2.2
    refine ev_seg (σ1 := (d, 211, 5, [some (.inr (.inr 53)), some (.inl x1), some (.inl (w32 (x2 + 1))), some (.inl x3)], [], (am_sh, am_mm (am_upd U 53 x2.toNat x1)))) 2 (fun _ => rfl) ?_
    exact h2a
set_option maxRecDepth 8000 in
theorem st138_21_0 (N : Nat) (X : Nat → Int) (d : Nat) (x1 x2 : Int) (U : Nat → Nat → Int) (R : Option am_V × am_M) (h : (((x1 < 0 : Prop)) → R = (none, (am_sh, am_mm U))) ∧ (¬ (x1 < 0) → (((x1 < 16 : Prop)) → (0 ≤ x1 ∧ x1 < 16) ∧ ((((U 23 x1.toNat) < 0 : Prop)) → (0 ≤ x1 ∧ x1 < 16) ∧ (((x2 < 0 : Prop)) → R = (none, (am_sh, am_mm (am_upd U 23 x1.toNat (-1))))) ∧ (¬ (x2 < 0) → (((12 ≤ x2 : Prop)) → R = (none, (am_sh, am_mm (am_upd U 23 x1.toNat (-1))))) ∧ (¬ (12 ≤ x2) → (0 ≤ x1 ∧ x1 < 16) ∧ (0 ≤ x2 ∧ x2 < 12) ∧ (0 ≤ x2 ∧ x2 < 12) ∧ R = (none, (am_sh, am_mm (am_upd (am_upd (am_upd U 23 x1.toNat (-1)) 23 x1.toNat x2) 24 x2.toNat (am_or ((am_upd (am_upd U 23 x1.toNat (-1)) 23 x1.toNat x2) 24 x2.toNat) (am_shl 1 x1)))))))) ∧ (¬ ((U 23 x1.toNat) < 0) → (((12 ≤ (U 23 x1.toNat) : Prop)) → (0 ≤ x1 ∧ x1 < 16) ∧ (((x2 < 0 : Prop)) → R = (none, (am_sh, am_mm (am_upd U 23 x1.toNat (-1))))) ∧ (¬ (x2 < 0) → (((12 ≤ x2 : Prop)) → R = (none, (am_sh, am_mm (am_upd U 23 x1.toNat (-1))))) ∧ (¬ (12 ≤ x2) → (0 ≤ x1 ∧ x1 < 16) ∧ (0 ≤ x2 ∧ x2 < 12) ∧ (0 ≤ x2 ∧ x2 < 12) ∧ R = (none, (am_sh, am_mm (am_upd (am_upd (am_upd U 23 x1.toNat (-1)) 23 x1.toNat x2) 24 x2.toNat (am_or ((am_upd (am_upd U 23 x1.toNat (-1)) 23 x1.toNat x2) 24 x2.toNat) (am_shl 1 x1)))))))) ∧ (¬ (12 ≤ (U 23 x1.toNat)) → (0 ≤ (U 23 x1.toNat) ∧ (U 23 x1.toNat) < 12) ∧ (0 ≤ (U 23 x1.toNat) ∧ (U 23 x1.toNat) < 12) ∧ (0 ≤ x1 ∧ x1 < 16) ∧ (((x2 < 0 : Prop)) → R = (none, (am_sh, am_mm (am_upd (am_upd U 24 (U 23 x1.toNat).toNat (am_and (U 24 (U 23 x1.toNat).toNat) (am_xor (am_shl 1 x1) (-1)))) 23 x1.toNat (-1))))) ∧ (¬ (x2 < 0) → (((12 ≤ x2 : Prop)) → R = (none, (am_sh, am_mm (am_upd (am_upd U 24 (U 23 x1.toNat).toNat (am_and (U 24 (U 23 x1.toNat).toNat) (am_xor (am_shl 1 x1) (-1)))) 23 x1.toNat (-1))))) ∧ (¬ (12 ≤ x2) → (0 ≤ x1 ∧ x1 < 16) ∧ (0 ≤ x2 ∧ x2 < 12) ∧ (0 ≤ x2 ∧ x2 < 12) ∧ R = (none, (am_sh, am_mm (am_upd (am_upd (am_upd (am_upd U 24 (U 23 x1.toNat).toNat (am_and (U 24 (U 23 x1.toNat).toNat) (am_xor (am_shl 1 x1) (-1)))) 23 x1.toNat (-1)) 23 x1.toNat x2) 24 x2.toNat (am_or ((am_upd (am_upd (am_upd U 24 (U 23 x1.toNat).toNat (am_and (U 24 (U 23 x1.toNat).toNat) (am_xor (am_shl 1 x1) (-1)))) 23 x1.toNat (-1)) 23 x1.toNat x2) 24 x2.toNat) (am_shl 1 x1)))))))))) ∧ (¬ (x1 < 16) → R = (none, (am_sh, am_mm U))))) : Ev (am_kz N X) (d, 138, 0, [some (.inr (.inr 21)), some (.inl x1), some (.inl x2), none], [], (am_sh, am_mm U)) R := by
  refine ev_br (P := x1 < 0) (σ1 := (d, 138, 10, [some (.inr (.inr 21)), some (.inl x1), some (.inl x2), none], [], (am_sh, am_mm U))) (σ2 := (d, 138, 4, [some (.inr (.inr 21)), some (.inl x1), some (.inl x2), none], [], (am_sh, am_mm U))) 2 (fun _ => rfl) (fun hc => ?_) (fun hc => ?_)
  · have h1 := h.1 hc
    subst h1
    exact ev_end 1 (fun _ => rfl)
  · have h2 := h.2 hc
    refine ev_br (P := x1 < 16) (σ1 := (d, 138, 11, [some (.inr (.inr 21)), some (.inl x1), some (.inl x2), none], [], (am_sh, am_mm U))) (σ2 := (d, 138, 10, [some (.inr (.inr 21)), some (.inl x1), some (.inl x2), none], [], (am_sh, am_mm U))) 3 (fun _ => rfl) (fun hc => ?_) (fun hc => ?_)
    · have h21 := h2.1 hc
      refine ev_seg (σ1 := (d, 138, 16, [some (.inr (.inr 21)), some (.inl x1), some (.inl x2), none], [.inl x1, .inr (.inr 23)], (am_sh, am_mm U))) 3 (fun _ => rfl) ?_
      refine eu_iald 23 (n := 16) rfl (by decide) rfl (fun _ => rfl) h21.1 ?_
      have h21a := h21.2
      refine ev_br (P := (U 23 x1.toNat) < 0) (σ1 := (d, 138, 42, [some (.inr (.inr 21)), some (.inl x1), some (.inl x2), some (.inl (U 23 x1.toNat))], [], (am_sh, am_mm U))) (σ2 := (d, 138, 22, [some (.inr (.inr 21)), some (.inl x1), some (.inl x2), some (.inl (U 23 x1.toNat))], [], (am_sh, am_mm U))) 3 (fun _ => rfl) (fun hc => ?_) (fun hc => ?_)
      · have h21a1 := h21a.1 hc
        refine ev_seg (σ1 := (d, 138, 48, [some (.inr (.inr 21)), some (.inl x1), some (.inl x2), some (.inl (U 23 x1.toNat))], [.inl (-1), .inl x1, .inr (.inr 23)], (am_sh, am_mm U))) 4 (fun _ => rfl) ?_
        refine eu_iast 23 (n := 16) rfl (by decide) rfl (fun _ => rfl) h21a1.1 ?_
        have h21a1a := h21a1.2
        refine ev_br (P := x2 < 0) (σ1 := (d, 138, 78, [some (.inr (.inr 21)), some (.inl x1), some (.inl x2), some (.inl (U 23 x1.toNat))], [], (am_sh, am_mm (am_upd U 23 x1.toNat (-1))))) (σ2 := (d, 138, 53, [some (.inr (.inr 21)), some (.inl x1), some (.inl x2), some (.inl (U 23 x1.toNat))], [], (am_sh, am_mm (am_upd U 23 x1.toNat (-1))))) 2 (fun _ => rfl) (fun hc => ?_) (fun hc => ?_)
        · have h21a1a1 := h21a1a.1 hc
          subst h21a1a1
          exact ev_end 1 (fun _ => rfl)
        · have h21a1a2 := h21a1a.2 hc
          refine ev_br (P := 12 ≤ x2) (σ1 := (d, 138, 78, [some (.inr (.inr 21)), some (.inl x1), some (.inl x2), some (.inl (U 23 x1.toNat))], [], (am_sh, am_mm (am_upd U 23 x1.toNat (-1))))) (σ2 := (d, 138, 59, [some (.inr (.inr 21)), some (.inl x1), some (.inl x2), some (.inl (U 23 x1.toNat))], [], (am_sh, am_mm (am_upd U 23 x1.toNat (-1))))) 3 (fun _ => rfl) (fun hc => ?_) (fun hc => ?_)
          · have h21a1a21 := h21a1a2.1 hc
            subst h21a1a21
            exact ev_end 1 (fun _ => rfl)
          · have h21a1a22 := h21a1a2.2 hc
            refine ev_seg (σ1 := (d, 138, 65, [some (.inr (.inr 21)), some (.inl x1), some (.inl x2), some (.inl (U 23 x1.toNat))], [.inl x2, .inl x1, .inr (.inr 23)], (am_sh, am_mm (am_upd U 23 x1.toNat (-1))))) 4 (fun _ => rfl) ?_
            refine eu_iast 23 (n := 16) rfl (by decide) rfl (fun _ => rfl) h21a1a22.1 ?_
            have h21a1a22a := h21a1a22.2
            refine ev_seg (σ1 := (d, 138, 72, [some (.inr (.inr 21)), some (.inl x1), some (.inl x2), some (.inl (U 23 x1.toNat))], [.inl x2, .inr (.inr 24), .inl x2, .inr (.inr 24)], (am_sh, am_mm (am_upd (am_upd U 23 x1.toNat (-1)) 23 x1.toNat x2)))) 4 (fun _ => rfl) ?_
            refine eu_iald 24 (n := 12) rfl (by decide) rfl (fun _ => rfl) h21a1a22a.1 ?_
            have h21a1a22aa := h21a1a22a.2
            refine ev_seg (σ1 := (d, 138, 77, [some (.inr (.inr 21)), some (.inl x1), some (.inl x2), some (.inl (U 23 x1.toNat))], [.inl (am_or ((am_upd (am_upd U 23 x1.toNat (-1)) 23 x1.toNat x2) 24 x2.toNat) (am_shl 1 x1)), .inl x2, .inr (.inr 24)], (am_sh, am_mm (am_upd (am_upd U 23 x1.toNat (-1)) 23 x1.toNat x2)))) 4 (fun _ => rfl) ?_
            refine eu_iast 24 (n := 12) rfl (by decide) rfl (fun _ => rfl) h21a1a22aa.1 ?_
            have h21a1a22aaa := h21a1a22aa.2
            subst h21a1a22aaa
            exact ev_end 1 (fun _ => rfl)
      · have h21a2 := h21a.2 hc
        refine ev_br (P := 12 ≤ (U 23 x1.toNat)) (σ1 := (d, 138, 42, [some (.inr (.inr 21)), some (.inl x1), some (.inl x2), some (.inl (U 23 x1.toNat))], [], (am_sh, am_mm U))) (σ2 := (d, 138, 28, [some (.inr (.inr 21)), some (.inl x1), some (.inl x2), some (.inl (U 23 x1.toNat))], [], (am_sh, am_mm U))) 3 (fun _ => rfl) (fun hc => ?_) (fun hc => ?_)
        · have h21a21 := h21a2.1 hc
          refine ev_seg (σ1 := (d, 138, 48, [some (.inr (.inr 21)), some (.inl x1), some (.inl x2), some (.inl (U 23 x1.toNat))], [.inl (-1), .inl x1, .inr (.inr 23)], (am_sh, am_mm U))) 4 (fun _ => rfl) ?_
          refine eu_iast 23 (n := 16) rfl (by decide) rfl (fun _ => rfl) h21a21.1 ?_
          have h21a21a := h21a21.2
          refine ev_br (P := x2 < 0) (σ1 := (d, 138, 78, [some (.inr (.inr 21)), some (.inl x1), some (.inl x2), some (.inl (U 23 x1.toNat))], [], (am_sh, am_mm (am_upd U 23 x1.toNat (-1))))) (σ2 := (d, 138, 53, [some (.inr (.inr 21)), some (.inl x1), some (.inl x2), some (.inl (U 23 x1.toNat))], [], (am_sh, am_mm (am_upd U 23 x1.toNat (-1))))) 2 (fun _ => rfl) (fun hc => ?_) (fun hc => ?_)
          · have h21a21a1 := h21a21a.1 hc
            subst h21a21a1
            exact ev_end 1 (fun _ => rfl)
          · have h21a21a2 := h21a21a.2 hc
            refine ev_br (P := 12 ≤ x2) (σ1 := (d, 138, 78, [some (.inr (.inr 21)), some (.inl x1), some (.inl x2), some (.inl (U 23 x1.toNat))], [], (am_sh, am_mm (am_upd U 23 x1.toNat (-1))))) (σ2 := (d, 138, 59, [some (.inr (.inr 21)), some (.inl x1), some (.inl x2), some (.inl (U 23 x1.toNat))], [], (am_sh, am_mm (am_upd U 23 x1.toNat (-1))))) 3 (fun _ => rfl) (fun hc => ?_) (fun hc => ?_)
            · have h21a21a21 := h21a21a2.1 hc
              subst h21a21a21
              exact ev_end 1 (fun _ => rfl)
            · have h21a21a22 := h21a21a2.2 hc
              refine ev_seg (σ1 := (d, 138, 65, [some (.inr (.inr 21)), some (.inl x1), some (.inl x2), some (.inl (U 23 x1.toNat))], [.inl x2, .inl x1, .inr (.inr 23)], (am_sh, am_mm (am_upd U 23 x1.toNat (-1))))) 4 (fun _ => rfl) ?_
              refine eu_iast 23 (n := 16) rfl (by decide) rfl (fun _ => rfl) h21a21a22.1 ?_
              have h21a21a22a := h21a21a22.2
              refine ev_seg (σ1 := (d, 138, 72, [some (.inr (.inr 21)), some (.inl x1), some (.inl x2), some (.inl (U 23 x1.toNat))], [.inl x2, .inr (.inr 24), .inl x2, .inr (.inr 24)], (am_sh, am_mm (am_upd (am_upd U 23 x1.toNat (-1)) 23 x1.toNat x2)))) 4 (fun _ => rfl) ?_
              refine eu_iald 24 (n := 12) rfl (by decide) rfl (fun _ => rfl) h21a21a22a.1 ?_
              have h21a21a22aa := h21a21a22a.2
              refine ev_seg (σ1 := (d, 138, 77, [some (.inr (.inr 21)), some (.inl x1), some (.inl x2), some (.inl (U 23 x1.toNat))], [.inl (am_or ((am_upd (am_upd U 23 x1.toNat (-1)) 23 x1.toNat x2) 24 x2.toNat) (am_shl 1 x1)), .inl x2, .inr (.inr 24)], (am_sh, am_mm (am_upd (am_upd U 23 x1.toNat (-1)) 23 x1.toNat x2)))) 4 (fun _ => rfl) ?_
              refine eu_iast 24 (n := 12) rfl (by decide) rfl (fun _ => rfl) h21a21a22aa.1 ?_
              have h21a21a22aaa := h21a21a22aa.2
              subst h21a21a22aaa
              exact ev_end 1 (fun _ => rfl)
        · have h21a22 := h21a2.2 hc
          refine ev_seg (σ1 := (d, 138, 34, [some (.inr (.inr 21)), some (.inl x1), some (.inl x2), some (.inl (U 23 x1.toNat))], [.inl (U 23 x1.toNat), .inr (.inr 24), .inl (U 23 x1.toNat), .inr (.inr 24)], (am_sh, am_mm U))) 4 (fun _ => rfl) ?_
          refine eu_iald 24 (n := 12) rfl (by decide) rfl (fun _ => rfl) h21a22.1 ?_
          have h21a22a := h21a22.2
          refine ev_seg (σ1 := (d, 138, 41, [some (.inr (.inr 21)), some (.inl x1), some (.inl x2), some (.inl (U 23 x1.toNat))], [.inl (am_and (U 24 (U 23 x1.toNat).toNat) (am_xor (am_shl 1 x1) (-1))), .inl (U 23 x1.toNat), .inr (.inr 24)], (am_sh, am_mm U))) 6 (fun _ => rfl) ?_
          refine eu_iast 24 (n := 12) rfl (by decide) rfl (fun _ => rfl) h21a22a.1 ?_
          have h21a22aa := h21a22a.2
          refine ev_seg (σ1 := (d, 138, 48, [some (.inr (.inr 21)), some (.inl x1), some (.inl x2), some (.inl (U 23 x1.toNat))], [.inl (-1), .inl x1, .inr (.inr 23)], (am_sh, am_mm (am_upd U 24 (U 23 x1.toNat).toNat (am_and (U 24 (U 23 x1.toNat).toNat) (am_xor (am_shl 1 x1) (-1))))))) 4 (fun _ => rfl) ?_
          refine eu_iast 23 (n := 16) rfl (by decide) rfl (fun _ => rfl) h21a22aa.1 ?_
          have h21a22aaa := h21a22aa.2
          refine ev_br (P := x2 < 0) (σ1 := (d, 138, 78, [some (.inr (.inr 21)), some (.inl x1), some (.inl x2), some (.inl (U 23 x1.toNat))], [], (am_sh, am_mm (am_upd (am_upd U 24 (U 23 x1.toNat).toNat (am_and (U 24 (U 23 x1.toNat).toNat) (am_xor (am_shl 1 x1) (-1)))) 23 x1.toNat (-1))))) (σ2 := (d, 138, 53, [some (.inr (.inr 21)), some (.inl x1), some (.inl x2), some (.inl (U 23 x1.toNat))], [], (am_sh, am_mm (am_upd (am_upd U 24 (U 23 x1.toNat).toNat (am_and (U 24 (U 23 x1.toNat).toNat) (am_xor (am_shl 1 x1) (-1)))) 23 x1.toNat (-1))))) 2 (fun _ => rfl) (fun hc => ?_) (fun hc => ?_)
          · have h21a22aaa1 := h21a22aaa.1 hc
            subst h21a22aaa1
            exact ev_end 1 (fun _ => rfl)
          · have h21a22aaa2 := h21a22aaa.2 hc
            refine ev_br (P := 12 ≤ x2) (σ1 := (d, 138, 78, [some (.inr (.inr 21)), some (.inl x1), some (.inl x2), some (.inl (U 23 x1.toNat))], [], (am_sh, am_mm (am_upd (am_upd U 24 (U 23 x1.toNat).toNat (am_and (U 24 (U 23 x1.toNat).toNat) (am_xor (am_shl 1 x1) (-1)))) 23 x1.toNat (-1))))) (σ2 := (d, 138, 59, [some (.inr (.inr 21)), some (.inl x1), some (.inl x2), some (.inl (U 23 x1.toNat))], [], (am_sh, am_mm (am_upd (am_upd U 24 (U 23 x1.toNat).toNat (am_and (U 24 (U 23 x1.toNat).toNat) (am_xor (am_shl 1 x1) (-1)))) 23 x1.toNat (-1))))) 3 (fun _ => rfl) (fun hc => ?_) (fun hc => ?_)
            · have h21a22aaa21 := h21a22aaa2.1 hc
              subst h21a22aaa21
              exact ev_end 1 (fun _ => rfl)
            · have h21a22aaa22 := h21a22aaa2.2 hc
              refine ev_seg (σ1 := (d, 138, 65, [some (.inr (.inr 21)), some (.inl x1), some (.inl x2), some (.inl (U 23 x1.toNat))], [.inl x2, .inl x1, .inr (.inr 23)], (am_sh, am_mm (am_upd (am_upd U 24 (U 23 x1.toNat).toNat (am_and (U 24 (U 23 x1.toNat).toNat) (am_xor (am_shl 1 x1) (-1)))) 23 x1.toNat (-1))))) 4 (fun _ => rfl) ?_
              refine eu_iast 23 (n := 16) rfl (by decide) rfl (fun _ => rfl) h21a22aaa22.1 ?_
              have h21a22aaa22a := h21a22aaa22.2
              refine ev_seg (σ1 := (d, 138, 72, [some (.inr (.inr 21)), some (.inl x1), some (.inl x2), some (.inl (U 23 x1.toNat))], [.inl x2, .inr (.inr 24), .inl x2, .inr (.inr 24)], (am_sh, am_mm (am_upd (am_upd (am_upd U 24 (U 23 x1.toNat).toNat (am_and (U 24 (U 23 x1.toNat).toNat) (am_xor (am_shl 1 x1) (-1)))) 23 x1.toNat (-1)) 23 x1.toNat x2)))) 4 (fun _ => rfl) ?_
              refine eu_iald 24 (n := 12) rfl (by decide) rfl (fun _ => rfl) h21a22aaa22a.1 ?_
              have h21a22aaa22aa := h21a22aaa22a.2
              refine ev_seg (σ1 := (d, 138, 77, [some (.inr (.inr 21)), some (.inl x1), some (.inl x2), some (.inl (U 23 x1.toNat))], [.inl (am_or ((am_upd (am_upd (am_upd U 24 (U 23 x1.toNat).toNat (am_and (U 24 (U 23 x1.toNat).toNat) (am_xor (am_shl 1 x1) (-1)))) 23 x1.toNat (-1)) 23 x1.toNat x2) 24 x2.toNat) (am_shl 1 x1)), .inl x2, .inr (.inr 24)], (am_sh, am_mm (am_upd (am_upd (am_upd U 24 (U 23 x1.toNat).toNat (am_and (U 24 (U 23 x1.toNat).toNat) (am_xor (am_shl 1 x1) (-1)))) 23 x1.toNat (-1)) 23 x1.toNat x2)))) 4 (fun _ => rfl) ?_
              refine eu_iast 24 (n := 12) rfl (by decide) rfl (fun _ => rfl) h21a22aaa22aa.1 ?_
              have h21a22aaa22aaa := h21a22aaa22aa.2
              subst h21a22aaa22aaa
              exact ev_end 1 (fun _ => rfl)
    · have h22 := h2.2 hc
      subst h22
      exact ev_end 1 (fun _ => rfl)
set_option maxRecDepth 8000 in
theorem st320_31_0 (N : Nat) (X : Nat → Int) (d : Nat) (x1 : Int) (U : Nat → Nat → Int) (R : Option am_V × am_M) (h : Ev (am_kz N X) (d, 320, 2, [some (.inr (.inr 31)), some (.inl x1), some (.inl 0)], [], (am_sh, am_mm U)) R) : Ev (am_kz N X) (d, 320, 0, [some (.inr (.inr 31)), some (.inl x1), none], [], (am_sh, am_mm U)) R := by
  refine ev_seg (σ1 := (d, 320, 2, [some (.inr (.inr 31)), some (.inl x1), some (.inl 0)], [], (am_sh, am_mm U))) 2 (fun _ => rfl) ?_
  exact h
set_option maxRecDepth 8000 in
theorem st320_31_2 (N : Nat) (X : Nat → Int) (d : Nat) (x1 x2 : Int) (U : Nat → Nat → Int) (R : Option am_V × am_M) (h : ((((U 31 1) ≤ x2 : Prop)) → R = (some (.inl (-1)), (am_sh, am_mm U))) ∧ (¬ ((U 31 1) ≤ x2) → (0 ≤ x2 ∧ x2 < 12) ∧ (((¬ (U 33 x2.toNat) = x1 : Prop)) → Ev (am_kz N X) (d, 320, 2, [some (.inr (.inr 31)), some (.inl x1), some (.inl (w32 (x2 + 1)))], [], (am_sh, am_mm U)) R) ∧ (¬ (¬ (U 33 x2.toNat) = x1) → R = (some (.inl x2), (am_sh, am_mm U))))) : Ev (am_kz N X) (d, 320, 2, [some (.inr (.inr 31)), some (.inl x1), some (.inl x2)], [], (am_sh, am_mm U)) R := by
  refine ev_br (P := (U 31 1) ≤ x2) (σ1 := (d, 320, 28, [some (.inr (.inr 31)), some (.inl x1), some (.inl x2)], [], (am_sh, am_mm U))) (σ2 := (d, 320, 10, [some (.inr (.inr 31)), some (.inl x1), some (.inl x2)], [], (am_sh, am_mm U))) 4 (fun _ => rfl) (fun hc => ?_) (fun hc => ?_)
  · have h1 := h.1 hc
    subst h1
    exact ev_end 2 (fun _ => rfl)
  · have h2 := h.2 hc
    refine ev_seg (σ1 := (d, 320, 15, [some (.inr (.inr 31)), some (.inl x1), some (.inl x2)], [.inl x2, .inr (.inr 33)], (am_sh, am_mm U))) 3 (fun _ => rfl) ?_
    refine eu_iald 33 (n := 12) rfl (by decide) rfl (fun _ => rfl) h2.1 ?_
    have h2a := h2.2
    refine ev_br (P := ¬ (U 33 x2.toNat) = x1) (σ1 := (d, 320, 22, [some (.inr (.inr 31)), some (.inl x1), some (.inl x2)], [], (am_sh, am_mm U))) (σ2 := (d, 320, 20, [some (.inr (.inr 31)), some (.inl x1), some (.inl x2)], [], (am_sh, am_mm U))) 2 (fun _ => rfl) (fun hc => ?_) (fun hc => ?_)
    · have h2a1 := h2a.1 hc
      refine ev_seg (σ1 := (d, 320, 2, [some (.inr (.inr 31)), some (.inl x1), some (.inl (w32 (x2 + 1)))], [], (am_sh, am_mm U))) 2 (fun _ => rfl) ?_
      exact h2a1
    · have h2a2 := h2a.2 hc
      subst h2a2
      exact ev_end 2 (fun _ => rfl)
set_option maxRecDepth 8000 in
theorem st322_31_0 (N : Nat) (X : Nat → Int) (d : Nat) (x1 x2 : Int) (U : Nat → Nat → Int) (R : Option am_V × am_M) (h : (0 ≤ x1 ∧ x1 < 12) ∧ (0 ≤ x1 ∧ x1 < 12) ∧ (0 ≤ x2 ∧ x2 < 12) ∧ (0 ≤ x2 ∧ x2 < 12) ∧ R = (none, (am_sh, am_mm (am_upd (am_upd U 37 x1.toNat (am_or (U 37 x1.toNat) (am_shl 1 x2))) 37 x2.toNat (am_or ((am_upd U 37 x1.toNat (am_or (U 37 x1.toNat) (am_shl 1 x2))) 37 x2.toNat) (am_shl 1 x1)))))) : Ev (am_kz N X) (d, 322, 0, [some (.inr (.inr 31)), some (.inl x1), some (.inl x2)], [], (am_sh, am_mm U)) R := by
  refine ev_seg (σ1 := (d, 322, 6, [some (.inr (.inr 31)), some (.inl x1), some (.inl x2)], [.inl x1, .inr (.inr 37), .inl x1, .inr (.inr 37)], (am_sh, am_mm U))) 4 (fun _ => rfl) ?_
  refine eu_iald 37 (n := 12) rfl (by decide) rfl (fun _ => rfl) h.1 ?_
  have ha := h.2
  refine ev_seg (σ1 := (d, 322, 11, [some (.inr (.inr 31)), some (.inl x1), some (.inl x2)], [.inl (am_or (U 37 x1.toNat) (am_shl 1 x2)), .inl x1, .inr (.inr 37)], (am_sh, am_mm U))) 4 (fun _ => rfl) ?_
  refine eu_iast 37 (n := 12) rfl (by decide) rfl (fun _ => rfl) ha.1 ?_
  have haa := ha.2
  refine ev_seg (σ1 := (d, 322, 18, [some (.inr (.inr 31)), some (.inl x1), some (.inl x2)], [.inl x2, .inr (.inr 37), .inl x2, .inr (.inr 37)], (am_sh, am_mm (am_upd U 37 x1.toNat (am_or (U 37 x1.toNat) (am_shl 1 x2)))))) 4 (fun _ => rfl) ?_
  refine eu_iald 37 (n := 12) rfl (by decide) rfl (fun _ => rfl) haa.1 ?_
  have haaa := haa.2
  refine ev_seg (σ1 := (d, 322, 23, [some (.inr (.inr 31)), some (.inl x1), some (.inl x2)], [.inl (am_or ((am_upd U 37 x1.toNat (am_or (U 37 x1.toNat) (am_shl 1 x2))) 37 x2.toNat) (am_shl 1 x1)), .inl x2, .inr (.inr 37)], (am_sh, am_mm (am_upd U 37 x1.toNat (am_or (U 37 x1.toNat) (am_shl 1 x2)))))) 4 (fun _ => rfl) ?_
  refine eu_iast 37 (n := 12) rfl (by decide) rfl (fun _ => rfl) haaa.1 ?_
  have haaaa := haaa.2
  subst haaaa
  exact ev_end 1 (fun _ => rfl)
set_option maxRecDepth 8000 in
theorem st319_31_0 (N : Nat) (X : Nat → Int) (d : Nat) (x1 : Int) (U : Nat → Nat → Int) (R : Option am_V × am_M) (h : Ev (am_kz N X) (d, 319, 2, [some (.inr (.inr 31)), some (.inl x1), some (.inl 0)], [], (am_sh, am_mm U)) R) : Ev (am_kz N X) (d, 319, 0, [some (.inr (.inr 31)), some (.inl x1), none], [], (am_sh, am_mm U)) R := by
  refine ev_seg (σ1 := (d, 319, 2, [some (.inr (.inr 31)), some (.inl x1), some (.inl 0)], [], (am_sh, am_mm U))) 2 (fun _ => rfl) ?_
  exact h
set_option maxRecDepth 8000 in
theorem st319_31_2 (N : Nat) (X : Nat → Int) (d : Nat) (x1 x2 : Int) (U : Nat → Nat → Int) (R : Option am_V × am_M) (h : ((((U 31 0) ≤ x2 : Prop)) → R = (some (.inl (-1)), (am_sh, am_mm U))) ∧ (¬ ((U 31 0) ≤ x2) → (0 ≤ x2 ∧ x2 < 4) ∧ (((¬ (U 32 x2.toNat) = x1 : Prop)) → Ev (am_kz N X) (d, 319, 2, [some (.inr (.inr 31)), some (.inl x1), some (.inl (w32 (x2 + 1)))], [], (am_sh, am_mm U)) R) ∧ (¬ (¬ (U 32 x2.toNat) = x1) → R = (some (.inl x2), (am_sh, am_mm U))))) : Ev (am_kz N X) (d, 319, 2, [some (.inr (.inr 31)), some (.inl x1), some (.inl x2)], [], (am_sh, am_mm U)) R := by
  refine ev_br (P := (U 31 0) ≤ x2) (σ1 := (d, 319, 28, [some (.inr (.inr 31)), some (.inl x1), some (.inl x2)], [], (am_sh, am_mm U))) (σ2 := (d, 319, 10, [some (.inr (.inr 31)), some (.inl x1), some (.inl x2)], [], (am_sh, am_mm U))) 4 (fun _ => rfl) (fun hc => ?_) (fun hc => ?_)
  · have h1 := h.1 hc
    subst h1
    exact ev_end 2 (fun _ => rfl)
  · have h2 := h.2 hc
    refine ev_seg (σ1 := (d, 319, 15, [some (.inr (.inr 31)), some (.inl x1), some (.inl x2)], [.inl x2, .inr (.inr 32)], (am_sh, am_mm U))) 3 (fun _ => rfl) ?_
    refine eu_iald 32 (n := 4) rfl (by decide) rfl (fun _ => rfl) h2.1 ?_
    have h2a := h2.2
    refine ev_br (P := ¬ (U 32 x2.toNat) = x1) (σ1 := (d, 319, 22, [some (.inr (.inr 31)), some (.inl x1), some (.inl x2)], [], (am_sh, am_mm U))) (σ2 := (d, 319, 20, [some (.inr (.inr 31)), some (.inl x1), some (.inl x2)], [], (am_sh, am_mm U))) 2 (fun _ => rfl) (fun hc => ?_) (fun hc => ?_)
    · have h2a1 := h2a.1 hc
      refine ev_seg (σ1 := (d, 319, 2, [some (.inr (.inr 31)), some (.inl x1), some (.inl (w32 (x2 + 1)))], [], (am_sh, am_mm U))) 2 (fun _ => rfl) ?_
      exact h2a1
    · have h2a2 := h2a.2 hc
      subst h2a2
      exact ev_end 2 (fun _ => rfl)
set_option maxRecDepth 8000 in
theorem st321_31_0 (N : Nat) (X : Nat → Int) (d : Nat) (x1 : Int) (U : Nat → Nat → Int) (R : Option am_V × am_M) (h : Ev (am_kz N X) (d, 321, 7, [some (.inr (.inr 31)), some (.inl x1), some (.inl (w32 ((U 31 1) - 1)))], [], (am_sh, am_mm U)) R) : Ev (am_kz N X) (d, 321, 0, [some (.inr (.inr 31)), some (.inl x1), none], [], (am_sh, am_mm U)) R := by
  refine ev_seg (σ1 := (d, 321, 7, [some (.inr (.inr 31)), some (.inl x1), some (.inl (w32 ((U 31 1) - 1)))], [], (am_sh, am_mm U))) 5 (fun _ => rfl) ?_
  exact h
set_option maxRecDepth 8000 in
theorem st321_31_7 (N : Nat) (X : Nat → Int) (d : Nat) (x1 x2 : Int) (U : Nat → Nat → Int) (R : Option am_V × am_M) (h : (((x2 < 0 : Prop)) → R = (some (.inl (-1)), (am_sh, am_mm U))) ∧ (¬ (x2 < 0) → (0 ≤ x2 ∧ x2 < 12) ∧ (((¬ (U 34 x2.toNat) = x1 : Prop)) → Ev (am_kz N X) (d, 321, 7, [some (.inr (.inr 31)), some (.inl x1), some (.inl (w32 (x2 + (-1))))], [], (am_sh, am_mm U)) R) ∧ (¬ (¬ (U 34 x2.toNat) = x1) → R = (some (.inl x2), (am_sh, am_mm U))))) : Ev (am_kz N X) (d, 321, 7, [some (.inr (.inr 31)), some (.inl x1), some (.inl x2)], [], (am_sh, am_mm U)) R := by
  refine ev_br (P := x2 < 0) (σ1 := (d, 321, 29, [some (.inr (.inr 31)), some (.inl x1), some (.inl x2)], [], (am_sh, am_mm U))) (σ2 := (d, 321, 11, [some (.inr (.inr 31)), some (.inl x1), some (.inl x2)], [], (am_sh, am_mm U))) 2 (fun _ => rfl) (fun hc => ?_) (fun hc => ?_)
  · have h1 := h.1 hc
    subst h1
    exact ev_end 2 (fun _ => rfl)
  · have h2 := h.2 hc
    refine ev_seg (σ1 := (d, 321, 16, [some (.inr (.inr 31)), some (.inl x1), some (.inl x2)], [.inl x2, .inr (.inr 34)], (am_sh, am_mm U))) 3 (fun _ => rfl) ?_
    refine eu_iald 34 (n := 12) rfl (by decide) rfl (fun _ => rfl) h2.1 ?_
    have h2a := h2.2
    refine ev_br (P := ¬ (U 34 x2.toNat) = x1) (σ1 := (d, 321, 23, [some (.inr (.inr 31)), some (.inl x1), some (.inl x2)], [], (am_sh, am_mm U))) (σ2 := (d, 321, 21, [some (.inr (.inr 31)), some (.inl x1), some (.inl x2)], [], (am_sh, am_mm U))) 2 (fun _ => rfl) (fun hc => ?_) (fun hc => ?_)
    · have h2a1 := h2a.1 hc
      refine ev_seg (σ1 := (d, 321, 7, [some (.inr (.inr 31)), some (.inl x1), some (.inl (w32 (x2 + (-1))))], [], (am_sh, am_mm U))) 2 (fun _ => rfl) ?_
      exact h2a1
    · have h2a2 := h2a.2 hc
      subst h2a2
      exact ev_end 2 (fun _ => rfl)
set_option maxRecDepth 8000 in
theorem st324_31_0 (N : Nat) (X : Nat → Int) (d : Nat) (x1 : Int) (U : Nat → Nat → Int) (R : Option am_V × am_M) (h : (((1600 ≤ (U 31 18) : Prop)) → R = (some (.inl 1), (am_sh, am_mm U))) ∧ (¬ (1600 ≤ (U 31 18)) → (0 ≤ (U 31 18) ∧ (U 31 18) < 1600) ∧ R = (some (.inl 1), (am_sh, am_mm (am_upd (am_upd U 43 (U 31 18).toNat x1) 31 18 (w32 (((am_upd U 43 (U 31 18).toNat x1) 31 18) + 1))))))) : Ev (am_kz N X) (d, 324, 0, [some (.inr (.inr 31)), some (.inl x1)], [], (am_sh, am_mm U)) R := by
  refine ev_br (P := 1600 ≤ (U 31 18)) (σ1 := (d, 324, 32, [some (.inr (.inr 31)), some (.inl x1)], [], (am_sh, am_mm U))) (σ2 := (d, 324, 12, [some (.inr (.inr 31)), some (.inl x1)], [], (am_sh, am_mm U))) 6 (fun _ => rfl) (fun hc => ?_) (fun hc => ?_)
  · have h1 := h.1 hc
    subst h1
    exact ev_end 2 (fun _ => rfl)
  · have h2 := h.2 hc
    refine ev_seg (σ1 := (d, 324, 21, [some (.inr (.inr 31)), some (.inl x1)], [.inl x1, .inl (U 31 18), .inr (.inr 43)], (am_sh, am_mm U))) 5 (fun _ => rfl) ?_
    refine eu_iast 43 (n := 1600) rfl (by decide) rfl (fun _ => rfl) h2.1 ?_
    have h2a := h2.2
    refine ev_seg (σ1 := (d, 324, 29, [some (.inr (.inr 31)), some (.inl x1)], [.inl (w32 (((am_upd U 43 (U 31 18).toNat x1) 31 18) + 1)), .inr (.inr 31)], (am_sh, am_mm (am_upd U 43 (U 31 18).toNat x1)))) 5 (fun _ => rfl) ?_
    refine eu_puti 31 (n := 19) rfl (by decide) rfl rfl ?_
    subst h2a
    exact ev_end 2 (fun _ => rfl)
set_option maxRecDepth 8000 in
theorem st323_26_0 (N : Nat) (X : Nat → Int) (d : Nat) (x1 : Int) (U : Nat → Nat → Int) (R : Option am_V × am_M) (h : ∃ (r1 : Int) (U1 : Nat → Nat → Int), Ev (am_kz N X) (d, 301, 0, [some (.inr (.inr 26)), some (.inl 21)], [], (am_sh, am_mm U)) (some (.inl r1), (am_sh, am_mm U1)) ∧ (((r1 = 0 : Prop)) → ∃ (r2 : Int) (U2 : Nat → Nat → Int), Ev (am_kz N X) (d, 300, 0, [some (.inr (.inr 26)), some (.inl 91)], [], (am_sh, am_mm U1)) (some (.inl r2), (am_sh, am_mm U2)) ∧ (((r2 = 0 : Prop)) → ∃ (r3 : Int) (U3 : Nat → Nat → Int), Ev (am_kz N X) (d, 301, 0, [some (.inr (.inr 26)), some (.inl 22)], [], (am_sh, am_mm U2)) (some (.inl r3), (am_sh, am_mm U3)) ∧ (((r3 = 0 : Prop)) → ∃ (r4 : Int) (U4 : Nat → Nat → Int), Ev (am_kz N X) (d, 301, 0, [some (.inr (.inr 26)), some (.inl 17)], [], (am_sh, am_mm U3)) (some (.inl r4), (am_sh, am_mm U4)) ∧ (((¬ r4 = 0 : Prop)) → ∃ U5 : Nat → Nat → Int, Ev (am_kz N X) (d, 177, 0, [some (.inr (.inr 26))], [], (am_sh, am_mm U4)) (none, (am_sh, am_mm U5)) ∧ ∃ (r6 : Int) (U6 : Nat → Nat → Int), Ev (am_kz N X) (d, 335, 0, [some (.inr (.inr 26)), some (.inl x1), none, none, none], [], (am_sh, am_mm U5)) (some (.inl r6), (am_sh, am_mm U6)) ∧ (((r6 = 0 : Prop)) → R = (some (.inl 0), (am_sh, am_mm U6))) ∧ (¬ (r6 = 0) → ∃ (r7 : Int) (U7 : Nat → Nat → Int), Ev (am_kz N X) (d, 304, 0, [some (.inr (.inr 31)), some (.inl (U4 26 8))], [], (am_sh, am_mm U6)) (some (.inl r7), (am_sh, am_mm U7)) ∧ (((r7 = 0 : Prop)) → R = (some (.inl 0), (am_sh, am_mm U7))) ∧ (¬ (r7 = 0) → R = (some (.inl 1), (am_sh, am_mm U7))))) ∧ (¬ (¬ r4 = 0) → ∃ (r8 : Int) (U8 : Nat → Nat → Int), Ev (am_kz N X) (d, 301, 0, [some (.inr (.inr 26)), some (.inl 18)], [], (am_sh, am_mm U4)) (some (.inl r8), (am_sh, am_mm U8)) ∧ (((r8 = 0 : Prop)) → ∃ (r9 : Int) (U9 : Nat → Nat → Int), Ev (am_kz N X) (d, 335, 0, [some (.inr (.inr 26)), some (.inl x1), none, none, none], [], (am_sh, am_mm U8)) (some (.inl r9), (am_sh, am_mm U9)) ∧ (((¬ r9 = 0 : Prop)) → ∃ (r10 : Int) (U10 : Nat → Nat → Int), Ev (am_kz N X) (d, 300, 0, [some (.inr (.inr 26)), some (.inl 60)], [], (am_sh, am_mm U9)) (some (.inl r10), (am_sh, am_mm U10)) ∧ (((¬ r10 = 0 : Prop)) → Ev (am_kz N X) ((d + 1), 323, 209, [some (.inr (.inr 26)), some (.inl x1), some (.inl (U9 26 8))], [], (am_sh, am_mm U10)) R) ∧ (¬ (¬ r10 = 0) → ∃ (r11 : Int) (U11 : Nat → Nat → Int), Ev (am_kz N X) (d, 300, 0, [some (.inr (.inr 26)), some (.inl 62)], [], (am_sh, am_mm U10)) (some (.inl r11), (am_sh, am_mm U11)) ∧ (((¬ r11 = 0 : Prop)) → Ev (am_kz N X) ((d + 1), 323, 209, [some (.inr (.inr 26)), some (.inl x1), some (.inl (U9 26 8))], [], (am_sh, am_mm U11)) R) ∧ (¬ (¬ r11 = 0) → ∃ (r12 : Int) (U12 : Nat → Nat → Int), Ev (am_kz N X) (d, 300, 0, [some (.inr (.inr 26)), some (.inl 61)], [], (am_sh, am_mm U11)) (some (.inl r12), (am_sh, am_mm U12)) ∧ (((¬ r12 = 0 : Prop)) → Ev (am_kz N X) ((d + 1), 323, 209, [some (.inr (.inr 26)), some (.inl x1), some (.inl (U9 26 8))], [], (am_sh, am_mm U12)) R) ∧ (¬ (¬ r12 = 0) → ∃ (r13 : Int) (U13 : Nat → Nat → Int), Ev (am_kz N X) (d, 262, 0, [some (.inr (.inr 26))], [], (am_sh, am_mm U12)) (some (.inl r13), (am_sh, am_mm U13)) ∧ (r13 = 0 ∨ r13 = 1) ∧ R = (some (.inl r13), (am_sh, am_mm U13)))))) ∧ (¬ (¬ r9 = 0) → R = (some (.inl 0), (am_sh, am_mm U9)))) ∧ (¬ (r8 = 0) → ∃ U14 : Nat → Nat → Int, Ev (am_kz N X) (d, 177, 0, [some (.inr (.inr 26))], [], (am_sh, am_mm U8)) (none, (am_sh, am_mm U14)) ∧ ∃ (r15 : Int) (U15 : Nat → Nat → Int), Ev (am_kz N X) (d, 335, 0, [some (.inr (.inr 26)), some (.inl x1), none, none, none], [], (am_sh, am_mm U14)) (some (.inl r15), (am_sh, am_mm U15)) ∧ (((r15 = 0 : Prop)) → R = (some (.inl 0), (am_sh, am_mm U15))) ∧ (¬ (r15 = 0) → ∃ (r16 : Int) (U16 : Nat → Nat → Int), Ev (am_kz N X) (d, 304, 0, [some (.inr (.inr 31)), some (.inl (U8 26 8))], [], (am_sh, am_mm U15)) (some (.inl r16), (am_sh, am_mm U16)) ∧ (((r16 = 0 : Prop)) → R = (some (.inl 0), (am_sh, am_mm U16))) ∧ (¬ (r16 = 0) → R = (some (.inl 1), (am_sh, am_mm U16))))))) ∧ (¬ (r3 = 0) → ∃ U17 : Nat → Nat → Int, Ev (am_kz N X) (d, 177, 0, [some (.inr (.inr 26))], [], (am_sh, am_mm U3)) (none, (am_sh, am_mm U17)) ∧ ∃ (r18 : Int) (U18 : Nat → Nat → Int), Ev (am_kz N X) (d, 304, 0, [some (.inr (.inr 31)), some (.inl 22)], [], (am_sh, am_mm U17)) (some (.inl r18), (am_sh, am_mm U18)) ∧ (r18 = 0 ∨ r18 = 1) ∧ R = (some (.inl r18), (am_sh, am_mm U18)))) ∧ (¬ (r2 = 0) → ∃ (r19 : Int) (U19 : Nat → Nat → Int), Ev (am_kz N X) (d, 334, 0, [some (.inr (.inr 26)), some (.inl x1)], [], (am_sh, am_mm U2)) (some (.inl r19), (am_sh, am_mm U19)) ∧ (((r19 = 0 : Prop)) → Ev (am_kz N X) ((d + 1), 323, 85, [some (.inr (.inr 26)), some (.inl x1), none], [], (am_sh, am_mm U19)) R) ∧ (¬ (r19 = 0) → ∃ (r20 : Int) (U20 : Nat → Nat → Int), Ev (am_kz N X) (d, 256, 0, [some (.inr (.inr 26)), some (.inl (w32 (x1 + 1))), none, none], [], (am_sh, am_mm U19)) (some (.inl r20), (am_sh, am_mm U20)) ∧ (((r20 = 0 : Prop)) → Ev (am_kz N X) ((d + 1), 323, 85, [some (.inr (.inr 26)), some (.inl x1), none], [], (am_sh, am_mm U20)) R) ∧ (¬ (r20 = 0) → ∃ (r21 : Int) (U21 : Nat → Nat → Int), Ev (am_kz N X) (d, 263, 0, [some (.inr (.inr 26)), some (.inl 93)], [], (am_sh, am_mm U20)) (some (.inl r21), (am_sh, am_mm U21)) ∧ (((r21 = 0 : Prop)) → Ev (am_kz N X) ((d + 1), 323, 85, [some (.inr (.inr 26)), some (.inl x1), none], [], (am_sh, am_mm U21)) R) ∧ (¬ (r21 = 0) → R = (some (.inl 1), (am_sh, am_mm U21))))))) ∧ (¬ (r1 = 0) → ∃ (r22 : Int) (U22 : Nat → Nat → Int), Ev (am_kz N X) (d, 334, 0, [some (.inr (.inr 26)), some (.inl x1)], [], (am_sh, am_mm U1)) (some (.inl r22), (am_sh, am_mm U22)) ∧ (((r22 = 0 : Prop)) → Ev (am_kz N X) ((d + 1), 323, 43, [some (.inr (.inr 26)), some (.inl x1), none], [], (am_sh, am_mm U22)) R) ∧ (¬ (r22 = 0) → ∃ (r23 : Int) (U23 : Nat → Nat → Int), Ev (am_kz N X) (d, 323, 0, [some (.inr (.inr 26)), some (.inl (w32 (x1 + 1))), none], [], (am_sh, am_mm U22)) (some (.inl r23), (am_sh, am_mm U23)) ∧ (((r23 = 0 : Prop)) → Ev (am_kz N X) ((d + 1), 323, 43, [some (.inr (.inr 26)), some (.inl x1), none], [], (am_sh, am_mm U23)) R) ∧ (¬ (r23 = 0) → ∃ (r24 : Int) (U24 : Nat → Nat → Int), Ev (am_kz N X) (d, 304, 0, [some (.inr (.inr 31)), some (.inl 21)], [], (am_sh, am_mm U23)) (some (.inl r24), (am_sh, am_mm U24)) ∧ (((r24 = 0 : Prop)) → Ev (am_kz N X) ((d + 1), 323, 43, [some (.inr (.inr 26)), some (.inl x1), none], [], (am_sh, am_mm U24)) R) ∧ (¬ (r24 = 0) → R = (some (.inl 1), (am_sh, am_mm U24))))))) : Ev (am_kz N X) ((d + 1), 323, 0, [some (.inr (.inr 26)), some (.inl x1), none], [], (am_sh, am_mm U)) R := by
  refine ev_seg (σ1 := ((d + 1), 323, 3, [some (.inr (.inr 26)), some (.inl x1), none], [.inl 21, .inr (.inr 26)], (am_sh, am_mm U))) 2 (fun _ => rfl) ?_
  obtain ⟨r1, U1, hc, ha⟩ := h
  refine ev_cal (σc := (d, 301, 0, [some (.inr (.inr 26)), some (.inl 21)], [], (am_sh, am_mm U))) (fun _ => rfl) hc ?_
  show Ev (am_kz N X) ((d + 1), 323, 6, [some (.inr (.inr 26)), some (.inl x1), none], [.inl r1], (am_sh, am_mm U1)) R
  refine ev_br (P := r1 = 0) (σ1 := ((d + 1), 323, 45, [some (.inr (.inr 26)), some (.inl x1), none], [], (am_sh, am_mm U1))) (σ2 := ((d + 1), 323, 9, [some (.inr (.inr 26)), some (.inl x1), none], [], (am_sh, am_mm U1))) 1 (fun _ => rfl) (fun hc => ?_) (fun hc => ?_)
  · have ha1 := ha.1 hc
    refine ev_seg (σ1 := ((d + 1), 323, 48, [some (.inr (.inr 26)), some (.inl x1), none], [.inl 91, .inr (.inr 26)], (am_sh, am_mm U1))) 2 (fun _ => rfl) ?_
    obtain ⟨r2, U2, ha1c, ha1a⟩ := ha1
    refine ev_cal (σc := (d, 300, 0, [some (.inr (.inr 26)), some (.inl 91)], [], (am_sh, am_mm U1))) (fun _ => rfl) ha1c ?_
    show Ev (am_kz N X) ((d + 1), 323, 51, [some (.inr (.inr 26)), some (.inl x1), none], [.inl r2], (am_sh, am_mm U2)) R
    refine ev_br (P := r2 = 0) (σ1 := ((d + 1), 323, 87, [some (.inr (.inr 26)), some (.inl x1), none], [], (am_sh, am_mm U2))) (σ2 := ((d + 1), 323, 54, [some (.inr (.inr 26)), some (.inl x1), none], [], (am_sh, am_mm U2))) 1 (fun _ => rfl) (fun hc => ?_) (fun hc => ?_)
    · have ha1a1 := ha1a.1 hc
      refine ev_seg (σ1 := ((d + 1), 323, 90, [some (.inr (.inr 26)), some (.inl x1), none], [.inl 22, .inr (.inr 26)], (am_sh, am_mm U2))) 2 (fun _ => rfl) ?_
      obtain ⟨r3, U3, ha1a1c, ha1a1a⟩ := ha1a1
      refine ev_cal (σc := (d, 301, 0, [some (.inr (.inr 26)), some (.inl 22)], [], (am_sh, am_mm U2))) (fun _ => rfl) ha1a1c ?_
      show Ev (am_kz N X) ((d + 1), 323, 93, [some (.inr (.inr 26)), some (.inl x1), none], [.inl r3], (am_sh, am_mm U3)) R
      refine ev_br (P := r3 = 0) (σ1 := ((d + 1), 323, 110, [some (.inr (.inr 26)), some (.inl x1), none], [], (am_sh, am_mm U3))) (σ2 := ((d + 1), 323, 96, [some (.inr (.inr 26)), some (.inl x1), none], [], (am_sh, am_mm U3))) 1 (fun _ => rfl) (fun hc => ?_) (fun hc => ?_)
      · have ha1a1a1 := ha1a1a.1 hc
        refine ev_seg (σ1 := ((d + 1), 323, 113, [some (.inr (.inr 26)), some (.inl x1), none], [.inl 17, .inr (.inr 26)], (am_sh, am_mm U3))) 2 (fun _ => rfl) ?_
        obtain ⟨r4, U4, ha1a1a1c, ha1a1a1a⟩ := ha1a1a1
        refine ev_cal (σc := (d, 301, 0, [some (.inr (.inr 26)), some (.inl 17)], [], (am_sh, am_mm U3))) (fun _ => rfl) ha1a1a1c ?_
        show Ev (am_kz N X) ((d + 1), 323, 116, [some (.inr (.inr 26)), some (.inl x1), none], [.inl r4], (am_sh, am_mm U4)) R
        refine ev_br (P := ¬ r4 = 0) (σ1 := ((d + 1), 323, 128, [some (.inr (.inr 26)), some (.inl x1), none], [], (am_sh, am_mm U4))) (σ2 := ((d + 1), 323, 119, [some (.inr (.inr 26)), some (.inl x1), none], [], (am_sh, am_mm U4))) 1 (fun _ => rfl) (fun hc => ?_) (fun hc => ?_)
        · have ha1a1a1a1 := ha1a1a1a.1 hc
          refine ev_seg (σ1 := ((d + 1), 323, 134, [some (.inr (.inr 26)), some (.inl x1), some (.inl (U4 26 8))], [.inr (.inr 26)], (am_sh, am_mm U4))) 4 (fun _ => rfl) ?_
          obtain ⟨U5, ha1a1a1a1c, ha1a1a1a1a⟩ := ha1a1a1a1
          refine ev_cal (σc := (d, 177, 0, [some (.inr (.inr 26))], [], (am_sh, am_mm U4))) (fun _ => rfl) ha1a1a1a1c ?_
          show Ev (am_kz N X) ((d + 1), 323, 137, [some (.inr (.inr 26)), some (.inl x1), some (.inl (U4 26 8))], [], (am_sh, am_mm U5)) R
          refine ev_seg (σ1 := ((d + 1), 323, 139, [some (.inr (.inr 26)), some (.inl x1), some (.inl (U4 26 8))], [.inl x1, .inr (.inr 26)], (am_sh, am_mm U5))) 2 (fun _ => rfl) ?_
          obtain ⟨r6, U6, ha1a1a1a1ac, ha1a1a1a1aa⟩ := ha1a1a1a1a
          refine ev_cal (σc := (d, 335, 0, [some (.inr (.inr 26)), some (.inl x1), none, none, none], [], (am_sh, am_mm U5))) (fun _ => rfl) ha1a1a1a1ac ?_
          show Ev (am_kz N X) ((d + 1), 323, 142, [some (.inr (.inr 26)), some (.inl x1), some (.inl (U4 26 8))], [.inl r6], (am_sh, am_mm U6)) R
          refine ev_br (P := r6 = 0) (σ1 := ((d + 1), 323, 160, [some (.inr (.inr 26)), some (.inl x1), some (.inl (U4 26 8))], [], (am_sh, am_mm U6))) (σ2 := ((d + 1), 323, 145, [some (.inr (.inr 26)), some (.inl x1), some (.inl (U4 26 8))], [], (am_sh, am_mm U6))) 1 (fun _ => rfl) (fun hc => ?_) (fun hc => ?_)
          · have ha1a1a1a1aa1 := ha1a1a1a1aa.1 hc
            subst ha1a1a1a1aa1
            exact ev_end 2 (fun _ => rfl)
          · have ha1a1a1a1aa2 := ha1a1a1a1aa.2 hc
            refine ev_seg (σ1 := ((d + 1), 323, 150, [some (.inr (.inr 26)), some (.inl x1), some (.inl (U4 26 8))], [.inl (U4 26 8), .inr (.inr 31)], (am_sh, am_mm U6))) 3 (fun _ => rfl) ?_
            obtain ⟨r7, U7, ha1a1a1a1aa2c, ha1a1a1a1aa2a⟩ := ha1a1a1a1aa2
            refine ev_cal (σc := (d, 304, 0, [some (.inr (.inr 31)), some (.inl (U4 26 8))], [], (am_sh, am_mm U6))) (fun _ => rfl) ha1a1a1a1aa2c ?_
            show Ev (am_kz N X) ((d + 1), 323, 153, [some (.inr (.inr 26)), some (.inl x1), some (.inl (U4 26 8))], [.inl r7], (am_sh, am_mm U7)) R
            refine ev_br (P := r7 = 0) (σ1 := ((d + 1), 323, 160, [some (.inr (.inr 26)), some (.inl x1), some (.inl (U4 26 8))], [], (am_sh, am_mm U7))) (σ2 := ((d + 1), 323, 156, [some (.inr (.inr 26)), some (.inl x1), some (.inl (U4 26 8))], [], (am_sh, am_mm U7))) 1 (fun _ => rfl) (fun hc => ?_) (fun hc => ?_)
            · have ha1a1a1a1aa2a1 := ha1a1a1a1aa2a.1 hc
              subst ha1a1a1a1aa2a1
              exact ev_end 2 (fun _ => rfl)
            · have ha1a1a1a1aa2a2 := ha1a1a1a1aa2a.2 hc
              subst ha1a1a1a1aa2a2
              exact ev_end 3 (fun _ => rfl)
        · have ha1a1a1a2 := ha1a1a1a.2 hc
          refine ev_seg (σ1 := ((d + 1), 323, 122, [some (.inr (.inr 26)), some (.inl x1), none], [.inl 18, .inr (.inr 26)], (am_sh, am_mm U4))) 2 (fun _ => rfl) ?_
          obtain ⟨r8, U8, ha1a1a1a2c, ha1a1a1a2a⟩ := ha1a1a1a2
          refine ev_cal (σc := (d, 301, 0, [some (.inr (.inr 26)), some (.inl 18)], [], (am_sh, am_mm U4))) (fun _ => rfl) ha1a1a1a2c ?_
          show Ev (am_kz N X) ((d + 1), 323, 125, [some (.inr (.inr 26)), some (.inl x1), none], [.inl r8], (am_sh, am_mm U8)) R
          refine ev_br (P := r8 = 0) (σ1 := ((d + 1), 323, 162, [some (.inr (.inr 26)), some (.inl x1), none], [], (am_sh, am_mm U8))) (σ2 := ((d + 1), 323, 128, [some (.inr (.inr 26)), some (.inl x1), none], [], (am_sh, am_mm U8))) 1 (fun _ => rfl) (fun hc => ?_) (fun hc => ?_)
          · have ha1a1a1a2a1 := ha1a1a1a2a.1 hc
            refine ev_seg (σ1 := ((d + 1), 323, 164, [some (.inr (.inr 26)), some (.inl x1), none], [.inl x1, .inr (.inr 26)], (am_sh, am_mm U8))) 2 (fun _ => rfl) ?_
            obtain ⟨r9, U9, ha1a1a1a2a1c, ha1a1a1a2a1a⟩ := ha1a1a1a2a1
            refine ev_cal (σc := (d, 335, 0, [some (.inr (.inr 26)), some (.inl x1), none, none, none], [], (am_sh, am_mm U8))) (fun _ => rfl) ha1a1a1a2a1c ?_
            show Ev (am_kz N X) ((d + 1), 323, 167, [some (.inr (.inr 26)), some (.inl x1), none], [.inl r9], (am_sh, am_mm U9)) R
            refine ev_br (P := ¬ r9 = 0) (σ1 := ((d + 1), 323, 172, [some (.inr (.inr 26)), some (.inl x1), none], [], (am_sh, am_mm U9))) (σ2 := ((d + 1), 323, 170, [some (.inr (.inr 26)), some (.inl x1), none], [], (am_sh, am_mm U9))) 1 (fun _ => rfl) (fun hc => ?_) (fun hc => ?_)
            · have ha1a1a1a2a1a1 := ha1a1a1a2a1a.1 hc
              refine ev_seg (σ1 := ((d + 1), 323, 180, [some (.inr (.inr 26)), some (.inl x1), some (.inl (U9 26 8))], [.inl 60, .inr (.inr 26)], (am_sh, am_mm U9))) 5 (fun _ => rfl) ?_
              obtain ⟨r10, U10, ha1a1a1a2a1a1c, ha1a1a1a2a1a1a⟩ := ha1a1a1a2a1a1
              refine ev_cal (σc := (d, 300, 0, [some (.inr (.inr 26)), some (.inl 60)], [], (am_sh, am_mm U9))) (fun _ => rfl) ha1a1a1a2a1a1c ?_
              show Ev (am_kz N X) ((d + 1), 323, 183, [some (.inr (.inr 26)), some (.inl x1), some (.inl (U9 26 8))], [.inl r10], (am_sh, am_mm U10)) R
              refine ev_br (P := ¬ r10 = 0) (σ1 := ((d + 1), 323, 209, [some (.inr (.inr 26)), some (.inl x1), some (.inl (U9 26 8))], [], (am_sh, am_mm U10))) (σ2 := ((d + 1), 323, 186, [some (.inr (.inr 26)), some (.inl x1), some (.inl (U9 26 8))], [], (am_sh, am_mm U10))) 1 (fun _ => rfl) (fun hc => ?_) (fun hc => ?_)
              · have ha1a1a1a2a1a1a1 := ha1a1a1a2a1a1a.1 hc
                exact ha1a1a1a2a1a1a1
              · have ha1a1a1a2a1a1a2 := ha1a1a1a2a1a1a.2 hc
                refine ev_seg (σ1 := ((d + 1), 323, 189, [some (.inr (.inr 26)), some (.inl x1), some (.inl (U9 26 8))], [.inl 62, .inr (.inr 26)], (am_sh, am_mm U10))) 2 (fun _ => rfl) ?_
                obtain ⟨r11, U11, ha1a1a1a2a1a1a2c, ha1a1a1a2a1a1a2a⟩ := ha1a1a1a2a1a1a2
                refine ev_cal (σc := (d, 300, 0, [some (.inr (.inr 26)), some (.inl 62)], [], (am_sh, am_mm U10))) (fun _ => rfl) ha1a1a1a2a1a1a2c ?_
                show Ev (am_kz N X) ((d + 1), 323, 192, [some (.inr (.inr 26)), some (.inl x1), some (.inl (U9 26 8))], [.inl r11], (am_sh, am_mm U11)) R
                refine ev_br (P := ¬ r11 = 0) (σ1 := ((d + 1), 323, 209, [some (.inr (.inr 26)), some (.inl x1), some (.inl (U9 26 8))], [], (am_sh, am_mm U11))) (σ2 := ((d + 1), 323, 195, [some (.inr (.inr 26)), some (.inl x1), some (.inl (U9 26 8))], [], (am_sh, am_mm U11))) 1 (fun _ => rfl) (fun hc => ?_) (fun hc => ?_)
                · have ha1a1a1a2a1a1a2a1 := ha1a1a1a2a1a1a2a.1 hc
                  exact ha1a1a1a2a1a1a2a1
                · have ha1a1a1a2a1a1a2a2 := ha1a1a1a2a1a1a2a.2 hc
                  refine ev_seg (σ1 := ((d + 1), 323, 198, [some (.inr (.inr 26)), some (.inl x1), some (.inl (U9 26 8))], [.inl 61, .inr (.inr 26)], (am_sh, am_mm U11))) 2 (fun _ => rfl) ?_
                  obtain ⟨r12, U12, ha1a1a1a2a1a1a2a2c, ha1a1a1a2a1a1a2a2a⟩ := ha1a1a1a2a1a1a2a2
                  refine ev_cal (σc := (d, 300, 0, [some (.inr (.inr 26)), some (.inl 61)], [], (am_sh, am_mm U11))) (fun _ => rfl) ha1a1a1a2a1a1a2a2c ?_
                  show Ev (am_kz N X) ((d + 1), 323, 201, [some (.inr (.inr 26)), some (.inl x1), some (.inl (U9 26 8))], [.inl r12], (am_sh, am_mm U12)) R
                  refine ev_br (P := ¬ r12 = 0) (σ1 := ((d + 1), 323, 209, [some (.inr (.inr 26)), some (.inl x1), some (.inl (U9 26 8))], [], (am_sh, am_mm U12))) (σ2 := ((d + 1), 323, 204, [some (.inr (.inr 26)), some (.inl x1), some (.inl (U9 26 8))], [], (am_sh, am_mm U12))) 1 (fun _ => rfl) (fun hc => ?_) (fun hc => ?_)
                  · have ha1a1a1a2a1a1a2a2a1 := ha1a1a1a2a1a1a2a2a.1 hc
                    exact ha1a1a1a2a1a1a2a2a1
                  · have ha1a1a1a2a1a1a2a2a2 := ha1a1a1a2a1a1a2a2a.2 hc
                    refine ev_seg (σ1 := ((d + 1), 323, 205, [some (.inr (.inr 26)), some (.inl x1), some (.inl (U9 26 8))], [.inr (.inr 26)], (am_sh, am_mm U12))) 1 (fun _ => rfl) ?_
                    obtain ⟨r13, U13, ha1a1a1a2a1a1a2a2a2c, ha1a1a1a2a1a1a2a2a2a⟩ := ha1a1a1a2a1a1a2a2a2
                    refine ev_cal (σc := (d, 262, 0, [some (.inr (.inr 26))], [], (am_sh, am_mm U12))) (fun _ => rfl) ha1a1a1a2a1a1a2a2a2c ?_
                    show Ev (am_kz N X) ((d + 1), 323, 208, [some (.inr (.inr 26)), some (.inl x1), some (.inl (U9 26 8))], [.inl r13], (am_sh, am_mm U13)) R
                    rw [ha1a1a1a2a1a1a2a2a2a.2]
                    exact ev_retz rfl rfl ha1a1a1a2a1a1a2a2a2a.1
            · have ha1a1a1a2a1a2 := ha1a1a1a2a1a.2 hc
              subst ha1a1a1a2a1a2
              exact ev_end 2 (fun _ => rfl)
          · have ha1a1a1a2a2 := ha1a1a1a2a.2 hc
            refine ev_seg (σ1 := ((d + 1), 323, 134, [some (.inr (.inr 26)), some (.inl x1), some (.inl (U8 26 8))], [.inr (.inr 26)], (am_sh, am_mm U8))) 4 (fun _ => rfl) ?_
            obtain ⟨U14, ha1a1a1a2a2c, ha1a1a1a2a2a⟩ := ha1a1a1a2a2
            refine ev_cal (σc := (d, 177, 0, [some (.inr (.inr 26))], [], (am_sh, am_mm U8))) (fun _ => rfl) ha1a1a1a2a2c ?_
            show Ev (am_kz N X) ((d + 1), 323, 137, [some (.inr (.inr 26)), some (.inl x1), some (.inl (U8 26 8))], [], (am_sh, am_mm U14)) R
            refine ev_seg (σ1 := ((d + 1), 323, 139, [some (.inr (.inr 26)), some (.inl x1), some (.inl (U8 26 8))], [.inl x1, .inr (.inr 26)], (am_sh, am_mm U14))) 2 (fun _ => rfl) ?_
            obtain ⟨r15, U15, ha1a1a1a2a2ac, ha1a1a1a2a2aa⟩ := ha1a1a1a2a2a
            refine ev_cal (σc := (d, 335, 0, [some (.inr (.inr 26)), some (.inl x1), none, none, none], [], (am_sh, am_mm U14))) (fun _ => rfl) ha1a1a1a2a2ac ?_
            show Ev (am_kz N X) ((d + 1), 323, 142, [some (.inr (.inr 26)), some (.inl x1), some (.inl (U8 26 8))], [.inl r15], (am_sh, am_mm U15)) R
            refine ev_br (P := r15 = 0) (σ1 := ((d + 1), 323, 160, [some (.inr (.inr 26)), some (.inl x1), some (.inl (U8 26 8))], [], (am_sh, am_mm U15))) (σ2 := ((d + 1), 323, 145, [some (.inr (.inr 26)), some (.inl x1), some (.inl (U8 26 8))], [], (am_sh, am_mm U15))) 1 (fun _ => rfl) (fun hc => ?_) (fun hc => ?_)
            · have ha1a1a1a2a2aa1 := ha1a1a1a2a2aa.1 hc
              subst ha1a1a1a2a2aa1
              exact ev_end 2 (fun _ => rfl)
            · have ha1a1a1a2a2aa2 := ha1a1a1a2a2aa.2 hc
              refine ev_seg (σ1 := ((d + 1), 323, 150, [some (.inr (.inr 26)), some (.inl x1), some (.inl (U8 26 8))], [.inl (U8 26 8), .inr (.inr 31)], (am_sh, am_mm U15))) 3 (fun _ => rfl) ?_
              obtain ⟨r16, U16, ha1a1a1a2a2aa2c, ha1a1a1a2a2aa2a⟩ := ha1a1a1a2a2aa2
              refine ev_cal (σc := (d, 304, 0, [some (.inr (.inr 31)), some (.inl (U8 26 8))], [], (am_sh, am_mm U15))) (fun _ => rfl) ha1a1a1a2a2aa2c ?_
              show Ev (am_kz N X) ((d + 1), 323, 153, [some (.inr (.inr 26)), some (.inl x1), some (.inl (U8 26 8))], [.inl r16], (am_sh, am_mm U16)) R
              refine ev_br (P := r16 = 0) (σ1 := ((d + 1), 323, 160, [some (.inr (.inr 26)), some (.inl x1), some (.inl (U8 26 8))], [], (am_sh, am_mm U16))) (σ2 := ((d + 1), 323, 156, [some (.inr (.inr 26)), some (.inl x1), some (.inl (U8 26 8))], [], (am_sh, am_mm U16))) 1 (fun _ => rfl) (fun hc => ?_) (fun hc => ?_)
              · have ha1a1a1a2a2aa2a1 := ha1a1a1a2a2aa2a.1 hc
                subst ha1a1a1a2a2aa2a1
                exact ev_end 2 (fun _ => rfl)
              · have ha1a1a1a2a2aa2a2 := ha1a1a1a2a2aa2a.2 hc
                subst ha1a1a1a2a2aa2a2
                exact ev_end 3 (fun _ => rfl)
      · have ha1a1a2 := ha1a1a.2 hc
        refine ev_seg (σ1 := ((d + 1), 323, 97, [some (.inr (.inr 26)), some (.inl x1), none], [.inr (.inr 26)], (am_sh, am_mm U3))) 1 (fun _ => rfl) ?_
        obtain ⟨U17, ha1a1a2c, ha1a1a2a⟩ := ha1a1a2
        refine ev_cal (σc := (d, 177, 0, [some (.inr (.inr 26))], [], (am_sh, am_mm U3))) (fun _ => rfl) ha1a1a2c ?_
        show Ev (am_kz N X) ((d + 1), 323, 100, [some (.inr (.inr 26)), some (.inl x1), none], [], (am_sh, am_mm U17)) R
        refine ev_seg (σ1 := ((d + 1), 323, 106, [some (.inr (.inr 26)), some (.inl x1), none], [.inl 22, .inr (.inr 31)], (am_sh, am_mm U17))) 3 (fun _ => rfl) ?_
        obtain ⟨r18, U18, ha1a1a2ac, ha1a1a2aa⟩ := ha1a1a2a
        refine ev_cal (σc := (d, 304, 0, [some (.inr (.inr 31)), some (.inl 22)], [], (am_sh, am_mm U17))) (fun _ => rfl) ha1a1a2ac ?_
        show Ev (am_kz N X) ((d + 1), 323, 109, [some (.inr (.inr 26)), some (.inl x1), none], [.inl r18], (am_sh, am_mm U18)) R
        rw [ha1a1a2aa.2]
        exact ev_retz rfl rfl ha1a1a2aa.1
    · have ha1a2 := ha1a.2 hc
      refine ev_seg (σ1 := ((d + 1), 323, 56, [some (.inr (.inr 26)), some (.inl x1), none], [.inl x1, .inr (.inr 26)], (am_sh, am_mm U2))) 2 (fun _ => rfl) ?_
      obtain ⟨r19, U19, ha1a2c, ha1a2a⟩ := ha1a2
      refine ev_cal (σc := (d, 334, 0, [some (.inr (.inr 26)), some (.inl x1)], [], (am_sh, am_mm U2))) (fun _ => rfl) ha1a2c ?_
      show Ev (am_kz N X) ((d + 1), 323, 59, [some (.inr (.inr 26)), some (.inl x1), none], [.inl r19], (am_sh, am_mm U19)) R
      refine ev_br (P := r19 = 0) (σ1 := ((d + 1), 323, 85, [some (.inr (.inr 26)), some (.inl x1), none], [], (am_sh, am_mm U19))) (σ2 := ((d + 1), 323, 62, [some (.inr (.inr 26)), some (.inl x1), none], [], (am_sh, am_mm U19))) 1 (fun _ => rfl) (fun hc => ?_) (fun hc => ?_)
      · have ha1a2a1 := ha1a2a.1 hc
        exact ha1a2a1
      · have ha1a2a2 := ha1a2a.2 hc
        refine ev_seg (σ1 := ((d + 1), 323, 66, [some (.inr (.inr 26)), some (.inl x1), none], [.inl (w32 (x1 + 1)), .inr (.inr 26)], (am_sh, am_mm U19))) 4 (fun _ => rfl) ?_
        obtain ⟨r20, U20, ha1a2a2c, ha1a2a2a⟩ := ha1a2a2
        refine ev_cal (σc := (d, 256, 0, [some (.inr (.inr 26)), some (.inl (w32 (x1 + 1))), none, none], [], (am_sh, am_mm U19))) (fun _ => rfl) ha1a2a2c ?_
        show Ev (am_kz N X) ((d + 1), 323, 69, [some (.inr (.inr 26)), some (.inl x1), none], [.inl r20], (am_sh, am_mm U20)) R
        refine ev_br (P := r20 = 0) (σ1 := ((d + 1), 323, 85, [some (.inr (.inr 26)), some (.inl x1), none], [], (am_sh, am_mm U20))) (σ2 := ((d + 1), 323, 72, [some (.inr (.inr 26)), some (.inl x1), none], [], (am_sh, am_mm U20))) 1 (fun _ => rfl) (fun hc => ?_) (fun hc => ?_)
        · have ha1a2a2a1 := ha1a2a2a.1 hc
          exact ha1a2a2a1
        · have ha1a2a2a2 := ha1a2a2a.2 hc
          refine ev_seg (σ1 := ((d + 1), 323, 75, [some (.inr (.inr 26)), some (.inl x1), none], [.inl 93, .inr (.inr 26)], (am_sh, am_mm U20))) 2 (fun _ => rfl) ?_
          obtain ⟨r21, U21, ha1a2a2a2c, ha1a2a2a2a⟩ := ha1a2a2a2
          refine ev_cal (σc := (d, 263, 0, [some (.inr (.inr 26)), some (.inl 93)], [], (am_sh, am_mm U20))) (fun _ => rfl) ha1a2a2a2c ?_
          show Ev (am_kz N X) ((d + 1), 323, 78, [some (.inr (.inr 26)), some (.inl x1), none], [.inl r21], (am_sh, am_mm U21)) R
          refine ev_br (P := r21 = 0) (σ1 := ((d + 1), 323, 85, [some (.inr (.inr 26)), some (.inl x1), none], [], (am_sh, am_mm U21))) (σ2 := ((d + 1), 323, 81, [some (.inr (.inr 26)), some (.inl x1), none], [], (am_sh, am_mm U21))) 1 (fun _ => rfl) (fun hc => ?_) (fun hc => ?_)
          · have ha1a2a2a2a1 := ha1a2a2a2a.1 hc
            exact ha1a2a2a2a1
          · have ha1a2a2a2a2 := ha1a2a2a2a.2 hc
            subst ha1a2a2a2a2
            exact ev_end 3 (fun _ => rfl)
  · have ha2 := ha.2 hc
    refine ev_seg (σ1 := ((d + 1), 323, 11, [some (.inr (.inr 26)), some (.inl x1), none], [.inl x1, .inr (.inr 26)], (am_sh, am_mm U1))) 2 (fun _ => rfl) ?_
    obtain ⟨r22, U22, ha2c, ha2a⟩ := ha2
    refine ev_cal (σc := (d, 334, 0, [some (.inr (.inr 26)), some (.inl x1)], [], (am_sh, am_mm U1))) (fun _ => rfl) ha2c ?_
    show Ev (am_kz N X) ((d + 1), 323, 14, [some (.inr (.inr 26)), some (.inl x1), none], [.inl r22], (am_sh, am_mm U22)) R
    refine ev_br (P := r22 = 0) (σ1 := ((d + 1), 323, 43, [some (.inr (.inr 26)), some (.inl x1), none], [], (am_sh, am_mm U22))) (σ2 := ((d + 1), 323, 17, [some (.inr (.inr 26)), some (.inl x1), none], [], (am_sh, am_mm U22))) 1 (fun _ => rfl) (fun hc => ?_) (fun hc => ?_)
    · have ha2a1 := ha2a.1 hc
      exact ha2a1
    · have ha2a2 := ha2a.2 hc
      refine ev_seg (σ1 := ((d + 1), 323, 21, [some (.inr (.inr 26)), some (.inl x1), none], [.inl (w32 (x1 + 1)), .inr (.inr 26)], (am_sh, am_mm U22))) 4 (fun _ => rfl) ?_
      obtain ⟨r23, U23, ha2a2c, ha2a2a⟩ := ha2a2
      refine ev_cal (σc := (d, 323, 0, [some (.inr (.inr 26)), some (.inl (w32 (x1 + 1))), none], [], (am_sh, am_mm U22))) (fun _ => rfl) ha2a2c ?_
      show Ev (am_kz N X) ((d + 1), 323, 24, [some (.inr (.inr 26)), some (.inl x1), none], [.inl r23], (am_sh, am_mm U23)) R
      refine ev_br (P := r23 = 0) (σ1 := ((d + 1), 323, 43, [some (.inr (.inr 26)), some (.inl x1), none], [], (am_sh, am_mm U23))) (σ2 := ((d + 1), 323, 27, [some (.inr (.inr 26)), some (.inl x1), none], [], (am_sh, am_mm U23))) 1 (fun _ => rfl) (fun hc => ?_) (fun hc => ?_)
      · have ha2a2a1 := ha2a2a.1 hc
        exact ha2a2a1
      · have ha2a2a2 := ha2a2a.2 hc
        refine ev_seg (σ1 := ((d + 1), 323, 33, [some (.inr (.inr 26)), some (.inl x1), none], [.inl 21, .inr (.inr 31)], (am_sh, am_mm U23))) 3 (fun _ => rfl) ?_
        obtain ⟨r24, U24, ha2a2a2c, ha2a2a2a⟩ := ha2a2a2
        refine ev_cal (σc := (d, 304, 0, [some (.inr (.inr 31)), some (.inl 21)], [], (am_sh, am_mm U23))) (fun _ => rfl) ha2a2a2c ?_
        show Ev (am_kz N X) ((d + 1), 323, 36, [some (.inr (.inr 26)), some (.inl x1), none], [.inl r24], (am_sh, am_mm U24)) R
        refine ev_br (P := r24 = 0) (σ1 := ((d + 1), 323, 43, [some (.inr (.inr 26)), some (.inl x1), none], [], (am_sh, am_mm U24))) (σ2 := ((d + 1), 323, 39, [some (.inr (.inr 26)), some (.inl x1), none], [], (am_sh, am_mm U24))) 1 (fun _ => rfl) (fun hc => ?_) (fun hc => ?_)
        · have ha2a2a2a1 := ha2a2a2a.1 hc
          exact ha2a2a2a1
        · have ha2a2a2a2 := ha2a2a2a.2 hc
          subst ha2a2a2a2
          exact ev_end 3 (fun _ => rfl)
set_option maxRecDepth 8000 in
theorem st323_26_209 (N : Nat) (X : Nat → Int) (d : Nat) (x1 x2 : Int) (U : Nat → Nat → Int) (R : Option am_V × am_M) (h : ∃ U1 : Nat → Nat → Int, Ev (am_kz N X) (d, 177, 0, [some (.inr (.inr 26))], [], (am_sh, am_mm U)) (none, (am_sh, am_mm U1)) ∧ ∃ (r2 : Int) (U2 : Nat → Nat → Int), Ev (am_kz N X) (d, 335, 0, [some (.inr (.inr 26)), some (.inl x1), none, none, none], [], (am_sh, am_mm U1)) (some (.inl r2), (am_sh, am_mm U2)) ∧ (((r2 = 0 : Prop)) → R = (some (.inl 0), (am_sh, am_mm U2))) ∧ (¬ (r2 = 0) → ∃ (r3 : Int) (U3 : Nat → Nat → Int), Ev (am_kz N X) (d, 336, 0, [some (.inr (.inr 31)), some (.inl x2)], [], (am_sh, am_mm U2)) (some (.inl r3), (am_sh, am_mm U3)) ∧ (((r3 = 0 : Prop)) → R = (some (.inl 0), (am_sh, am_mm U3))) ∧ (¬ (r3 = 0) → R = (some (.inl 1), (am_sh, am_mm U3))))) : Ev (am_kz N X) ((d + 1), 323, 209, [some (.inr (.inr 26)), some (.inl x1), some (.inl x2)], [], (am_sh, am_mm U)) R := by
  refine ev_seg (σ1 := ((d + 1), 323, 210, [some (.inr (.inr 26)), some (.inl x1), some (.inl x2)], [.inr (.inr 26)], (am_sh, am_mm U))) 1 (fun _ => rfl) ?_
  obtain ⟨U1, hc, ha⟩ := h
  refine ev_cal (σc := (d, 177, 0, [some (.inr (.inr 26))], [], (am_sh, am_mm U))) (fun _ => rfl) hc ?_
  show Ev (am_kz N X) ((d + 1), 323, 213, [some (.inr (.inr 26)), some (.inl x1), some (.inl x2)], [], (am_sh, am_mm U1)) R
  refine ev_seg (σ1 := ((d + 1), 323, 215, [some (.inr (.inr 26)), some (.inl x1), some (.inl x2)], [.inl x1, .inr (.inr 26)], (am_sh, am_mm U1))) 2 (fun _ => rfl) ?_
  obtain ⟨r2, U2, hac, haa⟩ := ha
  refine ev_cal (σc := (d, 335, 0, [some (.inr (.inr 26)), some (.inl x1), none, none, none], [], (am_sh, am_mm U1))) (fun _ => rfl) hac ?_
  show Ev (am_kz N X) ((d + 1), 323, 218, [some (.inr (.inr 26)), some (.inl x1), some (.inl x2)], [.inl r2], (am_sh, am_mm U2)) R
  refine ev_br (P := r2 = 0) (σ1 := ((d + 1), 323, 236, [some (.inr (.inr 26)), some (.inl x1), some (.inl x2)], [], (am_sh, am_mm U2))) (σ2 := ((d + 1), 323, 221, [some (.inr (.inr 26)), some (.inl x1), some (.inl x2)], [], (am_sh, am_mm U2))) 1 (fun _ => rfl) (fun hc => ?_) (fun hc => ?_)
  · have haa1 := haa.1 hc
    subst haa1
    exact ev_end 2 (fun _ => rfl)
  · have haa2 := haa.2 hc
    refine ev_seg (σ1 := ((d + 1), 323, 226, [some (.inr (.inr 26)), some (.inl x1), some (.inl x2)], [.inl x2, .inr (.inr 31)], (am_sh, am_mm U2))) 3 (fun _ => rfl) ?_
    obtain ⟨r3, U3, haa2c, haa2a⟩ := haa2
    refine ev_cal (σc := (d, 336, 0, [some (.inr (.inr 31)), some (.inl x2)], [], (am_sh, am_mm U2))) (fun _ => rfl) haa2c ?_
    show Ev (am_kz N X) ((d + 1), 323, 229, [some (.inr (.inr 26)), some (.inl x1), some (.inl x2)], [.inl r3], (am_sh, am_mm U3)) R
    refine ev_br (P := r3 = 0) (σ1 := ((d + 1), 323, 236, [some (.inr (.inr 26)), some (.inl x1), some (.inl x2)], [], (am_sh, am_mm U3))) (σ2 := ((d + 1), 323, 232, [some (.inr (.inr 26)), some (.inl x1), some (.inl x2)], [], (am_sh, am_mm U3))) 1 (fun _ => rfl) (fun hc => ?_) (fun hc => ?_)
    · have haa2a1 := haa2a.1 hc
      subst haa2a1
      exact ev_end 2 (fun _ => rfl)
    · have haa2a2 := haa2a.2 hc
      subst haa2a2
      exact ev_end 3 (fun _ => rfl)
set_option maxRecDepth 8000 in
theorem st323_26_85 (N : Nat) (X : Nat → Int) (d : Nat) (x1 : Int) (U : Nat → Nat → Int) (R : Option am_V × am_M) (h : R = (some (.inl 0), (am_sh, am_mm U))) : Ev (am_kz N X) ((d + 1), 323, 85, [some (.inr (.inr 26)), some (.inl x1), none], [], (am_sh, am_mm U)) R := by
  subst h
  exact ev_end 2 (fun _ => rfl)
set_option maxRecDepth 8000 in
theorem st323_26_43 (N : Nat) (X : Nat → Int) (d : Nat) (x1 : Int) (U : Nat → Nat → Int) (R : Option am_V × am_M) (h : R = (some (.inl 0), (am_sh, am_mm U))) : Ev (am_kz N X) ((d + 1), 323, 43, [some (.inr (.inr 26)), some (.inl x1), none], [], (am_sh, am_mm U)) R := by
  subst h
  exact ev_end 2 (fun _ => rfl)
set_option maxRecDepth 8000 in
theorem st317_27_2_0 (N : Nat) (X : Nat → Int) (d : Nat) (x2 x3 x4 : Int) (U : Nat → Nat → Int) (R : Option am_V × am_M) (h : Ev (am_kz N X) ((d + 1), 317, 3, [some (.inr (.inr 27)), some (.inr (.inr 2)), some (.inl x2), some (.inl x3), some (.inl x4), some (.inl 0)], [], (am_sh, am_mm U)) R) : Ev (am_kz N X) ((d + 1), 317, 0, [some (.inr (.inr 27)), some (.inr (.inr 2)), some (.inl x2), some (.inl x3), some (.inl x4), none], [], (am_sh, am_mm U)) R := by
  refine ev_seg (σ1 := ((d + 1), 317, 3, [some (.inr (.inr 27)), some (.inr (.inr 2)), some (.inl x2), some (.inl x3), some (.inl x4), some (.inl 0)], [], (am_sh, am_mm U))) 2 (fun _ => rfl) ?_
  exact h
set_option maxRecDepth 8000 in
theorem st317_27_2_3 (N : Nat) (X : Nat → Int) (d : Nat) (x2 x3 x4 x5 : Int) (U : Nat → Nat → Int) (R : Option am_V × am_M) (h : (((25 < x5 : Prop)) → ∃ U1 : Nat → Nat → Int, Ev (am_kz N X) (d, 248, 0, [some (.inr (.inr 27)), some (.inl 2), some (.inl x4), some (.inl x2)], [], (am_sh, am_mm U)) (none, (am_sh, am_mm U1)) ∧ R = (none, (am_sh, am_mm U1))) ∧ (¬ (25 < x5) → ∃ (r2 : Int) (U2 : Nat → Nat → Int), Ev (am_kz N X) (d, 330, 0, [some (.inr (.inr 2)), some (.inl x2), some (.inl x3), some (.inl x5), none, none, none], [], (am_sh, am_mm U)) (some (.inl r2), (am_sh, am_mm U2)) ∧ (((r2 = 0 : Prop)) → Ev (am_kz N X) ((d + 1), 317, 3, [some (.inr (.inr 27)), some (.inr (.inr 2)), some (.inl x2), some (.inl x3), some (.inl x4), some (.inl (w32 (x5 + 1)))], [], (am_sh, am_mm U2)) R) ∧ (¬ (r2 = 0) → ∃ U3 : Nat → Nat → Int, Ev (am_kz N X) (d, 248, 0, [some (.inr (.inr 27)), some (.inl 1), some (.inl x5), some (.inl x2)], [], (am_sh, am_mm U2)) (none, (am_sh, am_mm U3)) ∧ R = (none, (am_sh, am_mm U3))))) : Ev (am_kz N X) ((d + 1), 317, 3, [some (.inr (.inr 27)), some (.inr (.inr 2)), some (.inl x2), some (.inl x3), some (.inl x4), some (.inl x5)], [], (am_sh, am_mm U)) R := by
  refine ev_br (P := 25 < x5) (σ1 := ((d + 1), 317, 36, [some (.inr (.inr 27)), some (.inr (.inr 2)), some (.inl x2), some (.inl x3), some (.inl x4), some (.inl x5)], [], (am_sh, am_mm U))) (σ2 := ((d + 1), 317, 10, [some (.inr (.inr 27)), some (.inr (.inr 2)), some (.inl x2), some (.inl x3), some (.inl x4), some (.inl x5)], [], (am_sh, am_mm U))) 3 (fun _ => rfl) (fun hc => ?_) (fun hc => ?_)
  · have h1 := h.1 hc
    refine ev_seg (σ1 := ((d + 1), 317, 41, [some (.inr (.inr 27)), some (.inr (.inr 2)), some (.inl x2), some (.inl x3), some (.inl x4), some (.inl x5)], [.inl x2, .inl x4, .inl 2, .inr (.inr 27)], (am_sh, am_mm U))) 4 (fun _ => rfl) ?_
    obtain ⟨U1, h1c, h1a⟩ := h1
    refine ev_cal (σc := (d, 248, 0, [some (.inr (.inr 27)), some (.inl 2), some (.inl x4), some (.inl x2)], [], (am_sh, am_mm U))) (fun _ => rfl) h1c ?_
    show Ev (am_kz N X) ((d + 1), 317, 44, [some (.inr (.inr 27)), some (.inr (.inr 2)), some (.inl x2), some (.inl x3), some (.inl x4), some (.inl x5)], [], (am_sh, am_mm U1)) R
    subst h1a
    exact ev_end 1 (fun _ => rfl)
  · have h2 := h.2 hc
    refine ev_seg (σ1 := ((d + 1), 317, 15, [some (.inr (.inr 27)), some (.inr (.inr 2)), some (.inl x2), some (.inl x3), some (.inl x4), some (.inl x5)], [.inl x5, .inl x3, .inl x2, .inr (.inr 2)], (am_sh, am_mm U))) 4 (fun _ => rfl) ?_
    obtain ⟨r2, U2, h2c, h2a⟩ := h2
    refine ev_cal (σc := (d, 330, 0, [some (.inr (.inr 2)), some (.inl x2), some (.inl x3), some (.inl x5), none, none, none], [], (am_sh, am_mm U))) (fun _ => rfl) h2c ?_
    show Ev (am_kz N X) ((d + 1), 317, 18, [some (.inr (.inr 27)), some (.inr (.inr 2)), some (.inl x2), some (.inl x3), some (.inl x4), some (.inl x5)], [.inl r2], (am_sh, am_mm U2)) R
    refine ev_br (P := r2 = 0) (σ1 := ((d + 1), 317, 30, [some (.inr (.inr 27)), some (.inr (.inr 2)), some (.inl x2), some (.inl x3), some (.inl x4), some (.inl x5)], [], (am_sh, am_mm U2))) (σ2 := ((d + 1), 317, 21, [some (.inr (.inr 27)), some (.inr (.inr 2)), some (.inl x2), some (.inl x3), some (.inl x4), some (.inl x5)], [], (am_sh, am_mm U2))) 1 (fun _ => rfl) (fun hc => ?_) (fun hc => ?_)
    · have h2a1 := h2a.1 hc
      refine ev_seg (σ1 := ((d + 1), 317, 3, [some (.inr (.inr 27)), some (.inr (.inr 2)), some (.inl x2), some (.inl x3), some (.inl x4), some (.inl (w32 (x5 + 1)))], [], (am_sh, am_mm U2))) 2 (fun _ => rfl) ?_
      exact h2a1
    · have h2a2 := h2a.2 hc
      refine ev_seg (σ1 := ((d + 1), 317, 26, [some (.inr (.inr 27)), some (.inr (.inr 2)), some (.inl x2), some (.inl x3), some (.inl x4), some (.inl x5)], [.inl x2, .inl x5, .inl 1, .inr (.inr 27)], (am_sh, am_mm U2))) 4 (fun _ => rfl) ?_
      obtain ⟨U3, h2a2c, h2a2a⟩ := h2a2
      refine ev_cal (σc := (d, 248, 0, [some (.inr (.inr 27)), some (.inl 1), some (.inl x5), some (.inl x2)], [], (am_sh, am_mm U2))) (fun _ => rfl) h2a2c ?_
      show Ev (am_kz N X) ((d + 1), 317, 29, [some (.inr (.inr 27)), some (.inr (.inr 2)), some (.inl x2), some (.inl x3), some (.inl x4), some (.inl x5)], [], (am_sh, am_mm U3)) R
      subst h2a2a
      exact ev_end 1 (fun _ => rfl)
set_option maxRecDepth 8000 in
theorem st329_86_0 (N : Nat) (X : Nat → Int) (d : Nat) (x1 : Int) (U : Nat → Nat → Int) (R : Option am_V × am_M) (h : (0 ≤ (w32 ((U 86 46) - 1)) ∧ (w32 ((U 86 46) - 1)) < 20) ∧ ((((U 86 49) ≤ (U 117 (w32 ((U 86 46) - 1)).toNat) : Prop)) → R = (none, (am_sh, am_mm U))) ∧ (¬ ((U 86 49) ≤ (U 117 (w32 ((U 86 46) - 1)).toNat)) → (0 ≤ (w32 ((U 86 49) - 1)) ∧ (w32 ((U 86 49) - 1)) < 500) ∧ ∃ (r1 : Int) (U1 : Nat → Nat → Int), Ev (am_kz N X) (d, 337, 0, [some (.inl (U 118 (w32 ((U 86 49) - 1)).toNat))], [], (am_sh, am_mm U)) (some (.inl r1), (am_sh, am_mm U1)) ∧ (((r1 < x1 : Prop)) → R = (none, (am_sh, am_mm U1))) ∧ (¬ (r1 < x1) → (0 ≤ ((am_upd U1 86 49 (w32 ((U1 86 49) - 1))) 86 49) ∧ ((am_upd U1 86 49 (w32 ((U1 86 49) - 1))) 86 49) < 500) ∧ ∃ U2 : Nat → Nat → Int, Ev (am_kz N X) (d, 328, 0, [some (.inr (.inr 86)), some (.inl ((am_upd U1 86 49 (w32 ((U1 86 49) - 1))) 118 ((am_upd U1 86 49 (w32 ((U1 86 49) - 1))) 86 49).toNat)), some (.inl 0)], [], (am_sh, am_mm (am_upd U1 86 49 (w32 ((U1 86 49) - 1))))) (none, (am_sh, am_mm U2)) ∧ (0 ≤ (U2 86 49) ∧ (U2 86 49) < 500) ∧ (((¬ (U2 118 (U2 86 49).toNat) = 22 : Prop)) → Ev (am_kz N X) ((d + 1), 329, 0, [some (.inr (.inr 86)), some (.inl x1)], [], (am_sh, am_mm U2)) R) ∧ (¬ (¬ (U2 118 (U2 86 49).toNat) = 22) → Ev (am_kz N X) ((d + 1), 329, 0, [some (.inr (.inr 86)), some (.inl x1)], [], (am_sh, am_mm (am_upd U2 86 47 (w32 ((U2 86 47) - 1))))) R)))) : Ev (am_kz N X) ((d + 1), 329, 0, [some (.inr (.inr 86)), some (.inl x1)], [], (am_sh, am_mm U)) R := by
  refine ev_seg (σ1 := ((d + 1), 329, 14, [some (.inr (.inr 86)), some (.inl x1)], [.inl (w32 ((U 86 46) - 1)), .inr (.inr 117), .inl (U 86 49)], (am_sh, am_mm U))) 8 (fun _ => rfl) ?_
  refine eu_iald 117 (n := 20) rfl (by decide) rfl (fun _ => rfl) h.1 ?_
  have ha := h.2
  refine ev_br (P := (U 86 49) ≤ (U 117 (w32 ((U 86 46) - 1)).toNat)) (σ1 := ((d + 1), 329, 87, [some (.inr (.inr 86)), some (.inl x1)], [], (am_sh, am_mm U))) (σ2 := ((d + 1), 329, 18, [some (.inr (.inr 86)), some (.inl x1)], [], (am_sh, am_mm U))) 1 (fun _ => rfl) (fun hc => ?_) (fun hc => ?_)
  · have ha1 := ha.1 hc
    subst ha1
    exact ev_end 1 (fun _ => rfl)
  · have ha2 := ha.2 hc
    refine ev_seg (σ1 := ((d + 1), 329, 28, [some (.inr (.inr 86)), some (.inl x1)], [.inl (w32 ((U 86 49) - 1)), .inr (.inr 118)], (am_sh, am_mm U))) 6 (fun _ => rfl) ?_
    refine eu_iald 118 (n := 500) rfl (by decide) rfl (fun _ => rfl) ha2.1 ?_
    have ha2a := ha2.2
    obtain ⟨r1, U1, ha2ac, ha2aa⟩ := ha2a
    refine ev_cal (σc := (d, 337, 0, [some (.inl (U 118 (w32 ((U 86 49) - 1)).toNat))], [], (am_sh, am_mm U))) (fun _ => rfl) ha2ac ?_
    show Ev (am_kz N X) ((d + 1), 329, 32, [some (.inr (.inr 86)), some (.inl x1)], [.inl r1], (am_sh, am_mm U1)) R
    refine ev_br (P := r1 < x1) (σ1 := ((d + 1), 329, 87, [some (.inr (.inr 86)), some (.inl x1)], [], (am_sh, am_mm U1))) (σ2 := ((d + 1), 329, 36, [some (.inr (.inr 86)), some (.inl x1)], [], (am_sh, am_mm U1))) 2 (fun _ => rfl) (fun hc => ?_) (fun hc => ?_)
    · have ha2aa1 := ha2aa.1 hc
      subst ha2aa1
      exact ev_end 1 (fun _ => rfl)
    · have ha2aa2 := ha2aa.2 hc
      refine ev_seg (σ1 := ((d + 1), 329, 43, [some (.inr (.inr 86)), some (.inl x1)], [.inl (w32 ((U1 86 49) - 1)), .inr (.inr 86)], (am_sh, am_mm U1))) 5 (fun _ => rfl) ?_
      refine eu_puti 86 (n := 90) rfl (by decide) rfl rfl ?_
      refine ev_seg (σ1 := ((d + 1), 329, 55, [some (.inr (.inr 86)), some (.inl x1)], [.inl ((am_upd U1 86 49 (w32 ((U1 86 49) - 1))) 86 49), .inr (.inr 118), .inr (.inr 86)], (am_sh, am_mm (am_upd U1 86 49 (w32 ((U1 86 49) - 1)))))) 5 (fun _ => rfl) ?_
      refine eu_iald 118 (n := 500) rfl (by decide) rfl (fun _ => rfl) ha2aa2.1 ?_
      have ha2aa2a := ha2aa2.2
      refine ev_seg (σ1 := ((d + 1), 329, 57, [some (.inr (.inr 86)), some (.inl x1)], [.inl 0, .inl ((am_upd U1 86 49 (w32 ((U1 86 49) - 1))) 118 ((am_upd U1 86 49 (w32 ((U1 86 49) - 1))) 86 49).toNat), .inr (.inr 86)], (am_sh, am_mm (am_upd U1 86 49 (w32 ((U1 86 49) - 1)))))) 1 (fun _ => rfl) ?_
      obtain ⟨U2, ha2aa2ac, ha2aa2aa⟩ := ha2aa2a
      refine ev_cal (σc := (d, 328, 0, [some (.inr (.inr 86)), some (.inl ((am_upd U1 86 49 (w32 ((U1 86 49) - 1))) 118 ((am_upd U1 86 49 (w32 ((U1 86 49) - 1))) 86 49).toNat)), some (.inl 0)], [], (am_sh, am_mm (am_upd U1 86 49 (w32 ((U1 86 49) - 1)))))) (fun _ => rfl) ha2aa2ac ?_
      show Ev (am_kz N X) ((d + 1), 329, 60, [some (.inr (.inr 86)), some (.inl x1)], [], (am_sh, am_mm U2)) R
      refine ev_seg (σ1 := ((d + 1), 329, 68, [some (.inr (.inr 86)), some (.inl x1)], [.inl (U2 86 49), .inr (.inr 118)], (am_sh, am_mm U2))) 4 (fun _ => rfl) ?_
      refine eu_iald 118 (n := 500) rfl (by decide) rfl (fun _ => rfl) ha2aa2aa.1 ?_
      have ha2aa2aaa := ha2aa2aa.2
      refine ev_br (P := ¬ (U2 118 (U2 86 49).toNat) = 22) (σ1 := ((d + 1), 329, 0, [some (.inr (.inr 86)), some (.inl x1)], [], (am_sh, am_mm U2))) (σ2 := ((d + 1), 329, 74, [some (.inr (.inr 86)), some (.inl x1)], [], (am_sh, am_mm U2))) 2 (fun _ => rfl) (fun hc => ?_) (fun hc => ?_)
      · have ha2aa2aaa1 := ha2aa2aaa.1 hc
        exact ha2aa2aaa1
      · have ha2aa2aaa2 := ha2aa2aaa.2 hc
        refine ev_seg (σ1 := ((d + 1), 329, 81, [some (.inr (.inr 86)), some (.inl x1)], [.inl (w32 ((U2 86 47) - 1)), .inr (.inr 86)], (am_sh, am_mm U2))) 5 (fun _ => rfl) ?_
        refine eu_puti 86 (n := 90) rfl (by decide) rfl rfl ?_
        refine ev_seg (σ1 := ((d + 1), 329, 0, [some (.inr (.inr 86)), some (.inl x1)], [], (am_sh, am_mm (am_upd U2 86 47 (w32 ((U2 86 47) - 1)))))) 1 (fun _ => rfl) ?_
        exact ha2aa2aaa2
set_option maxRecDepth 8000 in
theorem st325_0 (N : Nat) (X : Nat → Int) (d : Nat) (x0 : Int) (U : Nat → Nat → Int) (R : Option am_V × am_M) (h : (((x0 = 1 : Prop)) → R = (some (.inl 1), (am_sh, am_mm U))) ∧ (¬ (x0 = 1) → (((¬ x0 = 5 : Prop)) → R = (some (.inl 0), (am_sh, am_mm U))) ∧ (¬ (¬ x0 = 5) → R = (some (.inl 1), (am_sh, am_mm U))))) : Ev (am_kz N X) (d, 325, 0, [some (.inl x0)], [], (am_sh, am_mm U)) R := by
  refine ev_br (P := x0 = 1) (σ1 := (d, 325, 10, [some (.inl x0)], [], (am_sh, am_mm U))) (σ2 := (d, 325, 5, [some (.inl x0)], [], (am_sh, am_mm U))) 3 (fun _ => rfl) (fun hc => ?_) (fun hc => ?_)
  · have h1 := h.1 hc
    subst h1
    exact ev_end 3 (fun _ => rfl)
  · have h2 := h.2 hc
    refine ev_br (P := ¬ x0 = 5) (σ1 := (d, 325, 14, [some (.inl x0)], [], (am_sh, am_mm U))) (σ2 := (d, 325, 10, [some (.inl x0)], [], (am_sh, am_mm U))) 3 (fun _ => rfl) (fun hc => ?_) (fun hc => ?_)
    · have h21 := h2.1 hc
      subst h21
      exact ev_end 2 (fun _ => rfl)
    · have h22 := h2.2 hc
      subst h22
      exact ev_end 3 (fun _ => rfl)
set_option maxRecDepth 8000 in
theorem st328_86_0 (N : Nat) (X : Nat → Int) (d : Nat) (x1 x2 : Int) (U : Nat → Nat → Int) (R : Option am_V × am_M) (h : (0 ≤ (w32 ((w32 (1600 * (U 86 40))) + (U 86 39))) ∧ (w32 ((w32 (1600 * (U 86 40))) + (U 86 39))) < 3200) ∧ (0 ≤ (w32 ((w32 (1600 * ((am_upd U 111 (w32 ((w32 (1600 * (U 86 40))) + (U 86 39))).toNat x1) 86 40))) + ((am_upd U 111 (w32 ((w32 (1600 * (U 86 40))) + (U 86 39))).toNat x1) 86 39))) ∧ (w32 ((w32 (1600 * ((am_upd U 111 (w32 ((w32 (1600 * (U 86 40))) + (U 86 39))).toNat x1) 86 40))) + ((am_upd U 111 (w32 ((w32 (1600 * (U 86 40))) + (U 86 39))).toNat x1) 86 39))) < 3200) ∧ R = (none, (am_sh, am_mm (am_upd (am_upd (am_upd U 111 (w32 ((w32 (1600 * (U 86 40))) + (U 86 39))).toNat x1) 112 (w32 ((w32 (1600 * ((am_upd U 111 (w32 ((w32 (1600 * (U 86 40))) + (U 86 39))).toNat x1) 86 40))) + ((am_upd U 111 (w32 ((w32 (1600 * (U 86 40))) + (U 86 39))).toNat x1) 86 39))).toNat x2) 86 39 (w32 (((am_upd (am_upd U 111 (w32 ((w32 (1600 * (U 86 40))) + (U 86 39))).toNat x1) 112 (w32 ((w32 (1600 * ((am_upd U 111 (w32 ((w32 (1600 * (U 86 40))) + (U 86 39))).toNat x1) 86 40))) + ((am_upd U 111 (w32 ((w32 (1600 * (U 86 40))) + (U 86 39))).toNat x1) 86 39))).toNat x2) 86 39) + 1)))))) : Ev (am_kz N X) (d, 328, 0, [some (.inr (.inr 86)), some (.inl x1), some (.inl x2)], [], (am_sh, am_mm U)) R := by
  refine ev_seg (σ1 := (d, 328, 18, [some (.inr (.inr 86)), some (.inl x1), some (.inl x2)], [.inl x1, .inl (w32 ((w32 (1600 * (U 86 40))) + (U 86 39))), .inr (.inr 111)], (am_sh, am_mm U))) 10 (fun _ => rfl) ?_
  refine eu_iast 111 (n := 3200) rfl (by decide) rfl (fun _ => rfl) h.1 ?_
  have ha := h.2
  refine ev_seg (σ1 := (d, 328, 37, [some (.inr (.inr 86)), some (.inl x1), some (.inl x2)], [.inl x2, .inl (w32 ((w32 (1600 * ((am_upd U 111 (w32 ((w32 (1600 * (U 86 40))) + (U 86 39))).toNat x1) 86 40))) + ((am_upd U 111 (w32 ((w32 (1600 * (U 86 40))) + (U 86 39))).toNat x1) 86 39))), .inr (.inr 112)], (am_sh, am_mm (am_upd U 111 (w32 ((w32 (1600 * (U 86 40))) + (U 86 39))).toNat x1)))) 10 (fun _ => rfl) ?_
  refine eu_iast 112 (n := 3200) rfl (by decide) rfl (fun _ => rfl) ha.1 ?_
  have haa := ha.2
  refine ev_seg (σ1 := (d, 328, 45, [some (.inr (.inr 86)), some (.inl x1), some (.inl x2)], [.inl (w32 (((am_upd (am_upd U 111 (w32 ((w32 (1600 * (U 86 40))) + (U 86 39))).toNat x1) 112 (w32 ((w32 (1600 * ((am_upd U 111 (w32 ((w32 (1600 * (U 86 40))) + (U 86 39))).toNat x1) 86 40))) + ((am_upd U 111 (w32 ((w32 (1600 * (U 86 40))) + (U 86 39))).toNat x1) 86 39))).toNat x2) 86 39) + 1)), .inr (.inr 86)], (am_sh, am_mm (am_upd (am_upd U 111 (w32 ((w32 (1600 * (U 86 40))) + (U 86 39))).toNat x1) 112 (w32 ((w32 (1600 * ((am_upd U 111 (w32 ((w32 (1600 * (U 86 40))) + (U 86 39))).toNat x1) 86 40))) + ((am_upd U 111 (w32 ((w32 (1600 * (U 86 40))) + (U 86 39))).toNat x1) 86 39))).toNat x2)))) 5 (fun _ => rfl) ?_
  refine eu_puti 86 (n := 90) rfl (by decide) rfl rfl ?_
  subst haa
  exact ev_end 1 (fun _ => rfl)
set_option maxRecDepth 8000 in
theorem st326_86_0 (N : Nat) (X : Nat → Int) (d : Nat) (x1 : Int) (U : Nat → Nat → Int) (R : Option am_V × am_M) (h : (0 ≤ (U 86 49) ∧ (U 86 49) < 500) ∧ R = (none, (am_sh, am_mm (am_upd (am_upd U 118 (U 86 49).toNat x1) 86 49 (w32 (((am_upd U 118 (U 86 49).toNat x1) 86 49) + 1)))))) : Ev (am_kz N X) (d, 326, 0, [some (.inr (.inr 86)), some (.inl x1)], [], (am_sh, am_mm U)) R := by
  refine ev_seg (σ1 := (d, 326, 9, [some (.inr (.inr 86)), some (.inl x1)], [.inl x1, .inl (U 86 49), .inr (.inr 118)], (am_sh, am_mm U))) 5 (fun _ => rfl) ?_
  refine eu_iast 118 (n := 500) rfl (by decide) rfl (fun _ => rfl) h.1 ?_
  have ha := h.2
  refine ev_seg (σ1 := (d, 326, 17, [some (.inr (.inr 86)), some (.inl x1)], [.inl (w32 (((am_upd U 118 (U 86 49).toNat x1) 86 49) + 1)), .inr (.inr 86)], (am_sh, am_mm (am_upd U 118 (U 86 49).toNat x1)))) 5 (fun _ => rfl) ?_
  refine eu_puti 86 (n := 90) rfl (by decide) rfl rfl ?_
  subst ha
  exact ev_end 1 (fun _ => rfl)
set_option maxRecDepth 8000 in
theorem st327_86_0 (N : Nat) (X : Nat → Int) (d : Nat) (x1 : Int) (U : Nat → Nat → Int) (R : Option am_V × am_M) (h : (((¬ (U 86 47) = 7 : Prop)) → ((((U 86 8) ≤ 0 : Prop)) → ∃ U1 : Nat → Nat → Int, Ev (am_kz N X) (d, 93, 0, [some (.inr (.inr 86)), none, none, none, none, none], [], (am_sh, am_mm (am_upd U 86 47 (w32 ((U 86 47) + 1))))) (none, (am_sh, am_mm U1)) ∧ ∃ U2 : Nat → Nat → Int, Ev (am_kz N X) (d, 308, 0, [some (.inr (.inr 86)), some (.inl x1)], [], (am_sh, am_mm U1)) (none, (am_sh, am_mm U2)) ∧ R = (none, (am_sh, am_mm U2))) ∧ (¬ ((U 86 8) ≤ 0) → R = (none, (am_sh, am_mm U)))) ∧ (¬ (¬ (U 86 47) = 7) → ∃ U3 : Nat → Nat → Int, Ev (am_kz N X) (d, 196, 0, [some (.inr (.inr 86)), some (.inl 5), some (.inl (U 86 4))], [], (am_sh, am_mm U)) (none, (am_sh, am_mm U3)) ∧ ((((U3 86 8) ≤ 0 : Prop)) → ∃ U4 : Nat → Nat → Int, Ev (am_kz N X) (d, 93, 0, [some (.inr (.inr 86)), none, none, none, none, none], [], (am_sh, am_mm (am_upd U3 86 47 (w32 ((U3 86 47) + 1))))) (none, (am_sh, am_mm U4)) ∧ ∃ U5 : Nat → Nat → Int, Ev (am_kz N X) (d, 308, 0, [some (.inr (.inr 86)), some (.inl x1)], [], (am_sh, am_mm U4)) (none, (am_sh, am_mm U5)) ∧ R = (none, (am_sh, am_mm U5))) ∧ (¬ ((U3 86 8) ≤ 0) → R = (none, (am_sh, am_mm U3))))) : Ev (am_kz N X) ((d + 1), 327, 0, [some (.inr (.inr 86)), some (.inl x1)], [], (am_sh, am_mm U)) R := by
  refine ev_br (P := ¬ (U 86 47) = 7) (σ1 := ((d + 1), 327, 18, [some (.inr (.inr 86)), some (.inl x1)], [], (am_sh, am_mm U))) (σ2 := ((d + 1), 327, 9, [some (.inr (.inr 86)), some (.inl x1)], [], (am_sh, am_mm U))) 4 (fun _ => rfl) (fun hc => ?_) (fun hc => ?_)
  · have h1 := h.1 hc
    refine ev_br (P := (U 86 8) ≤ 0) (σ1 := ((d + 1), 327, 26, [some (.inr (.inr 86)), some (.inl x1)], [], (am_sh, am_mm U))) (σ2 := ((d + 1), 327, 25, [some (.inr (.inr 86)), some (.inl x1)], [], (am_sh, am_mm U))) 3 (fun _ => rfl) (fun hc => ?_) (fun hc => ?_)
    · have h11 := h1.1 hc
      refine ev_seg (σ1 := ((d + 1), 327, 33, [some (.inr (.inr 86)), some (.inl x1)], [.inl (w32 ((U 86 47) + 1)), .inr (.inr 86)], (am_sh, am_mm U))) 5 (fun _ => rfl) ?_
      refine eu_puti 86 (n := 90) rfl (by decide) rfl rfl ?_
      refine ev_seg (σ1 := ((d + 1), 327, 37, [some (.inr (.inr 86)), some (.inl x1)], [.inr (.inr 86)], (am_sh, am_mm (am_upd U 86 47 (w32 ((U 86 47) + 1)))))) 1 (fun _ => rfl) ?_
      obtain ⟨U1, h11c, h11a⟩ := h11
      refine ev_cal (σc := (d, 93, 0, [some (.inr (.inr 86)), none, none, none, none, none], [], (am_sh, am_mm (am_upd U 86 47 (w32 ((U 86 47) + 1)))))) (fun _ => rfl) h11c ?_
      show Ev (am_kz N X) ((d + 1), 327, 40, [some (.inr (.inr 86)), some (.inl x1)], [], (am_sh, am_mm U1)) R
      refine ev_seg (σ1 := ((d + 1), 327, 42, [some (.inr (.inr 86)), some (.inl x1)], [.inl x1, .inr (.inr 86)], (am_sh, am_mm U1))) 2 (fun _ => rfl) ?_
      obtain ⟨U2, h11ac, h11aa⟩ := h11a
      refine ev_cal (σc := (d, 308, 0, [some (.inr (.inr 86)), some (.inl x1)], [], (am_sh, am_mm U1))) (fun _ => rfl) h11ac ?_
      show Ev (am_kz N X) ((d + 1), 327, 45, [some (.inr (.inr 86)), some (.inl x1)], [], (am_sh, am_mm U2)) R
      subst h11aa
      exact ev_end 1 (fun _ => rfl)
    · have h12 := h1.2 hc
      subst h12
      exact ev_end 1 (fun _ => rfl)
  · have h2 := h.2 hc
    refine ev_seg (σ1 := ((d + 1), 327, 15, [some (.inr (.inr 86)), some (.inl x1)], [.inl (U 86 4), .inl 5, .inr (.inr 86)], (am_sh, am_mm U))) 4 (fun _ => rfl) ?_
    obtain ⟨U3, h2c, h2a⟩ := h2
    refine ev_cal (σc := (d, 196, 0, [some (.inr (.inr 86)), some (.inl 5), some (.inl (U 86 4))], [], (am_sh, am_mm U))) (fun _ => rfl) h2c ?_
    show Ev (am_kz N X) ((d + 1), 327, 18, [some (.inr (.inr 86)), some (.inl x1)], [], (am_sh, am_mm U3)) R
    refine ev_br (P := (U3 86 8) ≤ 0) (σ1 := ((d + 1), 327, 26, [some (.inr (.inr 86)), some (.inl x1)], [], (am_sh, am_mm U3))) (σ2 := ((d + 1), 327, 25, [some (.inr (.inr 86)), some (.inl x1)], [], (am_sh, am_mm U3))) 3 (fun _ => rfl) (fun hc => ?_) (fun hc => ?_)
    · have h2a1 := h2a.1 hc
      refine ev_seg (σ1 := ((d + 1), 327, 33, [some (.inr (.inr 86)), some (.inl x1)], [.inl (w32 ((U3 86 47) + 1)), .inr (.inr 86)], (am_sh, am_mm U3))) 5 (fun _ => rfl) ?_
      refine eu_puti 86 (n := 90) rfl (by decide) rfl rfl ?_
      refine ev_seg (σ1 := ((d + 1), 327, 37, [some (.inr (.inr 86)), some (.inl x1)], [.inr (.inr 86)], (am_sh, am_mm (am_upd U3 86 47 (w32 ((U3 86 47) + 1)))))) 1 (fun _ => rfl) ?_
      obtain ⟨U4, h2a1c, h2a1a⟩ := h2a1
      refine ev_cal (σc := (d, 93, 0, [some (.inr (.inr 86)), none, none, none, none, none], [], (am_sh, am_mm (am_upd U3 86 47 (w32 ((U3 86 47) + 1)))))) (fun _ => rfl) h2a1c ?_
      show Ev (am_kz N X) ((d + 1), 327, 40, [some (.inr (.inr 86)), some (.inl x1)], [], (am_sh, am_mm U4)) R
      refine ev_seg (σ1 := ((d + 1), 327, 42, [some (.inr (.inr 86)), some (.inl x1)], [.inl x1, .inr (.inr 86)], (am_sh, am_mm U4))) 2 (fun _ => rfl) ?_
      obtain ⟨U5, h2a1ac, h2a1aa⟩ := h2a1a
      refine ev_cal (σc := (d, 308, 0, [some (.inr (.inr 86)), some (.inl x1)], [], (am_sh, am_mm U4))) (fun _ => rfl) h2a1ac ?_
      show Ev (am_kz N X) ((d + 1), 327, 45, [some (.inr (.inr 86)), some (.inl x1)], [], (am_sh, am_mm U5)) R
      subst h2a1aa
      exact ev_end 1 (fun _ => rfl)
    · have h2a2 := h2a.2 hc
      subst h2a2
      exact ev_end 1 (fun _ => rfl)
set_option maxRecDepth 8000 in
theorem st334_26_0 (N : Nat) (X : Nat → Int) (d : Nat) (x1 : Int) (U : Nat → Nat → Int) (R : Option am_V × am_M) (h : (((x1 < 7 : Prop)) → ∃ U1 : Nat → Nat → Int, Ev (am_kz N X) (d, 177, 0, [some (.inr (.inr 26))], [], (am_sh, am_mm U)) (none, (am_sh, am_mm U1)) ∧ R = (some (.inl 1), (am_sh, am_mm U1))) ∧ (¬ (x1 < 7) → ∃ (r2 : Int) (U2 : Nat → Nat → Int), Ev (am_kz N X) (d, 249, 0, [some (.inr (.inr 26)), some (.inl 5), some (.inl (U 26 9))], [], (am_sh, am_mm U)) (some (.inl r2), (am_sh, am_mm U2)) ∧ (r2 = 0 ∨ r2 = 1) ∧ R = (some (.inl r2), (am_sh, am_mm U2)))) : Ev (am_kz N X) ((d + 1), 334, 0, [some (.inr (.inr 26)), some (.inl x1)], [], (am_sh, am_mm U)) R := by
  refine ev_br (P := x1 < 7) (σ1 := ((d + 1), 334, 16, [some (.inr (.inr 26)), some (.inl x1)], [], (am_sh, am_mm U))) (σ2 := ((d + 1), 334, 6, [some (.inr (.inr 26)), some (.inl x1)], [], (am_sh, am_mm U))) 3 (fun _ => rfl) (fun hc => ?_) (fun hc => ?_)
  · have h1 := h.1 hc
    refine ev_seg (σ1 := ((d + 1), 334, 17, [some (.inr (.inr 26)), some (.inl x1)], [.inr (.inr 26)], (am_sh, am_mm U))) 1 (fun _ => rfl) ?_
    obtain ⟨U1, h1c, h1a⟩ := h1
    refine ev_cal (σc := (d, 177, 0, [some (.inr (.inr 26))], [], (am_sh, am_mm U))) (fun _ => rfl) h1c ?_
    show Ev (am_kz N X) ((d + 1), 334, 20, [some (.inr (.inr 26)), some (.inl x1)], [], (am_sh, am_mm U1)) R
    subst h1a
    exact ev_end 2 (fun _ => rfl)
  · have h2 := h.2 hc
    refine ev_seg (σ1 := ((d + 1), 334, 12, [some (.inr (.inr 26)), some (.inl x1)], [.inl (U 26 9), .inl 5, .inr (.inr 26)], (am_sh, am_mm U))) 4 (fun _ => rfl) ?_
    obtain ⟨r2, U2, h2c, h2a⟩ := h2
    refine ev_cal (σc := (d, 249, 0, [some (.inr (.inr 26)), some (.inl 5), some (.inl (U 26 9))], [], (am_sh, am_mm U))) (fun _ => rfl) h2c ?_
    show Ev (am_kz N X) ((d + 1), 334, 15, [some (.inr (.inr 26)), some (.inl x1)], [.inl r2], (am_sh, am_mm U2)) R
    rw [h2a.2]
    exact ev_retz rfl rfl h2a.1
set_option maxRecDepth 8000 in
theorem st335_26_0 (N : Nat) (X : Nat → Int) (d : Nat) (x1 : Int) (U : Nat → Nat → Int) (R : Option am_V × am_M) (h : ∃ (r1 : Int) (U1 : Nat → Nat → Int), Ev (am_kz N X) (d, 342, 0, [some (.inr (.inr 26)), some (.inl x1), none, none, none], [], (am_sh, am_mm U)) (some (.inl r1), (am_sh, am_mm U1)) ∧ Ev (am_kz N X) ((d + 1), 335, 8, [some (.inr (.inr 26)), some (.inl x1), some (.inl r1), some (.inl 0), none], [], (am_sh, am_mm U1)) R) : Ev (am_kz N X) ((d + 1), 335, 0, [some (.inr (.inr 26)), some (.inl x1), none, none, none], [], (am_sh, am_mm U)) R := by
  refine ev_seg (σ1 := ((d + 1), 335, 2, [some (.inr (.inr 26)), some (.inl x1), none, none, none], [.inl x1, .inr (.inr 26)], (am_sh, am_mm U))) 2 (fun _ => rfl) ?_
  obtain ⟨r1, U1, hc, ha⟩ := h
  refine ev_cal (σc := (d, 342, 0, [some (.inr (.inr 26)), some (.inl x1), none, none, none], [], (am_sh, am_mm U))) (fun _ => rfl) hc ?_
  show Ev (am_kz N X) ((d + 1), 335, 5, [some (.inr (.inr 26)), some (.inl x1), none, none, none], [.inl r1], (am_sh, am_mm U1)) R
  refine ev_seg (σ1 := ((d + 1), 335, 8, [some (.inr (.inr 26)), some (.inl x1), some (.inl r1), some (.inl 0), none], [], (am_sh, am_mm U1))) 3 (fun _ => rfl) ?_
  exact ha
set_option maxRecDepth 8000 in
theorem st335_26_8 (N : Nat) (X : Nat → Int) (d : Nat) (x1 x2 x3 : Int) (U : Nat → Nat → Int) (R : Option am_V × am_M) (h : (((1600 ≤ x3 : Prop)) → (x2 = 0 ∨ x2 = 1) ∧ R = (some (.inl x2), (am_sh, am_mm U))) ∧ (¬ (1600 ≤ x3) → (((x2 = 0 : Prop)) → (x2 = 0 ∨ x2 = 1) ∧ R = (some (.inl x2), (am_sh, am_mm U))) ∧ (¬ (x2 = 0) → ∃ (r1 : Int) (U1 : Nat → Nat → Int), Ev (am_kz N X) (d, 300, 0, [some (.inr (.inr 26)), some (.inl 43)], [], (am_sh, am_mm U)) (some (.inl r1), (am_sh, am_mm U1)) ∧ (((¬ r1 = 0 : Prop)) → ∃ U2 : Nat → Nat → Int, Ev (am_kz N X) (d, 177, 0, [some (.inr (.inr 26))], [], (am_sh, am_mm U1)) (none, (am_sh, am_mm U2)) ∧ ∃ (r3 : Int) (U3 : Nat → Nat → Int), Ev (am_kz N X) (d, 342, 0, [some (.inr (.inr 26)), some (.inl x1), none, none, none], [], (am_sh, am_mm U2)) (some (.inl r3), (am_sh, am_mm U3)) ∧ (((r3 = 0 : Prop)) → Ev (am_kz N X) ((d + 1), 335, 8, [some (.inr (.inr 26)), some (.inl x1), some (.inl 0), some (.inl (w32 (x3 + 1))), some (.inl (U1 26 8))], [], (am_sh, am_mm U3)) R) ∧ (¬ (r3 = 0) → ∃ (r4 : Int) (U4 : Nat → Nat → Int), Ev (am_kz N X) (d, 336, 0, [some (.inr (.inr 31)), some (.inl (U1 26 8))], [], (am_sh, am_mm U3)) (some (.inl r4), (am_sh, am_mm U4)) ∧ (((r4 = 0 : Prop)) → Ev (am_kz N X) ((d + 1), 335, 8, [some (.inr (.inr 26)), some (.inl x1), some (.inl 0), some (.inl (w32 (x3 + 1))), some (.inl (U1 26 8))], [], (am_sh, am_mm U4)) R) ∧ (¬ (r4 = 0) → Ev (am_kz N X) ((d + 1), 335, 8, [some (.inr (.inr 26)), some (.inl x1), some (.inl 1), some (.inl (w32 (x3 + 1))), some (.inl (U1 26 8))], [], (am_sh, am_mm U4)) R))) ∧ (¬ (¬ r1 = 0) → ∃ (r5 : Int) (U5 : Nat → Nat → Int), Ev (am_kz N X) (d, 300, 0, [some (.inr (.inr 26)), some (.inl 45)], [], (am_sh, am_mm U1)) (some (.inl r5), (am_sh, am_mm U5)) ∧ (((r5 = 0 : Prop)) → (x2 = 0 ∨ x2 = 1) ∧ R = (some (.inl x2), (am_sh, am_mm U5))) ∧ (¬ (r5 = 0) → ∃ U6 : Nat → Nat → Int, Ev (am_kz N X) (d, 177, 0, [some (.inr (.inr 26))], [], (am_sh, am_mm U5)) (none, (am_sh, am_mm U6)) ∧ ∃ (r7 : Int) (U7 : Nat → Nat → Int), Ev (am_kz N X) (d, 342, 0, [some (.inr (.inr 26)), some (.inl x1), none, none, none], [], (am_sh, am_mm U6)) (some (.inl r7), (am_sh, am_mm U7)) ∧ (((r7 = 0 : Prop)) → Ev (am_kz N X) ((d + 1), 335, 8, [some (.inr (.inr 26)), some (.inl x1), some (.inl 0), some (.inl (w32 (x3 + 1))), some (.inl (U5 26 8))], [], (am_sh, am_mm U7)) R) ∧ (¬ (r7 = 0) → ∃ (r8 : Int) (U8 : Nat → Nat → Int), Ev (am_kz N X) (d, 336, 0, [some (.inr (.inr 31)), some (.inl (U5 26 8))], [], (am_sh, am_mm U7)) (some (.inl r8), (am_sh, am_mm U8)) ∧ (((r8 = 0 : Prop)) → Ev (am_kz N X) ((d + 1), 335, 8, [some (.inr (.inr 26)), some (.inl x1), some (.inl 0), some (.inl (w32 (x3 + 1))), some (.inl (U5 26 8))], [], (am_sh, am_mm U8)) R) ∧ (¬ (r8 = 0) → Ev (am_kz N X) ((d + 1), 335, 8, [some (.inr (.inr 26)), some (.inl x1), some (.inl 1), some (.inl (w32 (x3 + 1))), some (.inl (U5 26 8))], [], (am_sh, am_mm U8)) R))))))) : Ev (am_kz N X) ((d + 1), 335, 8, [some (.inr (.inr 26)), some (.inl x1), some (.inl x2), some (.inl x3), none], [], (am_sh, am_mm U)) R := by
  refine ev_br (P := 1600 ≤ x3) (σ1 := ((d + 1), 335, 79, [some (.inr (.inr 26)), some (.inl x1), some (.inl x2), some (.inl x3), none], [], (am_sh, am_mm U))) (σ2 := ((d + 1), 335, 15, [some (.inr (.inr 26)), some (.inl x1), some (.inl x2), some (.inl x3), none], [], (am_sh, am_mm U))) 3 (fun _ => rfl) (fun hc => ?_) (fun hc => ?_)
  · have h1 := h.1 hc
    refine ev_seg (σ1 := ((d + 1), 335, 80, [some (.inr (.inr 26)), some (.inl x1), some (.inl x2), some (.inl x3), none], [.inl x2], (am_sh, am_mm U))) 1 (fun _ => rfl) ?_
    rw [h1.2]
    exact ev_retz rfl rfl h1.1
  · have h2 := h.2 hc
    refine ev_br (P := x2 = 0) (σ1 := ((d + 1), 335, 79, [some (.inr (.inr 26)), some (.inl x1), some (.inl x2), some (.inl x3), none], [], (am_sh, am_mm U))) (σ2 := ((d + 1), 335, 19, [some (.inr (.inr 26)), some (.inl x1), some (.inl x2), some (.inl x3), none], [], (am_sh, am_mm U))) 2 (fun _ => rfl) (fun hc => ?_) (fun hc => ?_)
    · have h21 := h2.1 hc
      refine ev_seg (σ1 := ((d + 1), 335, 80, [some (.inr (.inr 26)), some (.inl x1), some (.inl x2), some (.inl x3), none], [.inl x2], (am_sh, am_mm U))) 1 (fun _ => rfl) ?_
      rw [h21.2]
      exact ev_retz rfl rfl h21.1
    · have h22 := h2.2 hc
      refine ev_seg (σ1 := ((d + 1), 335, 22, [some (.inr (.inr 26)), some (.inl x1), some (.inl x2), some (.inl x3), none], [.inl 43, .inr (.inr 26)], (am_sh, am_mm U))) 2 (fun _ => rfl) ?_
      obtain ⟨r1, U1, h22c, h22a⟩ := h22
      refine ev_cal (σc := (d, 300, 0, [some (.inr (.inr 26)), some (.inl 43)], [], (am_sh, am_mm U))) (fun _ => rfl) h22c ?_
      show Ev (am_kz N X) ((d + 1), 335, 25, [some (.inr (.inr 26)), some (.inl x1), some (.inl x2), some (.inl x3), none], [.inl r1], (am_sh, am_mm U1)) R
      refine ev_br (P := ¬ r1 = 0) (σ1 := ((d + 1), 335, 37, [some (.inr (.inr 26)), some (.inl x1), some (.inl x2), some (.inl x3), none], [], (am_sh, am_mm U1))) (σ2 := ((d + 1), 335, 28, [some (.inr (.inr 26)), some (.inl x1), some (.inl x2), some (.inl x3), none], [], (am_sh, am_mm U1))) 1 (fun _ => rfl) (fun hc => ?_) (fun hc => ?_)
      · have h22a1 := h22a.1 hc
        refine ev_seg (σ1 := ((d + 1), 335, 44, [some (.inr (.inr 26)), some (.inl x1), some (.inl x2), some (.inl x3), some (.inl (U1 26 8))], [.inr (.inr 26)], (am_sh, am_mm U1))) 4 (fun _ => rfl) ?_
        obtain ⟨U2, h22a1c, h22a1a⟩ := h22a1
        refine ev_cal (σc := (d, 177, 0, [some (.inr (.inr 26))], [], (am_sh, am_mm U1))) (fun _ => rfl) h22a1c ?_
        show Ev (am_kz N X) ((d + 1), 335, 47, [some (.inr (.inr 26)), some (.inl x1), some (.inl x2), some (.inl x3), some (.inl (U1 26 8))], [], (am_sh, am_mm U2)) R
        refine ev_seg (σ1 := ((d + 1), 335, 49, [some (.inr (.inr 26)), some (.inl x1), some (.inl x2), some (.inl x3), some (.inl (U1 26 8))], [.inl x1, .inr (.inr 26)], (am_sh, am_mm U2))) 2 (fun _ => rfl) ?_
        obtain ⟨r3, U3, h22a1ac, h22a1aa⟩ := h22a1a
        refine ev_cal (σc := (d, 342, 0, [some (.inr (.inr 26)), some (.inl x1), none, none, none], [], (am_sh, am_mm U2))) (fun _ => rfl) h22a1ac ?_
        show Ev (am_kz N X) ((d + 1), 335, 52, [some (.inr (.inr 26)), some (.inl x1), some (.inl x2), some (.inl x3), some (.inl (U1 26 8))], [.inl r3], (am_sh, am_mm U3)) R
        refine ev_br (P := r3 = 0) (σ1 := ((d + 1), 335, 71, [some (.inr (.inr 26)), some (.inl x1), some (.inl x2), some (.inl x3), some (.inl (U1 26 8))], [], (am_sh, am_mm U3))) (σ2 := ((d + 1), 335, 55, [some (.inr (.inr 26)), some (.inl x1), some (.inl x2), some (.inl x3), some (.inl (U1 26 8))], [], (am_sh, am_mm U3))) 1 (fun _ => rfl) (fun hc => ?_) (fun hc => ?_)
        · have h22a1aa1 := h22a1aa.1 hc
          refine ev_seg (σ1 := ((d + 1), 335, 8, [some (.inr (.inr 26)), some (.inl x1), some (.inl 0), some (.inl (w32 (x3 + 1))), some (.inl (U1 26 8))], [], (am_sh, am_mm U3))) 4 (fun _ => rfl) ?_
          exact h22a1aa1
        · have h22a1aa2 := h22a1aa.2 hc
          refine ev_seg (σ1 := ((d + 1), 335, 61, [some (.inr (.inr 26)), some (.inl x1), some (.inl x2), some (.inl x3), some (.inl (U1 26 8))], [.inl (U1 26 8), .inr (.inr 31)], (am_sh, am_mm U3))) 3 (fun _ => rfl) ?_
          obtain ⟨r4, U4, h22a1aa2c, h22a1aa2a⟩ := h22a1aa2
          refine ev_cal (σc := (d, 336, 0, [some (.inr (.inr 31)), some (.inl (U1 26 8))], [], (am_sh, am_mm U3))) (fun _ => rfl) h22a1aa2c ?_
          show Ev (am_kz N X) ((d + 1), 335, 64, [some (.inr (.inr 26)), some (.inl x1), some (.inl x2), some (.inl x3), some (.inl (U1 26 8))], [.inl r4], (am_sh, am_mm U4)) R
          refine ev_br (P := r4 = 0) (σ1 := ((d + 1), 335, 71, [some (.inr (.inr 26)), some (.inl x1), some (.inl x2), some (.inl x3), some (.inl (U1 26 8))], [], (am_sh, am_mm U4))) (σ2 := ((d + 1), 335, 67, [some (.inr (.inr 26)), some (.inl x1), some (.inl x2), some (.inl x3), some (.inl (U1 26 8))], [], (am_sh, am_mm U4))) 1 (fun _ => rfl) (fun hc => ?_) (fun hc => ?_)
          · have h22a1aa2a1 := h22a1aa2a.1 hc
            refine ev_seg (σ1 := ((d + 1), 335, 8, [some (.inr (.inr 26)), some (.inl x1), some (.inl 0), some (.inl (w32 (x3 + 1))), some (.inl (U1 26 8))], [], (am_sh, am_mm U4))) 4 (fun _ => rfl) ?_
            exact h22a1aa2a1
          · have h22a1aa2a2 := h22a1aa2a.2 hc
            refine ev_seg (σ1 := ((d + 1), 335, 8, [some (.inr (.inr 26)), some (.inl x1), some (.inl 1), some (.inl (w32 (x3 + 1))), some (.inl (U1 26 8))], [], (am_sh, am_mm U4))) 5 (fun _ => rfl) ?_
            exact h22a1aa2a2
      · have h22a2 := h22a.2 hc
        refine ev_seg (σ1 := ((d + 1), 335, 31, [some (.inr (.inr 26)), some (.inl x1), some (.inl x2), some (.inl x3), none], [.inl 45, .inr (.inr 26)], (am_sh, am_mm U1))) 2 (fun _ => rfl) ?_
        obtain ⟨r5, U5, h22a2c, h22a2a⟩ := h22a2
        refine ev_cal (σc := (d, 300, 0, [some (.inr (.inr 26)), some (.inl 45)], [], (am_sh, am_mm U1))) (fun _ => rfl) h22a2c ?_
        show Ev (am_kz N X) ((d + 1), 335, 34, [some (.inr (.inr 26)), some (.inl x1), some (.inl x2), some (.inl x3), none], [.inl r5], (am_sh, am_mm U5)) R
        refine ev_br (P := r5 = 0) (σ1 := ((d + 1), 335, 79, [some (.inr (.inr 26)), some (.inl x1), some (.inl x2), some (.inl x3), none], [], (am_sh, am_mm U5))) (σ2 := ((d + 1), 335, 37, [some (.inr (.inr 26)), some (.inl x1), some (.inl x2), some (.inl x3), none], [], (am_sh, am_mm U5))) 1 (fun _ => rfl) (fun hc => ?_) (fun hc => ?_)
        · have h22a2a1 := h22a2a.1 hc
          refine ev_seg (σ1 := ((d + 1), 335, 80, [some (.inr (.inr 26)), some (.inl x1), some (.inl x2), some (.inl x3), none], [.inl x2], (am_sh, am_mm U5))) 1 (fun _ => rfl) ?_
          rw [h22a2a1.2]
          exact ev_retz rfl rfl h22a2a1.1
        · have h22a2a2 := h22a2a.2 hc
          refine ev_seg (σ1 := ((d + 1), 335, 44, [some (.inr (.inr 26)), some (.inl x1), some (.inl x2), some (.inl x3), some (.inl (U5 26 8))], [.inr (.inr 26)], (am_sh, am_mm U5))) 4 (fun _ => rfl) ?_
          obtain ⟨U6, h22a2a2c, h22a2a2a⟩ := h22a2a2
          refine ev_cal (σc := (d, 177, 0, [some (.inr (.inr 26))], [], (am_sh, am_mm U5))) (fun _ => rfl) h22a2a2c ?_
          show Ev (am_kz N X) ((d + 1), 335, 47, [some (.inr (.inr 26)), some (.inl x1), some (.inl x2), some (.inl x3), some (.inl (U5 26 8))], [], (am_sh, am_mm U6)) R
          refine ev_seg (σ1 := ((d + 1), 335, 49, [some (.inr (.inr 26)), some (.inl x1), some (.inl x2), some (.inl x3), some (.inl (U5 26 8))], [.inl x1, .inr (.inr 26)], (am_sh, am_mm U6))) 2 (fun _ => rfl) ?_
          obtain ⟨r7, U7, h22a2a2ac, h22a2a2aa⟩ := h22a2a2a
          refine ev_cal (σc := (d, 342, 0, [some (.inr (.inr 26)), some (.inl x1), none, none, none], [], (am_sh, am_mm U6))) (fun _ => rfl) h22a2a2ac ?_
          show Ev (am_kz N X) ((d + 1), 335, 52, [some (.inr (.inr 26)), some (.inl x1), some (.inl x2), some (.inl x3), some (.inl (U5 26 8))], [.inl r7], (am_sh, am_mm U7)) R
          refine ev_br (P := r7 = 0) (σ1 := ((d + 1), 335, 71, [some (.inr (.inr 26)), some (.inl x1), some (.inl x2), some (.inl x3), some (.inl (U5 26 8))], [], (am_sh, am_mm U7))) (σ2 := ((d + 1), 335, 55, [some (.inr (.inr 26)), some (.inl x1), some (.inl x2), some (.inl x3), some (.inl (U5 26 8))], [], (am_sh, am_mm U7))) 1 (fun _ => rfl) (fun hc => ?_) (fun hc => ?_)
          · have h22a2a2aa1 := h22a2a2aa.1 hc
            refine ev_seg (σ1 := ((d + 1), 335, 8, [some (.inr (.inr 26)), some (.inl x1), some (.inl 0), some (.inl (w32 (x3 + 1))), some (.inl (U5 26 8))], [], (am_sh, am_mm U7))) 4 (fun _ => rfl) ?_
            exact h22a2a2aa1
          · have h22a2a2aa2 := h22a2a2aa.2 hc
            refine ev_seg (σ1 := ((d + 1), 335, 61, [some (.inr (.inr 26)), some (.inl x1), some (.inl x2), some (.inl x3), some (.inl (U5 26 8))], [.inl (U5 26 8), .inr (.inr 31)], (am_sh, am_mm U7))) 3 (fun _ => rfl) ?_
            obtain ⟨r8, U8, h22a2a2aa2c, h22a2a2aa2a⟩ := h22a2a2aa2
            refine ev_cal (σc := (d, 336, 0, [some (.inr (.inr 31)), some (.inl (U5 26 8))], [], (am_sh, am_mm U7))) (fun _ => rfl) h22a2a2aa2c ?_
            show Ev (am_kz N X) ((d + 1), 335, 64, [some (.inr (.inr 26)), some (.inl x1), some (.inl x2), some (.inl x3), some (.inl (U5 26 8))], [.inl r8], (am_sh, am_mm U8)) R
            refine ev_br (P := r8 = 0) (σ1 := ((d + 1), 335, 71, [some (.inr (.inr 26)), some (.inl x1), some (.inl x2), some (.inl x3), some (.inl (U5 26 8))], [], (am_sh, am_mm U8))) (σ2 := ((d + 1), 335, 67, [some (.inr (.inr 26)), some (.inl x1), some (.inl x2), some (.inl x3), some (.inl (U5 26 8))], [], (am_sh, am_mm U8))) 1 (fun _ => rfl) (fun hc => ?_) (fun hc => ?_)
            · have h22a2a2aa2a1 := h22a2a2aa2a.1 hc
              refine ev_seg (σ1 := ((d + 1), 335, 8, [some (.inr (.inr 26)), some (.inl x1), some (.inl 0), some (.inl (w32 (x3 + 1))), some (.inl (U5 26 8))], [], (am_sh, am_mm U8))) 4 (fun _ => rfl) ?_
              exact h22a2a2aa2a1
            · have h22a2a2aa2a2 := h22a2a2aa2a.2 hc
              refine ev_seg (σ1 := ((d + 1), 335, 8, [some (.inr (.inr 26)), some (.inl x1), some (.inl 1), some (.inl (w32 (x3 + 1))), some (.inl (U5 26 8))], [], (am_sh, am_mm U8))) 5 (fun _ => rfl) ?_
              exact h22a2a2aa2a2
