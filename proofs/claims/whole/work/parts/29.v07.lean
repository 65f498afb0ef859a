set_option maxRecDepth 8000 in
theorem st211_51_0 (N : Nat) (X : Nat → Int) (d : Nat) (x1 : Int) (U : Nat → Nat → Int) (R : Option am_V × am_M) (h : Ev (am_kz N X) (d, 211, 5, [some (.inr (.inr 51)), some (.inl x1), some (.inl 0), some (.inl 48)], [], (am_sh, am_mm U)) R) : Ev (am_kz N X) (d, 211, 0, [some (.inr (.inr 51)), some (.inl x1), none, none], [], (am_sh, am_mm U)) R := by
  refine ev_seg (σ1 := (d, 211, 5, [some (.inr (.inr 51)), some (.inl x1), some (.inl 0), some (.inl 48)], [], (am_sh, am_mm U))) 5 (fun _ => rfl) ?_
  exact h
set_option maxRecDepth 8000 in
theorem st211_51_5 (N : Nat) (X : Nat → Int) (d : Nat) (x1 x2 x3 : Int) (U : Nat → Nat → Int) (R : Option am_V × am_M) (h : (((x3 ≤ x2 : Prop)) → R = (none, (am_sh, am_mm U))) ∧ (¬ (x3 ≤ x2) → (0 ≤ x2 ∧ x2 < 48) ∧ Ev (am_kz N X) (d, 211, 5, [some (.inr (.inr 51)), some (.inl x1), some (.inl (w32 (x2 + 1))), some (.inl x3)], [], (am_sh, am_mm (am_upd U 51 x2.toNat x1))) R)) : Ev (am_kz N X) (d, 211, 5, [some (.inr (.inr 51)), some (.inl x1), some (.inl x2), some (.inl x3)], [], (am_sh, am_mm U)) R := by
  refine ev_br (P := x3 ≤ x2) (σ1 := (d, 211, 20, [some (.inr (.inr 51)), some (.inl x1), some (.inl x2), some (.inl x3)], [], (am_sh, am_mm U))) (σ2 := (d, 211, 10, [some (.inr (.inr 51)), some (.inl x1), some (.inl x2), some (.inl x3)], [], (am_sh, am_mm U))) 3 (fun _ => rfl) (fun hc => ?_) (fun hc => ?_)
  · have h1 := h.1 hc
    subst h1
    exact ev_end 1 (fun _ => rfl)
  · have h2 := h.2 hc
    refine ev_seg (σ1 := (d, 211, 13, [some (.inr (.inr 51)), some (.inl x1), some (.inl x2), some (.inl x3)], [.inl x1, .inl x2, .inr (.inr 51)], (am_sh, am_mm U))) 3 (fun _ => rfl) ?_
    refine eu_iast 51 (n := 48) rfl (by decide) rfl (fun _ => rfl) h2.1 ?_
    have h2a := h2.2
    refine ev_seg (σ1 := (d, 211, 5, [some (.inr (.inr 51)), some (.inl x1), some (.inl (w32 (x2 + 1))), some (.inl x3)], [], (am_sh, am_mm (am_upd U 51 x2.toNat x1)))) 2 (fun _ => rfl) ?_
    exact h2a
set_option maxRecDepth 8000 in
theorem st212_48_0 (N : Nat) (X : Nat → Int) (d : Nat) (x1 : Int) (U : Nat → Nat → Int) (R : Option am_V × am_M) (h : Ev (am_kz N X) ((d + 1), 212, 27, [some (.inr (.inr 48)), some (.inl x1), some (.inl (w32 ((if 0 < (U 3 1) then (U 3 1) else 0) + 1))), some (.inl x1), some (.inl 0), some (.inl (w32 ((U 48 6) - 1))), none], [], (am_sh, am_mm U)) R) : Ev (am_kz N X) ((d + 1), 212, 0, [some (.inr (.inr 48)), some (.inl x1), none, none, none, none, none], [], (am_sh, am_mm U)) R := by
  refine ev_seg (σ1 := ((d + 1), 212, 27, [some (.inr (.inr 48)), some (.inl x1), some (.inl (w32 ((if 0 < (U 3 1) then (U 3 1) else 0) + 1))), some (.inl x1), some (.inl 0), some (.inl (w32 ((U 48 6) - 1))), none], [], (am_sh, am_mm U))) 17 (fun _ => rfl) ?_
  exact h
set_option maxRecDepth 8000 in
theorem st212_48_27 (N : Nat) (X : Nat → Int) (d : Nat) (x1 x2 x3 x4 x5 : Int) (U : Nat → Nat → Int) (R : Option am_V × am_M) (h : (((x5 < 0 : Prop)) → R = (some (.inl x4), (am_sh, am_mm U))) ∧ (¬ (x5 < 0) → x2 ≠ 0 ∧ x2 ≠ 0 ∧ ((((U 3 1) ≤ (Int.tmod x3 x2) : Prop)) → Ev (am_kz N X) ((d + 1), 212, 27, [some (.inr (.inr 48)), some (.inl x1), some (.inl x2), some (.inl (w32 (Int.tdiv x3 x2))), some (.inl x4), some (.inl (w32 (x5 + (-1)))), some (.inl (Int.tmod x3 x2))], [], (am_sh, am_mm U)) R) ∧ (¬ ((U 3 1) ≤ (Int.tmod x3 x2)) → ∃ (r1 : Int) (U1 : Nat → Nat → Int), Ev (am_kz N X) (d, 106, 0, [some (.inr (.inr 16)), some (.inl (Int.tmod x3 x2))], [], (am_sh, am_mm U)) (some (.inl r1), (am_sh, am_mm U1)) ∧ (0 ≤ (Int.tmod x3 x2) ∧ (Int.tmod x3 x2) < 12) ∧ (((r1 < (U1 8 (Int.tmod x3 x2).toNat) : Prop)) → (0 ≤ x5 ∧ x5 < 3) ∧ ∃ U2 : Nat → Nat → Int, Ev (am_kz N X) (d, 138, 0, [some (.inr (.inr 16)), some (.inl (U1 49 x5.toNat)), some (.inl (Int.tmod x3 x2)), none], [], (am_sh, am_mm U1)) (none, (am_sh, am_mm U2)) ∧ Ev (am_kz N X) ((d + 1), 212, 27, [some (.inr (.inr 48)), some (.inl x1), some (.inl x2), some (.inl (w32 (Int.tdiv x3 x2))), some (.inl (w32 (x4 + 1))), some (.inl (w32 (x5 + (-1)))), some (.inl (Int.tmod x3 x2))], [], (am_sh, am_mm U2)) R) ∧ (¬ (r1 < (U1 8 (Int.tmod x3 x2).toNat)) → R = (some (.inl (-1)), (am_sh, am_mm U1)))))) : Ev (am_kz N X) ((d + 1), 212, 27, [some (.inr (.inr 48)), some (.inl x1), some (.inl x2), some (.inl x3), some (.inl x4), some (.inl x5), none], [], (am_sh, am_mm U)) R := by
  refine ev_br (P := x5 < 0) (σ1 := ((d + 1), 212, 102, [some (.inr (.inr 48)), some (.inl x1), some (.inl x2), some (.inl x3), some (.inl x4), some (.inl x5), none], [], (am_sh, am_mm U))) (σ2 := ((d + 1), 212, 32, [some (.inr (.inr 48)), some (.inl x1), some (.inl x2), some (.inl x3), some (.inl x4), some (.inl x5), none], [], (am_sh, am_mm U))) 2 (fun _ => rfl) (fun hc => ?_) (fun hc => ?_)
  · have h1 := h.1 hc
    subst h1
    exact ev_end 2 (fun _ => rfl)
  · have h2 := h.2 hc
    refine ev_seg (σ1 := ((d + 1), 212, 34, [some (.inr (.inr 48)), some (.inl x1), some (.inl x2), some (.inl x3), some (.inl x4), some (.inl x5), none], [.inl x2, .inl x3], (am_sh, am_mm U))) 2 (fun _ => rfl) ?_
    refine ev_irem rfl h2.1 ?_
    have h2a := h2.2
    refine ev_seg (σ1 := ((d + 1), 212, 39, [some (.inr (.inr 48)), some (.inl x1), some (.inl x2), some (.inl x3), some (.inl x4), some (.inl x5), some (.inl (Int.tmod x3 x2))], [.inl x2, .inl x3], (am_sh, am_mm U))) 3 (fun _ => rfl) ?_
    refine ev_idiv rfl h2a.1 ?_
    have h2aa := h2a.2
    refine ev_br (P := (U 3 1) ≤ (Int.tmod x3 x2)) (σ1 := ((d + 1), 212, 96, [some (.inr (.inr 48)), some (.inl x1), some (.inl x2), some (.inl (w32 (Int.tdiv x3 x2))), some (.inl x4), some (.inl x5), some (.inl (Int.tmod x3 x2))], [], (am_sh, am_mm U))) (σ2 := ((d + 1), 212, 53, [some (.inr (.inr 48)), some (.inl x1), some (.inl x2), some (.inl (w32 (Int.tdiv x3 x2))), some (.inl x4), some (.inl x5), some (.inl (Int.tmod x3 x2))], [], (am_sh, am_mm U))) 6 (fun _ => rfl) (fun hc => ?_) (fun hc => ?_)
    · have h2aa1 := h2aa.1 hc
      refine ev_seg (σ1 := ((d + 1), 212, 27, [some (.inr (.inr 48)), some (.inl x1), some (.inl x2), some (.inl (w32 (Int.tdiv x3 x2))), some (.inl x4), some (.inl (w32 (x5 + (-1)))), some (.inl (Int.tmod x3 x2))], [], (am_sh, am_mm U))) 2 (fun _ => rfl) ?_
      exact h2aa1
    · have h2aa2 := h2aa.2 hc
      refine ev_seg (σ1 := ((d + 1), 212, 59, [some (.inr (.inr 48)), some (.inl x1), some (.inl x2), some (.inl (w32 (Int.tdiv x3 x2))), some (.inl x4), some (.inl x5), some (.inl (Int.tmod x3 x2))], [.inl (Int.tmod x3 x2), .inr (.inr 16)], (am_sh, am_mm U))) 3 (fun _ => rfl) ?_
      obtain ⟨r1, U1, h2aa2c, h2aa2a⟩ := h2aa2
      refine ev_cal (σc := (d, 106, 0, [some (.inr (.inr 16)), some (.inl (Int.tmod x3 x2))], [], (am_sh, am_mm U))) (fun _ => rfl) h2aa2c ?_
      show Ev (am_kz N X) ((d + 1), 212, 62, [some (.inr (.inr 48)), some (.inl x1), some (.inl x2), some (.inl (w32 (Int.tdiv x3 x2))), some (.inl x4), some (.inl x5), some (.inl (Int.tmod x3 x2))], [.inl r1], (am_sh, am_mm U1)) R
      refine ev_seg (σ1 := ((d + 1), 212, 71, [some (.inr (.inr 48)), some (.inl x1), some (.inl x2), some (.inl (w32 (Int.tdiv x3 x2))), some (.inl x4), some (.inl x5), some (.inl (Int.tmod x3 x2))], [.inl (Int.tmod x3 x2), .inr (.inr 8), .inl r1], (am_sh, am_mm U1))) 4 (fun _ => rfl) ?_
      refine eu_iald 8 (n := 12) rfl (by decide) rfl (fun _ => rfl) h2aa2a.1 ?_
      have h2aa2aa := h2aa2a.2
      refine ev_br (P := r1 < (U1 8 (Int.tmod x3 x2).toNat)) (σ1 := ((d + 1), 212, 77, [some (.inr (.inr 48)), some (.inl x1), some (.inl x2), some (.inl (w32 (Int.tdiv x3 x2))), some (.inl x4), some (.inl x5), some (.inl (Int.tmod x3 x2))], [], (am_sh, am_mm U1))) (σ2 := ((d + 1), 212, 75, [some (.inr (.inr 48)), some (.inl x1), some (.inl x2), some (.inl (w32 (Int.tdiv x3 x2))), some (.inl x4), some (.inl x5), some (.inl (Int.tmod x3 x2))], [], (am_sh, am_mm U1))) 1 (fun _ => rfl) (fun hc => ?_) (fun hc => ?_)
      · have h2aa2aa1 := h2aa2aa.1 hc
        refine ev_seg (σ1 := ((d + 1), 212, 87, [some (.inr (.inr 48)), some (.inl x1), some (.inl x2), some (.inl (w32 (Int.tdiv x3 x2))), some (.inl x4), some (.inl x5), some (.inl (Int.tmod x3 x2))], [.inl x5, .inr (.inr 49), .inr (.inr 16)], (am_sh, am_mm U1))) 5 (fun _ => rfl) ?_
        refine eu_iald 49 (n := 3) rfl (by decide) rfl (fun _ => rfl) h2aa2aa1.1 ?_
        have h2aa2aa1a := h2aa2aa1.2
        refine ev_seg (σ1 := ((d + 1), 212, 90, [some (.inr (.inr 48)), some (.inl x1), some (.inl x2), some (.inl (w32 (Int.tdiv x3 x2))), some (.inl x4), some (.inl x5), some (.inl (Int.tmod x3 x2))], [.inl (Int.tmod x3 x2), .inl (U1 49 x5.toNat), .inr (.inr 16)], (am_sh, am_mm U1))) 1 (fun _ => rfl) ?_
        obtain ⟨U2, h2aa2aa1ac, h2aa2aa1aa⟩ := h2aa2aa1a
        refine ev_cal (σc := (d, 138, 0, [some (.inr (.inr 16)), some (.inl (U1 49 x5.toNat)), some (.inl (Int.tmod x3 x2)), none], [], (am_sh, am_mm U1))) (fun _ => rfl) h2aa2aa1ac ?_
        show Ev (am_kz N X) ((d + 1), 212, 93, [some (.inr (.inr 48)), some (.inl x1), some (.inl x2), some (.inl (w32 (Int.tdiv x3 x2))), some (.inl x4), some (.inl x5), some (.inl (Int.tmod x3 x2))], [], (am_sh, am_mm U2)) R
        refine ev_seg (σ1 := ((d + 1), 212, 27, [some (.inr (.inr 48)), some (.inl x1), some (.inl x2), some (.inl (w32 (Int.tdiv x3 x2))), some (.inl (w32 (x4 + 1))), some (.inl (w32 (x5 + (-1)))), some (.inl (Int.tmod x3 x2))], [], (am_sh, am_mm U2))) 3 (fun _ => rfl) ?_
        exact h2aa2aa1aa
      · have h2aa2aa2 := h2aa2aa.2 hc
        subst h2aa2aa2
        exact ev_end 2 (fun _ => rfl)
set_option maxRecDepth 8000 in
theorem st218_86_0 (N : Nat) (X : Nat → Int) (d : Nat) (U : Nat → Nat → Int) (R : Option am_V × am_M) (h : Ev (am_kz N X) ((d + 1), 218, 2, [some (.inr (.inr 86)), some (.inl 0), none], [], (am_sh, am_mm U)) R) : Ev (am_kz N X) ((d + 1), 218, 0, [some (.inr (.inr 86)), none, none], [], (am_sh, am_mm U)) R := by
  refine ev_seg (σ1 := ((d + 1), 218, 2, [some (.inr (.inr 86)), some (.inl 0), none], [], (am_sh, am_mm U))) 2 (fun _ => rfl) ?_
  exact h
set_option maxRecDepth 8000 in
theorem st218_86_2 (N : Nat) (X : Nat → Int) (d : Nat) (x1 : Int) (U : Nat → Nat → Int) (R : Option am_V × am_M) (h : (0 ≤ (U 86 13) ∧ (U 86 13) < 2) ∧ ((((U 100 (U 86 13).toNat) ≤ x1 : Prop)) → R = (some (.inl 1), (am_sh, am_mm U))) ∧ (¬ ((U 100 (U 86 13).toNat) ≤ x1) → Ev (am_kz N X) ((d + 1), 218, 17, [some (.inr (.inr 86)), some (.inl x1), some (.inl 0)], [], (am_sh, am_mm U)) R)) : Ev (am_kz N X) ((d + 1), 218, 2, [some (.inr (.inr 86)), some (.inl x1), none], [], (am_sh, am_mm U)) R := by
  refine ev_seg (σ1 := ((d + 1), 218, 11, [some (.inr (.inr 86)), some (.inl x1), none], [.inl (U 86 13), .inr (.inr 100), .inl x1], (am_sh, am_mm U))) 5 (fun _ => rfl) ?_
  refine eu_iald 100 (n := 2) rfl (by decide) rfl (fun _ => rfl) h.1 ?_
  have ha := h.2
  refine ev_br (P := (U 100 (U 86 13).toNat) ≤ x1) (σ1 := ((d + 1), 218, 50, [some (.inr (.inr 86)), some (.inl x1), none], [], (am_sh, am_mm U))) (σ2 := ((d + 1), 218, 15, [some (.inr (.inr 86)), some (.inl x1), none], [], (am_sh, am_mm U))) 1 (fun _ => rfl) (fun hc => ?_) (fun hc => ?_)
  · have ha1 := ha.1 hc
    subst ha1
    exact ev_end 2 (fun _ => rfl)
  · have ha2 := ha.2 hc
    refine ev_seg (σ1 := ((d + 1), 218, 17, [some (.inr (.inr 86)), some (.inl x1), some (.inl 0)], [], (am_sh, am_mm U))) 2 (fun _ => rfl) ?_
    exact ha2
set_option maxRecDepth 8000 in
theorem st218_86_17 (N : Nat) (X : Nat → Int) (d : Nat) (x1 x2 : Int) (U : Nat → Nat → Int) (R : Option am_V × am_M) (h : ((((U 122 1) ≤ x2 : Prop)) → Ev (am_kz N X) ((d + 1), 218, 2, [some (.inr (.inr 86)), some (.inl (w32 (x1 + 1))), some (.inl x2)], [], (am_sh, am_mm U)) R) ∧ (¬ ((U 122 1) ≤ x2) → ∃ (r1 : Int) (U1 : Nat → Nat → Int), Ev (am_kz N X) (d, 275, 0, [some (.inr (.inr 86)), some (.inl x1), some (.inl x2), none, none, none, none, none], [], (am_sh, am_mm U)) (some (.inl r1), (am_sh, am_mm U1)) ∧ (((r1 = 0 : Prop)) → Ev (am_kz N X) ((d + 1), 218, 17, [some (.inr (.inr 86)), some (.inl x1), some (.inl (w32 (x2 + 1)))], [], (am_sh, am_mm U1)) R) ∧ (¬ (r1 = 0) → R = (some (.inl 0), (am_sh, am_mm U1))))) : Ev (am_kz N X) ((d + 1), 218, 17, [some (.inr (.inr 86)), some (.inl x1), some (.inl x2)], [], (am_sh, am_mm U)) R := by
  refine ev_seg (σ1 := ((d + 1), 218, 23, [some (.inr (.inr 86)), some (.inl x1), some (.inl x2)], [.inl 1, .inr (.inr 122), .inl x2], (am_sh, am_mm U))) 4 (fun _ => rfl) ?_
  refine eu_iald 122 (n := 22) rfl (by decide) rfl (fun _ => rfl) (by decide) ?_
  show Ev (am_kz N X) ((d + 1), 218, 24, [some (.inr (.inr 86)), some (.inl x1), some (.inl x2)], [.inl (U 122 1), .inl x2], (am_sh, am_mm U)) R
  refine ev_br (P := (U 122 1) ≤ x2) (σ1 := ((d + 1), 218, 44, [some (.inr (.inr 86)), some (.inl x1), some (.inl x2)], [], (am_sh, am_mm U))) (σ2 := ((d + 1), 218, 27, [some (.inr (.inr 86)), some (.inl x1), some (.inl x2)], [], (am_sh, am_mm U))) 1 (fun _ => rfl) (fun hc => ?_) (fun hc => ?_)
  · have h1 := h.1 hc
    refine ev_seg (σ1 := ((d + 1), 218, 2, [some (.inr (.inr 86)), some (.inl (w32 (x1 + 1))), some (.inl x2)], [], (am_sh, am_mm U))) 2 (fun _ => rfl) ?_
    exact h1
  · have h2 := h.2 hc
    refine ev_seg (σ1 := ((d + 1), 218, 30, [some (.inr (.inr 86)), some (.inl x1), some (.inl x2)], [.inl x2, .inl x1, .inr (.inr 86)], (am_sh, am_mm U))) 3 (fun _ => rfl) ?_
    obtain ⟨r1, U1, h2c, h2a⟩ := h2
    refine ev_cal (σc := (d, 275, 0, [some (.inr (.inr 86)), some (.inl x1), some (.inl x2), none, none, none, none, none], [], (am_sh, am_mm U))) (fun _ => rfl) h2c ?_
    show Ev (am_kz N X) ((d + 1), 218, 33, [some (.inr (.inr 86)), some (.inl x1), some (.inl x2)], [.inl r1], (am_sh, am_mm U1)) R
    refine ev_br (P := r1 = 0) (σ1 := ((d + 1), 218, 38, [some (.inr (.inr 86)), some (.inl x1), some (.inl x2)], [], (am_sh, am_mm U1))) (σ2 := ((d + 1), 218, 36, [some (.inr (.inr 86)), some (.inl x1), some (.inl x2)], [], (am_sh, am_mm U1))) 1 (fun _ => rfl) (fun hc => ?_) (fun hc => ?_)
    · have h2a1 := h2a.1 hc
      refine ev_seg (σ1 := ((d + 1), 218, 17, [some (.inr (.inr 86)), some (.inl x1), some (.inl (w32 (x2 + 1)))], [], (am_sh, am_mm U1))) 2 (fun _ => rfl) ?_
      exact h2a1
    · have h2a2 := h2a.2 hc
      subst h2a2
      exact ev_end 2 (fun _ => rfl)
set_option maxRecDepth 8000 in
theorem st217_86_0 (N : Nat) (X : Nat → Int) (d : Nat) (x1 : Int) (U : Nat → Nat → Int) (R : Option am_V × am_M) (h : Ev (am_kz N X) ((d + 1), 217, 2, [some (.inr (.inr 86)), some (.inl x1), some (.inl 0)], [], (am_sh, am_mm U)) R) : Ev (am_kz N X) ((d + 1), 217, 0, [some (.inr (.inr 86)), some (.inl x1), none], [], (am_sh, am_mm U)) R := by
  refine ev_seg (σ1 := ((d + 1), 217, 2, [some (.inr (.inr 86)), some (.inl x1), some (.inl 0)], [], (am_sh, am_mm U))) 2 (fun _ => rfl) ?_
  exact h
set_option maxRecDepth 8000 in
theorem st217_86_2 (N : Nat) (X : Nat → Int) (d : Nat) (x1 x2 : Int) (U : Nat → Nat → Int) (R : Option am_V × am_M) (h : (0 ≤ (U 86 13) ∧ (U 86 13) < 2) ∧ ((((U 90 (U 86 13).toNat) ≤ x2 : Prop)) → R = (some (.inl 1), (am_sh, am_mm U))) ∧ (¬ ((U 90 (U 86 13).toNat) ≤ x2) → ∃ (r1 : Int) (U1 : Nat → Nat → Int), Ev (am_kz N X) (d, 111, 0, [some (.inr (.inr 86)), some (.inl x1), some (.inl x2), none, none], [], (am_sh, am_mm U)) (some (.inl r1), (am_sh, am_mm U1)) ∧ ∃ (r2 : Int) (U2 : Nat → Nat → Int), Ev (am_kz N X) (d, 110, 0, [some (.inr (.inr 86)), some (.inl x2)], [], (am_sh, am_mm U1)) (some (.inl r2), (am_sh, am_mm U2)) ∧ (((r1 ≤ r2 : Prop)) → Ev (am_kz N X) ((d + 1), 217, 2, [some (.inr (.inr 86)), some (.inl x1), some (.inl (w32 (x2 + 1)))], [], (am_sh, am_mm U2)) R) ∧ (¬ (r1 ≤ r2) → R = (some (.inl 0), (am_sh, am_mm U2))))) : Ev (am_kz N X) ((d + 1), 217, 2, [some (.inr (.inr 86)), some (.inl x1), some (.inl x2)], [], (am_sh, am_mm U)) R := by
  refine ev_seg (σ1 := ((d + 1), 217, 11, [some (.inr (.inr 86)), some (.inl x1), some (.inl x2)], [.inl (U 86 13), .inr (.inr 90), .inl x2], (am_sh, am_mm U))) 5 (fun _ => rfl) ?_
  refine eu_iald 90 (n := 2) rfl (by decide) rfl (fun _ => rfl) h.1 ?_
  have ha := h.2
  refine ev_br (P := (U 90 (U 86 13).toNat) ≤ x2) (σ1 := ((d + 1), 217, 37, [some (.inr (.inr 86)), some (.inl x1), some (.inl x2)], [], (am_sh, am_mm U))) (σ2 := ((d + 1), 217, 15, [some (.inr (.inr 86)), some (.inl x1), some (.inl x2)], [], (am_sh, am_mm U))) 1 (fun _ => rfl) (fun hc => ?_) (fun hc => ?_)
  · have ha1 := ha.1 hc
    subst ha1
    exact ev_end 2 (fun _ => rfl)
  · have ha2 := ha.2 hc
    refine ev_seg (σ1 := ((d + 1), 217, 18, [some (.inr (.inr 86)), some (.inl x1), some (.inl x2)], [.inl x2, .inl x1, .inr (.inr 86)], (am_sh, am_mm U))) 3 (fun _ => rfl) ?_
    obtain ⟨r1, U1, ha2c, ha2a⟩ := ha2
    refine ev_cal (σc := (d, 111, 0, [some (.inr (.inr 86)), some (.inl x1), some (.inl x2), none, none], [], (am_sh, am_mm U))) (fun _ => rfl) ha2c ?_
    show Ev (am_kz N X) ((d + 1), 217, 21, [some (.inr (.inr 86)), some (.inl x1), some (.inl x2)], [.inl r1], (am_sh, am_mm U1)) R
    refine ev_seg (σ1 := ((d + 1), 217, 23, [some (.inr (.inr 86)), some (.inl x1), some (.inl x2)], [.inl x2, .inr (.inr 86), .inl r1], (am_sh, am_mm U1))) 2 (fun _ => rfl) ?_
    obtain ⟨r2, U2, ha2ac, ha2aa⟩ := ha2a
    refine ev_cal (σc := (d, 110, 0, [some (.inr (.inr 86)), some (.inl x2)], [], (am_sh, am_mm U1))) (fun _ => rfl) ha2ac ?_
    show Ev (am_kz N X) ((d + 1), 217, 26, [some (.inr (.inr 86)), some (.inl x1), some (.inl x2)], [.inl r2, .inl r1], (am_sh, am_mm U2)) R
    refine ev_br (P := r1 ≤ r2) (σ1 := ((d + 1), 217, 31, [some (.inr (.inr 86)), some (.inl x1), some (.inl x2)], [], (am_sh, am_mm U2))) (σ2 := ((d + 1), 217, 29, [some (.inr (.inr 86)), some (.inl x1), some (.inl x2)], [], (am_sh, am_mm U2))) 1 (fun _ => rfl) (fun hc => ?_) (fun hc => ?_)
    · have ha2aa1 := ha2aa.1 hc
      refine ev_seg (σ1 := ((d + 1), 217, 2, [some (.inr (.inr 86)), some (.inl x1), some (.inl (w32 (x2 + 1)))], [], (am_sh, am_mm U2))) 2 (fun _ => rfl) ?_
      exact ha2aa1
    · have ha2aa2 := ha2aa.2 hc
      subst ha2aa2
      exact ev_end 2 (fun _ => rfl)
set_option maxRecDepth 8000 in
theorem st216_86_0 (N : Nat) (X : Nat → Int) (d : Nat) (U : Nat → Nat → Int) (R : Option am_V × am_M) (h : Ev (am_kz N X) ((d + 1), 216, 2, [some (.inr (.inr 86)), some (.inl 0), none], [], (am_sh, am_mm U)) R) : Ev (am_kz N X) ((d + 1), 216, 0, [some (.inr (.inr 86)), none, none], [], (am_sh, am_mm U)) R := by
  refine ev_seg (σ1 := ((d + 1), 216, 2, [some (.inr (.inr 86)), some (.inl 0), none], [], (am_sh, am_mm U))) 2 (fun _ => rfl) ?_
  exact h
set_option maxRecDepth 8000 in
theorem st216_86_2 (N : Nat) (X : Nat → Int) (d : Nat) (x1 : Int) (U : Nat → Nat → Int) (R : Option am_V × am_M) (h : (((182784 ≤ x1 : Prop)) → Ev (am_kz N X) ((d + 1), 216, 23, [some (.inr (.inr 86)), some (.inl 0), none], [], (am_sh, am_mm U)) R) ∧ (¬ (182784 ≤ x1) → (0 ≤ x1 ∧ x1 < 182784) ∧ Ev (am_kz N X) ((d + 1), 216, 2, [some (.inr (.inr 86)), some (.inl (w32 (x1 + 1))), none], [], (am_sh, am_mm (am_upd U 128 x1.toNat 0))) R)) : Ev (am_kz N X) ((d + 1), 216, 2, [some (.inr (.inr 86)), some (.inl x1), none], [], (am_sh, am_mm U)) R := by
  refine ev_br (P := 182784 ≤ x1) (σ1 := ((d + 1), 216, 21, [some (.inr (.inr 86)), some (.inl x1), none], [], (am_sh, am_mm U))) (σ2 := ((d + 1), 216, 8, [some (.inr (.inr 86)), some (.inl x1), none], [], (am_sh, am_mm U))) 3 (fun _ => rfl) (fun hc => ?_) (fun hc => ?_)
  · have h1 := h.1 hc
    refine ev_seg (σ1 := ((d + 1), 216, 23, [some (.inr (.inr 86)), some (.inl 0), none], [], (am_sh, am_mm U))) 2 (fun _ => rfl) ?_
    exact h1
  · have h2 := h.2 hc
    refine ev_seg (σ1 := ((d + 1), 216, 14, [some (.inr (.inr 86)), some (.inl x1), none], [.inl 0, .inl x1, .inr (.inr 128)], (am_sh, am_mm U))) 4 (fun _ => rfl) ?_
    refine eu_bast 128 (by decide) (n := 182784) rfl (by decide) rfl (fun _ => rfl) h2.1 ?_
    have h2a := h2.2
    refine ev_seg (σ1 := ((d + 1), 216, 2, [some (.inr (.inr 86)), some (.inl (w32 (x1 + 1))), none], [], (am_sh, am_mm (am_upd U 128 x1.toNat 0)))) 2 (fun _ => rfl) ?_
    exact h2a
set_option maxRecDepth 8000 in
theorem st216_86_23 (N : Nat) (X : Nat → Int) (d : Nat) (x1 : Int) (U : Nat → Nat → Int) (R : Option am_V × am_M) (h : (0 ≤ (U 86 13) ∧ (U 86 13) < 2) ∧ ((((U 90 (U 86 13).toNat) ≤ x1 : Prop)) → R = (none, (am_sh, am_mm U))) ∧ (¬ ((U 90 (U 86 13).toNat) ≤ x1) → Ev (am_kz N X) ((d + 1), 216, 38, [some (.inr (.inr 86)), some (.inl x1), some (.inl 0)], [], (am_sh, am_mm U)) R)) : Ev (am_kz N X) ((d + 1), 216, 23, [some (.inr (.inr 86)), some (.inl x1), none], [], (am_sh, am_mm U)) R := by
  refine ev_seg (σ1 := ((d + 1), 216, 32, [some (.inr (.inr 86)), some (.inl x1), none], [.inl (U 86 13), .inr (.inr 90), .inl x1], (am_sh, am_mm U))) 5 (fun _ => rfl) ?_
  refine eu_iald 90 (n := 2) rfl (by decide) rfl (fun _ => rfl) h.1 ?_
  have ha := h.2
  refine ev_br (P := (U 90 (U 86 13).toNat) ≤ x1) (σ1 := ((d + 1), 216, 84, [some (.inr (.inr 86)), some (.inl x1), none], [], (am_sh, am_mm U))) (σ2 := ((d + 1), 216, 36, [some (.inr (.inr 86)), some (.inl x1), none], [], (am_sh, am_mm U))) 1 (fun _ => rfl) (fun hc => ?_) (fun hc => ?_)
  · have ha1 := ha.1 hc
    subst ha1
    exact ev_end 1 (fun _ => rfl)
  · have ha2 := ha.2 hc
    refine ev_seg (σ1 := ((d + 1), 216, 38, [some (.inr (.inr 86)), some (.inl x1), some (.inl 0)], [], (am_sh, am_mm U))) 2 (fun _ => rfl) ?_
    exact ha2
set_option maxRecDepth 8000 in
theorem st216_86_38 (N : Nat) (X : Nat → Int) (d : Nat) (x1 x2 : Int) (U : Nat → Nat → Int) (R : Option am_V × am_M) (h : (0 ≤ (U 86 13) ∧ (U 86 13) < 2) ∧ ((((U 90 (U 86 13).toNat) ≤ x2 : Prop)) → Ev (am_kz N X) ((d + 1), 216, 23, [some (.inr (.inr 86)), some (.inl (w32 (x1 + 1))), some (.inl x2)], [], (am_sh, am_mm U)) R) ∧ (¬ ((U 90 (U 86 13).toNat) ≤ x2) → ∃ (r1 : Int) (U1 : Nat → Nat → Int), Ev (am_kz N X) (d, 113, 0, [some (.inr (.inr 86)), some (.inl (U 86 13)), some (.inl x1), some (.inl x2), none, none], [], (am_sh, am_mm U)) (some (.inl r1), (am_sh, am_mm U1)) ∧ (r1 = 0 ∨ r1 = 1) ∧ (0 ≤ (w32 ((w32 (12 * x1)) + x2)) ∧ (w32 ((w32 (12 * x1)) + x2)) < 144) ∧ Ev (am_kz N X) ((d + 1), 216, 38, [some (.inr (.inr 86)), some (.inl x1), some (.inl (w32 (x2 + 1)))], [], (am_sh, am_mm (am_upd U1 129 (w32 ((w32 (12 * x1)) + x2)).toNat r1))) R)) : Ev (am_kz N X) ((d + 1), 216, 38, [some (.inr (.inr 86)), some (.inl x1), some (.inl x2)], [], (am_sh, am_mm U)) R := by
  refine ev_seg (σ1 := ((d + 1), 216, 47, [some (.inr (.inr 86)), some (.inl x1), some (.inl x2)], [.inl (U 86 13), .inr (.inr 90), .inl x2], (am_sh, am_mm U))) 5 (fun _ => rfl) ?_
  refine eu_iald 90 (n := 2) rfl (by decide) rfl (fun _ => rfl) h.1 ?_
  have ha := h.2
  refine ev_br (P := (U 90 (U 86 13).toNat) ≤ x2) (σ1 := ((d + 1), 216, 78, [some (.inr (.inr 86)), some (.inl x1), some (.inl x2)], [], (am_sh, am_mm U))) (σ2 := ((d + 1), 216, 51, [some (.inr (.inr 86)), some (.inl x1), some (.inl x2)], [], (am_sh, am_mm U))) 1 (fun _ => rfl) (fun hc => ?_) (fun hc => ?_)
  · have ha1 := ha.1 hc
    refine ev_seg (σ1 := ((d + 1), 216, 23, [some (.inr (.inr 86)), some (.inl (w32 (x1 + 1))), some (.inl x2)], [], (am_sh, am_mm U))) 2 (fun _ => rfl) ?_
    exact ha1
  · have ha2 := ha.2 hc
    refine ev_seg (σ1 := ((d + 1), 216, 68, [some (.inr (.inr 86)), some (.inl x1), some (.inl x2)], [.inl x2, .inl x1, .inl (U 86 13), .inr (.inr 86), .inl (w32 ((w32 (12 * x1)) + x2)), .inr (.inr 129)], (am_sh, am_mm U))) 12 (fun _ => rfl) ?_
    obtain ⟨r1, U1, ha2c, ha2a⟩ := ha2
    refine ev_cal (σc := (d, 113, 0, [some (.inr (.inr 86)), some (.inl (U 86 13)), some (.inl x1), some (.inl x2), none, none], [], (am_sh, am_mm U))) (fun _ => rfl) ha2c ?_
    show Ev (am_kz N X) ((d + 1), 216, 71, [some (.inr (.inr 86)), some (.inl x1), some (.inl x2)], [.inl r1, .inl (w32 ((w32 (12 * x1)) + x2)), .inr (.inr 129)], (am_sh, am_mm U1)) R
    refine eu_zast 129 ha2a.1 (n := 144) rfl (by decide) rfl (fun _ => rfl) ha2a.2.1 ?_
    have ha2aa := ha2a.2.2
    refine ev_seg (σ1 := ((d + 1), 216, 38, [some (.inr (.inr 86)), some (.inl x1), some (.inl (w32 (x2 + 1)))], [], (am_sh, am_mm (am_upd U1 129 (w32 ((w32 (12 * x1)) + x2)).toNat r1)))) 2 (fun _ => rfl) ?_
    exact ha2aa
set_option maxRecDepth 8000 in
theorem st221_0 (N : Nat) (X : Nat → Int) (d : Nat) (x0 x1 x2 : Int) (U : Nat → Nat → Int) (R : Option am_V × am_M) (h : (x0 = 42 → R = (some (.inl (w32 (if (if (w64 (x1 * x2)) < 1000000000 then (w64 (x1 * x2)) else 1000000000) < (-1000000000) then (-1000000000) else (if (w64 (x1 * x2)) < 1000000000 then (w64 (x1 * x2)) else 1000000000)))), (am_sh, am_mm U))) ∧ (x0 = 43 → R = (some (.inl (w32 (if (if (w64 (x1 + x2)) < 1000000000 then (w64 (x1 + x2)) else 1000000000) < (-1000000000) then (-1000000000) else (if (w64 (x1 + x2)) < 1000000000 then (w64 (x1 + x2)) else 1000000000)))), (am_sh, am_mm U))) ∧ (x0 = 44 → (((¬ x2 = 0 : Prop)) → x2 ≠ 0 ∧ R = (some (.inl (w32 (if (if (Int.fmod x1 x2) < 1000000000 then (Int.fmod x1 x2) else 1000000000) < (-1000000000) then (-1000000000) else (if (Int.fmod x1 x2) < 1000000000 then (Int.fmod x1 x2) else 1000000000)))), (am_sh, am_mm U))) ∧ (¬ (¬ x2 = 0) → R = (some (.inl (w32 (if (if 0 < 1000000000 then 0 else 1000000000) < (-1000000000) then (-1000000000) else (if 0 < 1000000000 then 0 else 1000000000)))), (am_sh, am_mm U)))) ∧ (x0 = 45 → R = (some (.inl (w32 (if (if (w64 (x1 - x2)) < 1000000000 then (w64 (x1 - x2)) else 1000000000) < (-1000000000) then (-1000000000) else (if (w64 (x1 - x2)) < 1000000000 then (w64 (x1 - x2)) else 1000000000)))), (am_sh, am_mm U))) ∧ (x0 = 46 → (((¬ x2 = 0 : Prop)) → x2 ≠ 0 ∧ R = (some (.inl (w32 (if (if (Int.fmod x1 x2) < 1000000000 then (Int.fmod x1 x2) else 1000000000) < (-1000000000) then (-1000000000) else (if (Int.fmod x1 x2) < 1000000000 then (Int.fmod x1 x2) else 1000000000)))), (am_sh, am_mm U))) ∧ (¬ (¬ x2 = 0) → R = (some (.inl (w32 (if (if 0 < 1000000000 then 0 else 1000000000) < (-1000000000) then (-1000000000) else (if 0 < 1000000000 then 0 else 1000000000)))), (am_sh, am_mm U)))) ∧ (x0 = 47 → (((¬ x2 = 0 : Prop)) → x2 ≠ 0 ∧ R = (some (.inl (w32 (if (if (w32 (Int.fdiv x1 x2)) < 1000000000 then (w32 (Int.fdiv x1 x2)) else 1000000000) < (-1000000000) then (-1000000000) else (if (w32 (Int.fdiv x1 x2)) < 1000000000 then (w32 (Int.fdiv x1 x2)) else 1000000000)))), (am_sh, am_mm U))) ∧ (¬ (¬ x2 = 0) → R = (some (.inl (w32 (if (if 0 < 1000000000 then 0 else 1000000000) < (-1000000000) then (-1000000000) else (if 0 < 1000000000 then 0 else 1000000000)))), (am_sh, am_mm U)))) ∧ (x0 = 48 → (((¬ x2 = 0 : Prop)) → x2 ≠ 0 ∧ R = (some (.inl (w32 (if (if (Int.fmod x1 x2) < 1000000000 then (Int.fmod x1 x2) else 1000000000) < (-1000000000) then (-1000000000) else (if (Int.fmod x1 x2) < 1000000000 then (Int.fmod x1 x2) else 1000000000)))), (am_sh, am_mm U))) ∧ (¬ (¬ x2 = 0) → R = (some (.inl (w32 (if (if 0 < 1000000000 then 0 else 1000000000) < (-1000000000) then (-1000000000) else (if 0 < 1000000000 then 0 else 1000000000)))), (am_sh, am_mm U)))) ∧ (x0 = 49 → (((¬ x2 = 0 : Prop)) → x2 ≠ 0 ∧ R = (some (.inl (w32 (if (if (Int.fmod x1 x2) < 1000000000 then (Int.fmod x1 x2) else 1000000000) < (-1000000000) then (-1000000000) else (if (Int.fmod x1 x2) < 1000000000 then (Int.fmod x1 x2) else 1000000000)))), (am_sh, am_mm U))) ∧ (¬ (¬ x2 = 0) → R = (some (.inl (w32 (if (if 0 < 1000000000 then 0 else 1000000000) < (-1000000000) then (-1000000000) else (if 0 < 1000000000 then 0 else 1000000000)))), (am_sh, am_mm U)))) ∧ (x0 = 50 → (((¬ x2 = 0 : Prop)) → x2 ≠ 0 ∧ R = (some (.inl (w32 (if (if (Int.fmod x1 x2) < 1000000000 then (Int.fmod x1 x2) else 1000000000) < (-1000000000) then (-1000000000) else (if (Int.fmod x1 x2) < 1000000000 then (Int.fmod x1 x2) else 1000000000)))), (am_sh, am_mm U))) ∧ (¬ (¬ x2 = 0) → R = (some (.inl (w32 (if (if 0 < 1000000000 then 0 else 1000000000) < (-1000000000) then (-1000000000) else (if 0 < 1000000000 then 0 else 1000000000)))), (am_sh, am_mm U)))) ∧ (x0 = 51 → (((¬ x2 = 0 : Prop)) → x2 ≠ 0 ∧ R = (some (.inl (w32 (if (if (Int.fmod x1 x2) < 1000000000 then (Int.fmod x1 x2) else 1000000000) < (-1000000000) then (-1000000000) else (if (Int.fmod x1 x2) < 1000000000 then (Int.fmod x1 x2) else 1000000000)))), (am_sh, am_mm U))) ∧ (¬ (¬ x2 = 0) → R = (some (.inl (w32 (if (if 0 < 1000000000 then 0 else 1000000000) < (-1000000000) then (-1000000000) else (if 0 < 1000000000 then 0 else 1000000000)))), (am_sh, am_mm U)))) ∧ (x0 = 52 → (((¬ x2 = 0 : Prop)) → x2 ≠ 0 ∧ R = (some (.inl (w32 (if (if (Int.fmod x1 x2) < 1000000000 then (Int.fmod x1 x2) else 1000000000) < (-1000000000) then (-1000000000) else (if (Int.fmod x1 x2) < 1000000000 then (Int.fmod x1 x2) else 1000000000)))), (am_sh, am_mm U))) ∧ (¬ (¬ x2 = 0) → R = (some (.inl (w32 (if (if 0 < 1000000000 then 0 else 1000000000) < (-1000000000) then (-1000000000) else (if 0 < 1000000000 then 0 else 1000000000)))), (am_sh, am_mm U)))) ∧ (x0 = 53 → (((¬ x2 = 0 : Prop)) → x2 ≠ 0 ∧ R = (some (.inl (w32 (if (if (Int.fmod x1 x2) < 1000000000 then (Int.fmod x1 x2) else 1000000000) < (-1000000000) then (-1000000000) else (if (Int.fmod x1 x2) < 1000000000 then (Int.fmod x1 x2) else 1000000000)))), (am_sh, am_mm U))) ∧ (¬ (¬ x2 = 0) → R = (some (.inl (w32 (if (if 0 < 1000000000 then 0 else 1000000000) < (-1000000000) then (-1000000000) else (if 0 < 1000000000 then 0 else 1000000000)))), (am_sh, am_mm U)))) ∧ (x0 = 54 → (((¬ x2 = 0 : Prop)) → x2 ≠ 0 ∧ R = (some (.inl (w32 (if (if (Int.fmod x1 x2) < 1000000000 then (Int.fmod x1 x2) else 1000000000) < (-1000000000) then (-1000000000) else (if (Int.fmod x1 x2) < 1000000000 then (Int.fmod x1 x2) else 1000000000)))), (am_sh, am_mm U))) ∧ (¬ (¬ x2 = 0) → R = (some (.inl (w32 (if (if 0 < 1000000000 then 0 else 1000000000) < (-1000000000) then (-1000000000) else (if 0 < 1000000000 then 0 else 1000000000)))), (am_sh, am_mm U)))) ∧ (x0 = 55 → (((¬ x2 = 0 : Prop)) → x2 ≠ 0 ∧ R = (some (.inl (w32 (if (if (Int.fmod x1 x2) < 1000000000 then (Int.fmod x1 x2) else 1000000000) < (-1000000000) then (-1000000000) else (if (Int.fmod x1 x2) < 1000000000 then (Int.fmod x1 x2) else 1000000000)))), (am_sh, am_mm U))) ∧ (¬ (¬ x2 = 0) → R = (some (.inl (w32 (if (if 0 < 1000000000 then 0 else 1000000000) < (-1000000000) then (-1000000000) else (if 0 < 1000000000 then 0 else 1000000000)))), (am_sh, am_mm U)))) ∧ (x0 = 56 → (((¬ x2 = 0 : Prop)) → x2 ≠ 0 ∧ R = (some (.inl (w32 (if (if (Int.fmod x1 x2) < 1000000000 then (Int.fmod x1 x2) else 1000000000) < (-1000000000) then (-1000000000) else (if (Int.fmod x1 x2) < 1000000000 then (Int.fmod x1 x2) else 1000000000)))), (am_sh, am_mm U))) ∧ (¬ (¬ x2 = 0) → R = (some (.inl (w32 (if (if 0 < 1000000000 then 0 else 1000000000) < (-1000000000) then (-1000000000) else (if 0 < 1000000000 then 0 else 1000000000)))), (am_sh, am_mm U)))) ∧ (x0 = 57 → (((¬ x2 = 0 : Prop)) → x2 ≠ 0 ∧ R = (some (.inl (w32 (if (if (Int.fmod x1 x2) < 1000000000 then (Int.fmod x1 x2) else 1000000000) < (-1000000000) then (-1000000000) else (if (Int.fmod x1 x2) < 1000000000 then (Int.fmod x1 x2) else 1000000000)))), (am_sh, am_mm U))) ∧ (¬ (¬ x2 = 0) → R = (some (.inl (w32 (if (if 0 < 1000000000 then 0 else 1000000000) < (-1000000000) then (-1000000000) else (if 0 < 1000000000 then 0 else 1000000000)))), (am_sh, am_mm U)))) ∧ (x0 = 58 → (((¬ x2 = 0 : Prop)) → x2 ≠ 0 ∧ R = (some (.inl (w32 (if (if (Int.fmod x1 x2) < 1000000000 then (Int.fmod x1 x2) else 1000000000) < (-1000000000) then (-1000000000) else (if (Int.fmod x1 x2) < 1000000000 then (Int.fmod x1 x2) else 1000000000)))), (am_sh, am_mm U))) ∧ (¬ (¬ x2 = 0) → R = (some (.inl (w32 (if (if 0 < 1000000000 then 0 else 1000000000) < (-1000000000) then (-1000000000) else (if 0 < 1000000000 then 0 else 1000000000)))), (am_sh, am_mm U)))) ∧ (x0 = 59 → (((¬ x2 = 0 : Prop)) → x2 ≠ 0 ∧ R = (some (.inl (w32 (if (if (Int.fmod x1 x2) < 1000000000 then (Int.fmod x1 x2) else 1000000000) < (-1000000000) then (-1000000000) else (if (Int.fmod x1 x2) < 1000000000 then (Int.fmod x1 x2) else 1000000000)))), (am_sh, am_mm U))) ∧ (¬ (¬ x2 = 0) → R = (some (.inl (w32 (if (if 0 < 1000000000 then 0 else 1000000000) < (-1000000000) then (-1000000000) else (if 0 < 1000000000 then 0 else 1000000000)))), (am_sh, am_mm U)))) ∧ (x0 = 60 → (((x2 ≤ x1 : Prop)) → R = (some (.inl 0), (am_sh, am_mm U))) ∧ (¬ (x2 ≤ x1) → R = (some (.inl 1), (am_sh, am_mm U)))) ∧ (x0 = 61 → (((¬ x1 = x2 : Prop)) → R = (some (.inl 0), (am_sh, am_mm U))) ∧ (¬ (¬ x1 = x2) → R = (some (.inl 1), (am_sh, am_mm U)))) ∧ (x0 = 62 → (((x1 ≤ x2 : Prop)) → R = (some (.inl 0), (am_sh, am_mm U))) ∧ (¬ (x1 ≤ x2) → R = (some (.inl 1), (am_sh, am_mm U)))) ∧ (¬ x0 = 42 ∧ ¬ x0 = 43 ∧ ¬ x0 = 44 ∧ ¬ x0 = 45 ∧ ¬ x0 = 46 ∧ ¬ x0 = 47 ∧ ¬ x0 = 48 ∧ ¬ x0 = 49 ∧ ¬ x0 = 50 ∧ ¬ x0 = 51 ∧ ¬ x0 = 52 ∧ ¬ x0 = 53 ∧ ¬ x0 = 54 ∧ ¬ x0 = 55 ∧ ¬ x0 = 56 ∧ ¬ x0 = 57 ∧ ¬ x0 = 58 ∧ ¬ x0 = 59 ∧ ¬ x0 = 60 ∧ ¬ x0 = 61 ∧ ¬ x0 = 62 → (((¬ x2 = 0 : Prop)) → x2 ≠ 0 ∧ R = (some (.inl (w32 (if (if (Int.fmod x1 x2) < 1000000000 then (Int.fmod x1 x2) else 1000000000) < (-1000000000) then (-1000000000) else (if (Int.fmod x1 x2) < 1000000000 then (Int.fmod x1 x2) else 1000000000)))), (am_sh, am_mm U))) ∧ (¬ (¬ x2 = 0) → R = (some (.inl (w32 (if (if 0 < 1000000000 then 0 else 1000000000) < (-1000000000) then (-1000000000) else (if 0 < 1000000000 then 0 else 1000000000)))), (am_sh, am_mm U))))) : Ev (am_kz N X) ((d + 1), 221, 0, [some (.inl x0), some (.inl x1), some (.inl x2), none, none], [], (am_sh, am_mm U)) R := by
  refine ev_seg (σ1 := ((d + 1), 221, 1, [some (.inl x0), some (.inl x1), some (.inl x2), none, none], [.inl x0], (am_sh, am_mm U))) 1 (fun _ => rfl) ?_
  by_cases hc : x0 = 42
  · have hk0 := h.1 hc
    refine ev_sw (off := 150) rfl (by rw [hc]; rfl) (pt := 151) rfl ?_
    subst hk0
    exact ev_end 14 (fun _ => rfl)
  have nh0 := hc
  clear hc
  by_cases hc : x0 = 43
  · have hk1 := h.2.1 hc
    refine ev_sw (off := 132) rfl (by rw [hc]; rfl) (pt := 133) rfl ?_
    subst hk1
    exact ev_end 14 (fun _ => rfl)
  have nh1 := hc
  clear hc
  by_cases hc : x0 = 44
  · have hk2 := h.2.2.1 hc
    refine ev_sw (off := 177) rfl (by rw [hc]; rfl) (pt := 178) rfl ?_
    refine ev_br (P := ¬ x2 = 0) (σ1 := ((d + 1), 221, 186, [some (.inl x0), some (.inl x1), some (.inl x2), none, none], [], (am_sh, am_mm U))) (σ2 := ((d + 1), 221, 182, [some (.inl x0), some (.inl x1), some (.inl x2), none, none], [], (am_sh, am_mm U))) 2 (fun _ => rfl) (fun hc => ?_) (fun hc => ?_)
    · have hk21 := hk2.1 hc
      refine ev_seg (σ1 := ((d + 1), 221, 188, [some (.inl x0), some (.inl x1), some (.inl x2), none, none], [.inl x2, .inl x1], (am_sh, am_mm U))) 2 (fun _ => rfl) ?_
      refine ev_flm rfl (by omega) (by simp [am_cat]) hk21.1 ?_
      have hk21a := hk21.2
      subst hk21a
      exact ev_end 9 (fun _ => rfl)
    · have hk22 := hk2.2 hc
      subst hk22
      exact ev_end 10 (fun _ => rfl)
  have nh2 := hc
  clear hc
  by_cases hc : x0 = 45
  · have hk3 := h.2.2.2.1 hc
    refine ev_sw (off := 141) rfl (by rw [hc]; rfl) (pt := 142) rfl ?_
    subst hk3
    exact ev_end 14 (fun _ => rfl)
  have nh3 := hc
  clear hc
  by_cases hc : x0 = 46
  · have hk4 := h.2.2.2.2.1 hc
    refine ev_sw (off := 177) rfl (by rw [hc]; rfl) (pt := 178) rfl ?_
    refine ev_br (P := ¬ x2 = 0) (σ1 := ((d + 1), 221, 186, [some (.inl x0), some (.inl x1), some (.inl x2), none, none], [], (am_sh, am_mm U))) (σ2 := ((d + 1), 221, 182, [some (.inl x0), some (.inl x1), some (.inl x2), none, none], [], (am_sh, am_mm U))) 2 (fun _ => rfl) (fun hc => ?_) (fun hc => ?_)
    · have hk41 := hk4.1 hc
      refine ev_seg (σ1 := ((d + 1), 221, 188, [some (.inl x0), some (.inl x1), some (.inl x2), none, none], [.inl x2, .inl x1], (am_sh, am_mm U))) 2 (fun _ => rfl) ?_
      refine ev_flm rfl (by omega) (by simp [am_cat]) hk41.1 ?_
      have hk41a := hk41.2
      subst hk41a
      exact ev_end 9 (fun _ => rfl)
    · have hk42 := hk4.2 hc
      subst hk42
      exact ev_end 10 (fun _ => rfl)
  have nh4 := hc
  clear hc
  by_cases hc : x0 = 47
  · have hk5 := h.2.2.2.2.2.1 hc
    refine ev_sw (off := 159) rfl (by rw [hc]; rfl) (pt := 160) rfl ?_
    refine ev_br (P := ¬ x2 = 0) (σ1 := ((d + 1), 221, 168, [some (.inl x0), some (.inl x1), some (.inl x2), none, none], [], (am_sh, am_mm U))) (σ2 := ((d + 1), 221, 164, [some (.inl x0), some (.inl x1), some (.inl x2), none, none], [], (am_sh, am_mm U))) 2 (fun _ => rfl) (fun hc => ?_) (fun hc => ?_)
    · have hk51 := hk5.1 hc
      refine ev_seg (σ1 := ((d + 1), 221, 170, [some (.inl x0), some (.inl x1), some (.inl x2), none, none], [.inl x2, .inl x1], (am_sh, am_mm U))) 2 (fun _ => rfl) ?_
      refine ev_fld rfl (by omega) (by simp [am_cat]) hk51.1 ?_
      have hk51a := hk51.2
      subst hk51a
      exact ev_end 10 (fun _ => rfl)
    · have hk52 := hk5.2 hc
      subst hk52
      exact ev_end 11 (fun _ => rfl)
  have nh5 := hc
  clear hc
  by_cases hc : x0 = 48
  · have hk6 := h.2.2.2.2.2.2.1 hc
    refine ev_sw (off := 177) rfl (by rw [hc]; rfl) (pt := 178) rfl ?_
    refine ev_br (P := ¬ x2 = 0) (σ1 := ((d + 1), 221, 186, [some (.inl x0), some (.inl x1), some (.inl x2), none, none], [], (am_sh, am_mm U))) (σ2 := ((d + 1), 221, 182, [some (.inl x0), some (.inl x1), some (.inl x2), none, none], [], (am_sh, am_mm U))) 2 (fun _ => rfl) (fun hc => ?_) (fun hc => ?_)
    · have hk61 := hk6.1 hc
      refine ev_seg (σ1 := ((d + 1), 221, 188, [some (.inl x0), some (.inl x1), some (.inl x2), none, none], [.inl x2, .inl x1], (am_sh, am_mm U))) 2 (fun _ => rfl) ?_
      refine ev_flm rfl (by omega) (by simp [am_cat]) hk61.1 ?_
      have hk61a := hk61.2
      subst hk61a
      exact ev_end 9 (fun _ => rfl)
    · have hk62 := hk6.2 hc
      subst hk62
      exact ev_end 10 (fun _ => rfl)
  have nh6 := hc
  clear hc
  by_cases hc : x0 = 49
  · have hk7 := h.2.2.2.2.2.2.2.1 hc
    refine ev_sw (off := 177) rfl (by rw [hc]; rfl) (pt := 178) rfl ?_
    refine ev_br (P := ¬ x2 = 0) (σ1 := ((d + 1), 221, 186, [some (.inl x0), some (.inl x1), some (.inl x2), none, none], [], (am_sh, am_mm U))) (σ2 := ((d + 1), 221, 182, [some (.inl x0), some (.inl x1), some (.inl x2), none, none], [], (am_sh, am_mm U))) 2 (fun _ => rfl) (fun hc => ?_) (fun hc => ?_)
    · have hk71 := hk7.1 hc
      refine ev_seg (σ1 := ((d + 1), 221, 188, [some (.inl x0), some (.inl x1), some (.inl x2), none, none], [.inl x2, .inl x1], (am_sh, am_mm U))) 2 (fun _ => rfl) ?_
      refine ev_flm rfl (by omega) (by simp [am_cat]) hk71.1 ?_
      have hk71a := hk71.2
      subst hk71a
      exact ev_end 9 (fun _ => rfl)
    · have hk72 := hk7.2 hc
      subst hk72
      exact ev_end 10 (fun _ => rfl)
  have nh7 := hc
  clear hc
  by_cases hc : x0 = 50
  · have hk8 := h.2.2.2.2.2.2.2.2.1 hc
    refine ev_sw (off := 177) rfl (by rw [hc]; rfl) (pt := 178) rfl ?_
    refine ev_br (P := ¬ x2 = 0) (σ1 := ((d + 1), 221, 186, [some (.inl x0), some (.inl x1), some (.inl x2), none, none], [], (am_sh, am_mm U))) (σ2 := ((d + 1), 221, 182, [some (.inl x0), some (.inl x1), some (.inl x2), none, none], [], (am_sh, am_mm U))) 2 (fun _ => rfl) (fun hc => ?_) (fun hc => ?_)
    · have hk81 := hk8.1 hc
      refine ev_seg (σ1 := ((d + 1), 221, 188, [some (.inl x0), some (.inl x1), some (.inl x2), none, none], [.inl x2, .inl x1], (am_sh, am_mm U))) 2 (fun _ => rfl) ?_
      refine ev_flm rfl (by omega) (by simp [am_cat]) hk81.1 ?_
      have hk81a := hk81.2
      subst hk81a
      exact ev_end 9 (fun _ => rfl)
    · have hk82 := hk8.2 hc
      subst hk82
      exact ev_end 10 (fun _ => rfl)
  have nh8 := hc
  clear hc
  by_cases hc : x0 = 51
  · have hk9 := h.2.2.2.2.2.2.2.2.2.1 hc
    refine ev_sw (off := 177) rfl (by rw [hc]; rfl) (pt := 178) rfl ?_
    refine ev_br (P := ¬ x2 = 0) (σ1 := ((d + 1), 221, 186, [some (.inl x0), some (.inl x1), some (.inl x2), none, none], [], (am_sh, am_mm U))) (σ2 := ((d + 1), 221, 182, [some (.inl x0), some (.inl x1), some (.inl x2), none, none], [], (am_sh, am_mm U))) 2 (fun _ => rfl) (fun hc => ?_) (fun hc => ?_)
    · have hk91 := hk9.1 hc
      refine ev_seg (σ1 := ((d + 1), 221, 188, [some (.inl x0), some (.inl x1), some (.inl x2), none, none], [.inl x2, .inl x1], (am_sh, am_mm U))) 2 (fun _ => rfl) ?_
      refine ev_flm rfl (by omega) (by simp [am_cat]) hk91.1 ?_
      have hk91a := hk91.2
      subst hk91a
      exact ev_end 9 (fun _ => rfl)
    · have hk92 := hk9.2 hc
      subst hk92
      exact ev_end 10 (fun _ => rfl)
  have nh9 := hc
  clear hc
  by_cases hc : x0 = 52
  · have hk10 := h.2.2.2.2.2.2.2.2.2.2.1 hc
    refine ev_sw (off := 177) rfl (by rw [hc]; rfl) (pt := 178) rfl ?_
    refine ev_br (P := ¬ x2 = 0) (σ1 := ((d + 1), 221, 186, [some (.inl x0), some (.inl x1), some (.inl x2), none, none], [], (am_sh, am_mm U))) (σ2 := ((d + 1), 221, 182, [some (.inl x0), some (.inl x1), some (.inl x2), none, none], [], (am_sh, am_mm U))) 2 (fun _ => rfl) (fun hc => ?_) (fun hc => ?_)
    · have hk101 := hk10.1 hc
      refine ev_seg (σ1 := ((d + 1), 221, 188, [some (.inl x0), some (.inl x1), some (.inl x2), none, none], [.inl x2, .inl x1], (am_sh, am_mm U))) 2 (fun _ => rfl) ?_
      refine ev_flm rfl (by omega) (by simp [am_cat]) hk101.1 ?_
      have hk101a := hk101.2
      subst hk101a
      exact ev_end 9 (fun _ => rfl)
    · have hk102 := hk10.2 hc
      subst hk102
      exact ev_end 10 (fun _ => rfl)
  have nh10 := hc
  clear hc
  by_cases hc : x0 = 53
  · have hk11 := h.2.2.2.2.2.2.2.2.2.2.2.1 hc
    refine ev_sw (off := 177) rfl (by rw [hc]; rfl) (pt := 178) rfl ?_
    refine ev_br (P := ¬ x2 = 0) (σ1 := ((d + 1), 221, 186, [some (.inl x0), some (.inl x1), some (.inl x2), none, none], [], (am_sh, am_mm U))) (σ2 := ((d + 1), 221, 182, [some (.inl x0), some (.inl x1), some (.inl x2), none, none], [], (am_sh, am_mm U))) 2 (fun _ => rfl) (fun hc => ?_) (fun hc => ?_)
    · have hk111 := hk11.1 hc
      refine ev_seg (σ1 := ((d + 1), 221, 188, [some (.inl x0), some (.inl x1), some (.inl x2), none, none], [.inl x2, .inl x1], (am_sh, am_mm U))) 2 (fun _ => rfl) ?_
      refine ev_flm rfl (by omega) (by simp [am_cat]) hk111.1 ?_
      have hk111a := hk111.2
      subst hk111a
      exact ev_end 9 (fun _ => rfl)
    · have hk112 := hk11.2 hc
      subst hk112
      exact ev_end 10 (fun _ => rfl)
  have nh11 := hc
  clear hc
  by_cases hc : x0 = 54
  · have hk12 := h.2.2.2.2.2.2.2.2.2.2.2.2.1 hc
    refine ev_sw (off := 177) rfl (by rw [hc]; rfl) (pt := 178) rfl ?_
    refine ev_br (P := ¬ x2 = 0) (σ1 := ((d + 1), 221, 186, [some (.inl x0), some (.inl x1), some (.inl x2), none, none], [], (am_sh, am_mm U))) (σ2 := ((d + 1), 221, 182, [some (.inl x0), some (.inl x1), some (.inl x2), none, none], [], (am_sh, am_mm U))) 2 (fun _ => rfl) (fun hc => ?_) (fun hc => ?_)
    · have hk121 := hk12.1 hc
      refine ev_seg (σ1 := ((d + 1), 221, 188, [some (.inl x0), some (.inl x1), some (.inl x2), none, none], [.inl x2, .inl x1], (am_sh, am_mm U))) 2 (fun _ => rfl) ?_
      refine ev_flm rfl (by omega) (by simp [am_cat]) hk121.1 ?_
      have hk121a := hk121.2
      subst hk121a
      exact ev_end 9 (fun _ => rfl)
    · have hk122 := hk12.2 hc
      subst hk122
      exact ev_end 10 (fun _ => rfl)
  have nh12 := hc
  clear hc
  by_cases hc : x0 = 55
  · have hk13 := h.2.2.2.2.2.2.2.2.2.2.2.2.2.1 hc
    refine ev_sw (off := 177) rfl (by rw [hc]; rfl) (pt := 178) rfl ?_
    refine ev_br (P := ¬ x2 = 0) (σ1 := ((d + 1), 221, 186, [some (.inl x0), some (.inl x1), some (.inl x2), none, none], [], (am_sh, am_mm U))) (σ2 := ((d + 1), 221, 182, [some (.inl x0), some (.inl x1), some (.inl x2), none, none], [], (am_sh, am_mm U))) 2 (fun _ => rfl) (fun hc => ?_) (fun hc => ?_)
    · have hk131 := hk13.1 hc
      refine ev_seg (σ1 := ((d + 1), 221, 188, [some (.inl x0), some (.inl x1), some (.inl x2), none, none], [.inl x2, .inl x1], (am_sh, am_mm U))) 2 (fun _ => rfl) ?_
      refine ev_flm rfl (by omega) (by simp [am_cat]) hk131.1 ?_
      have hk131a := hk131.2
      subst hk131a
      exact ev_end 9 (fun _ => rfl)
    · have hk132 := hk13.2 hc
      subst hk132
      exact ev_end 10 (fun _ => rfl)
  have nh13 := hc
  clear hc
  by_cases hc : x0 = 56
  · have hk14 := h.2.2.2.2.2.2.2.2.2.2.2.2.2.2.1 hc
    refine ev_sw (off := 177) rfl (by rw [hc]; rfl) (pt := 178) rfl ?_
    refine ev_br (P := ¬ x2 = 0) (σ1 := ((d + 1), 221, 186, [some (.inl x0), some (.inl x1), some (.inl x2), none, none], [], (am_sh, am_mm U))) (σ2 := ((d + 1), 221, 182, [some (.inl x0), some (.inl x1), some (.inl x2), none, none], [], (am_sh, am_mm U))) 2 (fun _ => rfl) (fun hc => ?_) (fun hc => ?_)
    · have hk141 := hk14.1 hc
      refine ev_seg (σ1 := ((d + 1), 221, 188, [some (.inl x0), some (.inl x1), some (.inl x2), none, none], [.inl x2, .inl x1], (am_sh, am_mm U))) 2 (fun _ => rfl) ?_
      refine ev_flm rfl (by omega) (by simp [am_cat]) hk141.1 ?_
      have hk141a := hk141.2
      subst hk141a
      exact ev_end 9 (fun _ => rfl)
    · have hk142 := hk14.2 hc
      subst hk142
      exact ev_end 10 (fun _ => rfl)
  have nh14 := hc
  clear hc
  by_cases hc : x0 = 57
  · have hk15 := h.2.2.2.2.2.2.2.2.2.2.2.2.2.2.2.1 hc
    refine ev_sw (off := 177) rfl (by rw [hc]; rfl) (pt := 178) rfl ?_
    refine ev_br (P := ¬ x2 = 0) (σ1 := ((d + 1), 221, 186, [some (.inl x0), some (.inl x1), some (.inl x2), none, none], [], (am_sh, am_mm U))) (σ2 := ((d + 1), 221, 182, [some (.inl x0), some (.inl x1), some (.inl x2), none, none], [], (am_sh, am_mm U))) 2 (fun _ => rfl) (fun hc => ?_) (fun hc => ?_)
    · have hk151 := hk15.1 hc
      refine ev_seg (σ1 := ((d + 1), 221, 188, [some (.inl x0), some (.inl x1), some (.inl x2), none, none], [.inl x2, .inl x1], (am_sh, am_mm U))) 2 (fun _ => rfl) ?_
      refine ev_flm rfl (by omega) (by simp [am_cat]) hk151.1 ?_
      have hk151a := hk151.2
      subst hk151a
      exact ev_end 9 (fun _ => rfl)
    · have hk152 := hk15.2 hc
      subst hk152
      exact ev_end 10 (fun _ => rfl)
  have nh15 := hc
  clear hc
  by_cases hc : x0 = 58
  · have hk16 := h.2.2.2.2.2.2.2.2.2.2.2.2.2.2.2.2.1 hc
    refine ev_sw (off := 177) rfl (by rw [hc]; rfl) (pt := 178) rfl ?_
    refine ev_br (P := ¬ x2 = 0) (σ1 := ((d + 1), 221, 186, [some (.inl x0), some (.inl x1), some (.inl x2), none, none], [], (am_sh, am_mm U))) (σ2 := ((d + 1), 221, 182, [some (.inl x0), some (.inl x1), some (.inl x2), none, none], [], (am_sh, am_mm U))) 2 (fun _ => rfl) (fun hc => ?_) (fun hc => ?_)
    · have hk161 := hk16.1 hc
      refine ev_seg (σ1 := ((d + 1), 221, 188, [some (.inl x0), some (.inl x1), some (.inl x2), none, none], [.inl x2, .inl x1], (am_sh, am_mm U))) 2 (fun _ => rfl) ?_
      refine ev_flm rfl (by omega) (by simp [am_cat]) hk161.1 ?_
      have hk161a := hk161.2
      subst hk161a
      exact ev_end 9 (fun _ => rfl)
    · have hk162 := hk16.2 hc
      subst hk162
      exact ev_end 10 (fun _ => rfl)
  have nh16 := hc
  clear hc
  by_cases hc : x0 = 59
  · have hk17 := h.2.2.2.2.2.2.2.2.2.2.2.2.2.2.2.2.2.1 hc
    refine ev_sw (off := 177) rfl (by rw [hc]; rfl) (pt := 178) rfl ?_
    refine ev_br (P := ¬ x2 = 0) (σ1 := ((d + 1), 221, 186, [some (.inl x0), some (.inl x1), some (.inl x2), none, none], [], (am_sh, am_mm U))) (σ2 := ((d + 1), 221, 182, [some (.inl x0), some (.inl x1), some (.inl x2), none, none], [], (am_sh, am_mm U))) 2 (fun _ => rfl) (fun hc => ?_) (fun hc => ?_)
    · have hk171 := hk17.1 hc
      refine ev_seg (σ1 := ((d + 1), 221, 188, [some (.inl x0), some (.inl x1), some (.inl x2), none, none], [.inl x2, .inl x1], (am_sh, am_mm U))) 2 (fun _ => rfl) ?_
      refine ev_flm rfl (by omega) (by simp [am_cat]) hk171.1 ?_
      have hk171a := hk171.2
      subst hk171a
      exact ev_end 9 (fun _ => rfl)
    · have hk172 := hk17.2 hc
      subst hk172
      exact ev_end 10 (fun _ => rfl)
  have nh17 := hc
  clear hc
  by_cases hc : x0 = 60
  · have hk18 := h.2.2.2.2.2.2.2.2.2.2.2.2.2.2.2.2.2.2.1 hc
    refine ev_sw (off := 99) rfl (by rw [hc]; rfl) (pt := 100) rfl ?_
    refine ev_br (P := x2 ≤ x1) (σ1 := ((d + 1), 221, 109, [some (.inl x0), some (.inl x1), some (.inl x2), none, none], [], (am_sh, am_mm U))) (σ2 := ((d + 1), 221, 105, [some (.inl x0), some (.inl x1), some (.inl x2), none, none], [], (am_sh, am_mm U))) 3 (fun _ => rfl) (fun hc => ?_) (fun hc => ?_)
    · have hk181 := hk18.1 hc
      subst hk181
      exact ev_end 2 (fun _ => rfl)
    · have hk182 := hk18.2 hc
      subst hk182
      exact ev_end 3 (fun _ => rfl)
  have nh18 := hc
  clear hc
  by_cases hc : x0 = 61
  · have hk19 := h.2.2.2.2.2.2.2.2.2.2.2.2.2.2.2.2.2.2.2.1 hc
    refine ev_sw (off := 121) rfl (by rw [hc]; rfl) (pt := 122) rfl ?_
    refine ev_br (P := ¬ x1 = x2) (σ1 := ((d + 1), 221, 131, [some (.inl x0), some (.inl x1), some (.inl x2), none, none], [], (am_sh, am_mm U))) (σ2 := ((d + 1), 221, 127, [some (.inl x0), some (.inl x1), some (.inl x2), none, none], [], (am_sh, am_mm U))) 3 (fun _ => rfl) (fun hc => ?_) (fun hc => ?_)
    · have hk191 := hk19.1 hc
      subst hk191
      exact ev_end 2 (fun _ => rfl)
    · have hk192 := hk19.2 hc
      subst hk192
      exact ev_end 3 (fun _ => rfl)
  have nh19 := hc
  clear hc
  by_cases hc : x0 = 62
  · have hk20 := h.2.2.2.2.2.2.2.2.2.2.2.2.2.2.2.2.2.2.2.2.1 hc
    refine ev_sw (off := 110) rfl (by rw [hc]; rfl) (pt := 111) rfl ?_
    refine ev_br (P := x1 ≤ x2) (σ1 := ((d + 1), 221, 120, [some (.inl x0), some (.inl x1), some (.inl x2), none, none], [], (am_sh, am_mm U))) (σ2 := ((d + 1), 221, 116, [some (.inl x0), some (.inl x1), some (.inl x2), none, none], [], (am_sh, am_mm U))) 3 (fun _ => rfl) (fun hc => ?_) (fun hc => ?_)
    · have hk201 := hk20.1 hc
      subst hk201
      exact ev_end 2 (fun _ => rfl)
    · have hk202 := hk20.2 hc
      subst hk202
      exact ev_end 3 (fun _ => rfl)
  have nh20 := hc
  clear hc
  have hkd := h.2.2.2.2.2.2.2.2.2.2.2.2.2.2.2.2.2.2.2.2.2 ⟨nh0, nh1, nh2, nh3, nh4, nh5, nh6, nh7, nh8, nh9, nh10, nh11, nh12, nh13, nh14, nh15, nh16, nh17, nh18, nh19, nh20⟩
  refine ev_sw (off := 177) rfl (if_pos (by omega)) (pt := 178) rfl ?_
  refine ev_br (P := ¬ x2 = 0) (σ1 := ((d + 1), 221, 186, [some (.inl x0), some (.inl x1), some (.inl x2), none, none], [], (am_sh, am_mm U))) (σ2 := ((d + 1), 221, 182, [some (.inl x0), some (.inl x1), some (.inl x2), none, none], [], (am_sh, am_mm U))) 2 (fun _ => rfl) (fun hc => ?_) (fun hc => ?_)
  · have hkd1 := hkd.1 hc
    refine ev_seg (σ1 := ((d + 1), 221, 188, [some (.inl x0), some (.inl x1), some (.inl x2), none, none], [.inl x2, .inl x1], (am_sh, am_mm U))) 2 (fun _ => rfl) ?_
    refine ev_flm rfl (by omega) (by simp [am_cat]) hkd1.1 ?_
    have hkd1a := hkd1.2
    subst hkd1a
    exact ev_end 9 (fun _ => rfl)
  · have hkd2 := hkd.2 hc
    subst hkd2
    exact ev_end 10 (fun _ => rfl)
set_option maxRecDepth 8000 in
theorem st219_45_0 (N : Nat) (X : Nat → Int) (d : Nat) (x1 : Int) (U : Nat → Nat → Int) (R : Option am_V × am_M) (h : (((64 ≤ (U 45 3) : Prop)) → R = (none, (am_sh, am_mm U))) ∧ (¬ (64 ≤ (U 45 3)) → (0 ≤ (U 45 3) ∧ (U 45 3) < 64) ∧ R = (none, (am_sh, am_mm (am_upd (am_upd U 46 (U 45 3).toNat x1) 45 3 (w32 (((am_upd U 46 (U 45 3).toNat x1) 45 3) + 1))))))) : Ev (am_kz N X) (d, 219, 0, [some (.inr (.inr 45)), some (.inl x1)], [], (am_sh, am_mm U)) R := by
  refine ev_br (P := 64 ≤ (U 45 3)) (σ1 := (d, 219, 32, [some (.inr (.inr 45)), some (.inl x1)], [], (am_sh, am_mm U))) (σ2 := (d, 219, 12, [some (.inr (.inr 45)), some (.inl x1)], [], (am_sh, am_mm U))) 6 (fun _ => rfl) (fun hc => ?_) (fun hc => ?_)
  · have h1 := h.1 hc
    subst h1
    exact ev_end 1 (fun _ => rfl)
  · have h2 := h.2 hc
    refine ev_seg (σ1 := (d, 219, 21, [some (.inr (.inr 45)), some (.inl x1)], [.inl x1, .inl (U 45 3), .inr (.inr 46)], (am_sh, am_mm U))) 5 (fun _ => rfl) ?_
    refine eu_iast 46 (n := 64) rfl (by decide) rfl (fun _ => rfl) h2.1 ?_
    have h2a := h2.2
    refine ev_seg (σ1 := (d, 219, 29, [some (.inr (.inr 45)), some (.inl x1)], [.inl (w32 (((am_upd U 46 (U 45 3).toNat x1) 45 3) + 1)), .inr (.inr 45)], (am_sh, am_mm (am_upd U 46 (U 45 3).toNat x1)))) 5 (fun _ => rfl) ?_
    refine eu_puti 45 (n := 6) rfl (by decide) rfl rfl ?_
    subst h2a
    exact ev_end 1 (fun _ => rfl)
set_option maxRecDepth 8000 in
theorem st222_45_0 (N : Nat) (X : Nat → Int) (d : Nat) (x1 x2 x3 : Int) (U : Nat → Nat → Int) (R : Option am_V × am_M) (h : (0 ≤ x2 ∧ x2 < 16) ∧ ((((U 18 x2.toNat) < 0 : Prop)) → Ev (am_kz N X) ((d + 1), 222, 28, [some (.inr (.inr 45)), some (.inl x1), some (.inl x2), some (.inl x3), some (.inl (U 18 x2.toNat)), none], [], (am_sh, am_mm U)) R) ∧ (¬ ((U 18 x2.toNat) < 0) → ((((U 18 x2.toNat) < (U 3 1) : Prop)) → (x1 = 0 → (((0 = 0 : Prop)) → (0 ≤ (U 18 x2.toNat) ∧ (U 18 x2.toNat) < 12) ∧ R = (some (.inl (U 6 (U 18 x2.toNat).toNat)), (am_sh, am_mm U))) ∧ (¬ (0 = 0) → R = (some (.inl (-1)), (am_sh, am_mm U)))) ∧ (x1 = 3 → (((0 = 0 : Prop)) → (0 ≤ (U 18 x2.toNat) ∧ (U 18 x2.toNat) < 12) ∧ R = (some (.inl (U 8 (U 18 x2.toNat).toNat)), (am_sh, am_mm U))) ∧ (¬ (0 = 0) → R = (some (.inl 0), (am_sh, am_mm U)))) ∧ (x1 = 14 → (0 ≤ x2 ∧ x2 < 16) ∧ R = (some (.inl (U 17 x2.toNat)), (am_sh, am_mm U))) ∧ (x1 = 15 → R = (some (.inl x3), (am_sh, am_mm U))) ∧ (x1 = 16 → (((0 = 0 : Prop)) → (0 ≤ (U 18 x2.toNat) ∧ (U 18 x2.toNat) < 12) ∧ ∃ (r1 : Int) (U1 : Nat → Nat → Int), Ev (am_kz N X) (d, 98, 0, [some (.inl (U 19 (U 18 x2.toNat).toNat))], [], (am_sh, am_mm U)) (some (.inl r1), (am_sh, am_mm U1)) ∧ R = (some (.inl r1), (am_sh, am_mm U1))) ∧ (¬ (0 = 0) → R = (some (.inl 0), (am_sh, am_mm U)))) ∧ (¬ x1 = 0 ∧ ¬ x1 = 3 ∧ ¬ x1 = 14 ∧ ¬ x1 = 15 ∧ ¬ x1 = 16 → (((0 = 0 : Prop)) → R = (some (.inl (U 18 x2.toNat)), (am_sh, am_mm U))) ∧ (¬ (0 = 0) → R = (some (.inl (-1)), (am_sh, am_mm U))))) ∧ (¬ ((U 18 x2.toNat) < (U 3 1)) → Ev (am_kz N X) ((d + 1), 222, 28, [some (.inr (.inr 45)), some (.inl x1), some (.inl x2), some (.inl x3), some (.inl (U 18 x2.toNat)), none], [], (am_sh, am_mm U)) R))) : Ev (am_kz N X) ((d + 1), 222, 0, [some (.inr (.inr 45)), some (.inl x1), some (.inl x2), some (.inl x3), none, none], [], (am_sh, am_mm U)) R := by
  refine ev_seg (σ1 := ((d + 1), 222, 8, [some (.inr (.inr 45)), some (.inl x1), some (.inl x2), some (.inl x3), none, none], [.inl x2, .inr (.inr 18)], (am_sh, am_mm U))) 4 (fun _ => rfl) ?_
  refine eu_iald 18 (n := 16) rfl (by decide) rfl (fun _ => rfl) h.1 ?_
  have ha := h.2
  refine ev_br (P := (U 18 x2.toNat) < 0) (σ1 := ((d + 1), 222, 28, [some (.inr (.inr 45)), some (.inl x1), some (.inl x2), some (.inl x3), some (.inl (U 18 x2.toNat)), none], [], (am_sh, am_mm U))) (σ2 := ((d + 1), 222, 16, [some (.inr (.inr 45)), some (.inl x1), some (.inl x2), some (.inl x3), some (.inl (U 18 x2.toNat)), none], [], (am_sh, am_mm U))) 3 (fun _ => rfl) (fun hc => ?_) (fun hc => ?_)
  · have ha1 := ha.1 hc
    exact ha1
  · have ha2 := ha.2 hc
    refine ev_br (P := (U 18 x2.toNat) < (U 3 1)) (σ1 := ((d + 1), 222, 32, [some (.inr (.inr 45)), some (.inl x1), some (.inl x2), some (.inl x3), some (.inl (U 18 x2.toNat)), none], [], (am_sh, am_mm U))) (σ2 := ((d + 1), 222, 28, [some (.inr (.inr 45)), some (.inl x1), some (.inl x2), some (.inl x3), some (.inl (U 18 x2.toNat)), none], [], (am_sh, am_mm U))) 5 (fun _ => rfl) (fun hc => ?_) (fun hc => ?_)
    · have ha21 := ha2.1 hc
      refine ev_seg (σ1 := ((d + 1), 222, 36, [some (.inr (.inr 45)), some (.inl x1), some (.inl x2), some (.inl x3), some (.inl (U 18 x2.toNat)), some (.inl 0)], [.inl x1], (am_sh, am_mm U))) 3 (fun _ => rfl) ?_
      by_cases hc : x1 = 0
      · have ha21k0 := ha21.1 hc
        refine ev_lsw rfl (pt := 143) (by rw [hc]; rfl) ?_
        refine ev_br (P := 0 = 0) (σ1 := ((d + 1), 222, 152, [some (.inr (.inr 45)), some (.inl x1), some (.inl x2), some (.inl x3), some (.inl (U 18 x2.toNat)), some (.inl 0)], [], (am_sh, am_mm U))) (σ2 := ((d + 1), 222, 148, [some (.inr (.inr 45)), some (.inl x1), some (.inl x2), some (.inl x3), some (.inl (U 18 x2.toNat)), some (.inl 0)], [], (am_sh, am_mm U))) 2 (fun _ => rfl) (fun hc => ?_) (fun hc => ?_)
        · have ha21k01 := ha21k0.1 hc
          refine ev_seg (σ1 := ((d + 1), 222, 161, [some (.inr (.inr 45)), some (.inl x1), some (.inl x2), some (.inl x3), some (.inl (U 18 x2.toNat)), some (.inl 0)], [.inl (U 18 x2.toNat), .inr (.inr 6)], (am_sh, am_mm U))) 4 (fun _ => rfl) ?_
          refine eu_iald 6 (n := 12) rfl (by decide) rfl (fun _ => rfl) ha21k01.1 ?_
          have ha21k01a := ha21k01.2
          subst ha21k01a
          exact ev_end 1 (fun _ => rfl)
        · have ha21k02 := ha21k0.2 hc
          subst ha21k02
          exact ev_end 3 (fun _ => rfl)
      have nha210 := hc
      clear hc
      by_cases hc : x1 = 3
      · have ha21k1 := ha21.2.1 hc
        refine ev_lsw rfl (pt := 100) (by rw [hc]; rfl) ?_
        refine ev_br (P := 0 = 0) (σ1 := ((d + 1), 222, 109, [some (.inr (.inr 45)), some (.inl x1), some (.inl x2), some (.inl x3), some (.inl (U 18 x2.toNat)), some (.inl 0)], [], (am_sh, am_mm U))) (σ2 := ((d + 1), 222, 105, [some (.inr (.inr 45)), some (.inl x1), some (.inl x2), some (.inl x3), some (.inl (U 18 x2.toNat)), some (.inl 0)], [], (am_sh, am_mm U))) 2 (fun _ => rfl) (fun hc => ?_) (fun hc => ?_)
        · have ha21k11 := ha21k1.1 hc
          refine ev_seg (σ1 := ((d + 1), 222, 118, [some (.inr (.inr 45)), some (.inl x1), some (.inl x2), some (.inl x3), some (.inl (U 18 x2.toNat)), some (.inl 0)], [.inl (U 18 x2.toNat), .inr (.inr 8)], (am_sh, am_mm U))) 4 (fun _ => rfl) ?_
          refine eu_iald 8 (n := 12) rfl (by decide) rfl (fun _ => rfl) ha21k11.1 ?_
          have ha21k11a := ha21k11.2
          subst ha21k11a
          exact ev_end 1 (fun _ => rfl)
        · have ha21k12 := ha21k1.2 hc
          subst ha21k12
          exact ev_end 3 (fun _ => rfl)
      have nha211 := hc
      clear hc
      by_cases hc : x1 = 14
      · have ha21k2 := ha21.2.2.1 hc
        refine ev_lsw rfl (pt := 88) (by rw [hc]; rfl) ?_
        refine ev_seg (σ1 := ((d + 1), 222, 96, [some (.inr (.inr 45)), some (.inl x1), some (.inl x2), some (.inl x3), some (.inl (U 18 x2.toNat)), some (.inl 0)], [.inl x2, .inr (.inr 17)], (am_sh, am_mm U))) 4 (fun _ => rfl) ?_
        refine eu_iald 17 (n := 16) rfl (by decide) rfl (fun _ => rfl) ha21k2.1 ?_
        have ha21k2a := ha21k2.2
        subst ha21k2a
        exact ev_end 1 (fun _ => rfl)
      have nha212 := hc
      clear hc
      by_cases hc : x1 = 15
      · have ha21k3 := ha21.2.2.2.1 hc
        refine ev_lsw rfl (pt := 98) (by rw [hc]; rfl) ?_
        subst ha21k3
        exact ev_end 2 (fun _ => rfl)
      have nha213 := hc
      clear hc
      by_cases hc : x1 = 16
      · have ha21k4 := ha21.2.2.2.2.1 hc
        refine ev_lsw rfl (pt := 120) (by rw [hc]; rfl) ?_
        refine ev_br (P := 0 = 0) (σ1 := ((d + 1), 222, 129, [some (.inr (.inr 45)), some (.inl x1), some (.inl x2), some (.inl x3), some (.inl (U 18 x2.toNat)), some (.inl 0)], [], (am_sh, am_mm U))) (σ2 := ((d + 1), 222, 125, [some (.inr (.inr 45)), some (.inl x1), some (.inl x2), some (.inl x3), some (.inl (U 18 x2.toNat)), some (.inl 0)], [], (am_sh, am_mm U))) 2 (fun _ => rfl) (fun hc => ?_) (fun hc => ?_)
        · have ha21k41 := ha21k4.1 hc
          refine ev_seg (σ1 := ((d + 1), 222, 138, [some (.inr (.inr 45)), some (.inl x1), some (.inl x2), some (.inl x3), some (.inl (U 18 x2.toNat)), some (.inl 0)], [.inl (U 18 x2.toNat), .inr (.inr 19)], (am_sh, am_mm U))) 4 (fun _ => rfl) ?_
          refine eu_iald 19 (n := 12) rfl (by decide) rfl (fun _ => rfl) ha21k41.1 ?_
          have ha21k41a := ha21k41.2
          obtain ⟨r1, U1, ha21k41ac, ha21k41aa⟩ := ha21k41a
          refine ev_cal (σc := (d, 98, 0, [some (.inl (U 19 (U 18 x2.toNat).toNat))], [], (am_sh, am_mm U))) (fun _ => rfl) ha21k41ac ?_
          show Ev (am_kz N X) ((d + 1), 222, 142, [some (.inr (.inr 45)), some (.inl x1), some (.inl x2), some (.inl x3), some (.inl (U 18 x2.toNat)), some (.inl 0)], [.inl r1], (am_sh, am_mm U1)) R
          subst ha21k41aa
          exact ev_end 1 (fun _ => rfl)
        · have ha21k42 := ha21k4.2 hc
          subst ha21k42
          exact ev_end 3 (fun _ => rfl)
      have nha214 := hc
      clear hc
      have ha21kd := ha21.2.2.2.2.2 ⟨nha210, nha211, nha212, nha213, nha214⟩
      refine ev_lsw rfl (pt := 163) (by simp only [Op.lookupswitch.offset]; rw [if_neg (fun e => nha210 e.symm)]; rw [if_neg (fun e => nha211 e.symm)]; rw [if_neg (fun e => nha212 e.symm)]; rw [if_neg (fun e => nha213 e.symm)]; rw [if_neg (fun e => nha214 e.symm)]; rfl) ?_
      refine ev_br (P := 0 = 0) (σ1 := ((d + 1), 222, 172, [some (.inr (.inr 45)), some (.inl x1), some (.inl x2), some (.inl x3), some (.inl (U 18 x2.toNat)), some (.inl 0)], [], (am_sh, am_mm U))) (σ2 := ((d + 1), 222, 168, [some (.inr (.inr 45)), some (.inl x1), some (.inl x2), some (.inl x3), some (.inl (U 18 x2.toNat)), some (.inl 0)], [], (am_sh, am_mm U))) 2 (fun _ => rfl) (fun hc => ?_) (fun hc => ?_)
      · have ha21kd1 := ha21kd.1 hc
        subst ha21kd1
        exact ev_end 2 (fun _ => rfl)
      · have ha21kd2 := ha21kd.2 hc
        subst ha21kd2
        exact ev_end 3 (fun _ => rfl)
    · have ha22 := ha2.2 hc
      exact ha22
set_option maxRecDepth 8000 in
theorem st222_45_28 (N : Nat) (X : Nat → Int) (d : Nat) (x1 x2 x3 x4 : Int) (U : Nat → Nat → Int) (R : Option am_V × am_M) (h : (x1 = 0 → (((1 = 0 : Prop)) → (0 ≤ x4 ∧ x4 < 12) ∧ R = (some (.inl (U 6 x4.toNat)), (am_sh, am_mm U))) ∧ (¬ (1 = 0) → R = (some (.inl (-1)), (am_sh, am_mm U)))) ∧ (x1 = 3 → (((1 = 0 : Prop)) → (0 ≤ x4 ∧ x4 < 12) ∧ R = (some (.inl (U 8 x4.toNat)), (am_sh, am_mm U))) ∧ (¬ (1 = 0) → R = (some (.inl 0), (am_sh, am_mm U)))) ∧ (x1 = 14 → (0 ≤ x2 ∧ x2 < 16) ∧ R = (some (.inl (U 17 x2.toNat)), (am_sh, am_mm U))) ∧ (x1 = 15 → R = (some (.inl x3), (am_sh, am_mm U))) ∧ (x1 = 16 → (((1 = 0 : Prop)) → (0 ≤ x4 ∧ x4 < 12) ∧ ∃ (r1 : Int) (U1 : Nat → Nat → Int), Ev (am_kz N X) (d, 98, 0, [some (.inl (U 19 x4.toNat))], [], (am_sh, am_mm U)) (some (.inl r1), (am_sh, am_mm U1)) ∧ R = (some (.inl r1), (am_sh, am_mm U1))) ∧ (¬ (1 = 0) → R = (some (.inl 0), (am_sh, am_mm U)))) ∧ (¬ x1 = 0 ∧ ¬ x1 = 3 ∧ ¬ x1 = 14 ∧ ¬ x1 = 15 ∧ ¬ x1 = 16 → (((1 = 0 : Prop)) → R = (some (.inl x4), (am_sh, am_mm U))) ∧ (¬ (1 = 0) → R = (some (.inl (-1)), (am_sh, am_mm U))))) : Ev (am_kz N X) ((d + 1), 222, 28, [some (.inr (.inr 45)), some (.inl x1), some (.inl x2), some (.inl x3), some (.inl x4), none], [], (am_sh, am_mm U)) R := by
  refine ev_seg (σ1 := ((d + 1), 222, 36, [some (.inr (.inr 45)), some (.inl x1), some (.inl x2), some (.inl x3), some (.inl x4), some (.inl 1)], [.inl x1], (am_sh, am_mm U))) 4 (fun _ => rfl) ?_
  by_cases hc : x1 = 0
  · have hk0 := h.1 hc
    refine ev_lsw rfl (pt := 143) (by rw [hc]; rfl) ?_
    refine ev_br (P := 1 = 0) (σ1 := ((d + 1), 222, 152, [some (.inr (.inr 45)), some (.inl x1), some (.inl x2), some (.inl x3), some (.inl x4), some (.inl 1)], [], (am_sh, am_mm U))) (σ2 := ((d + 1), 222, 148, [some (.inr (.inr 45)), some (.inl x1), some (.inl x2), some (.inl x3), some (.inl x4), some (.inl 1)], [], (am_sh, am_mm U))) 2 (fun _ => rfl) (fun hc => ?_) (fun hc => ?_)
    · have hk01 := hk0.1 hc
      refine ev_seg (σ1 := ((d + 1), 222, 161, [some (.inr (.inr 45)), some (.inl x1), some (.inl x2), some (.inl x3), some (.inl x4), some (.inl 1)], [.inl x4, .inr (.inr 6)], (am_sh, am_mm U))) 4 (fun _ => rfl) ?_
      refine eu_iald 6 (n := 12) rfl (by decide) rfl (fun _ => rfl) hk01.1 ?_
      have hk01a := hk01.2
      subst hk01a
      exact ev_end 1 (fun _ => rfl)
    · have hk02 := hk0.2 hc
      subst hk02
      exact ev_end 3 (fun _ => rfl)
  have nh0 := hc
  clear hc
  by_cases hc : x1 = 3
  · have hk1 := h.2.1 hc
    refine ev_lsw rfl (pt := 100) (by rw [hc]; rfl) ?_
    refine ev_br (P := 1 = 0) (σ1 := ((d + 1), 222, 109, [some (.inr (.inr 45)), some (.inl x1), some (.inl x2), some (.inl x3), some (.inl x4), some (.inl 1)], [], (am_sh, am_mm U))) (σ2 := ((d + 1), 222, 105, [some (.inr (.inr 45)), some (.inl x1), some (.inl x2), some (.inl x3), some (.inl x4), some (.inl 1)], [], (am_sh, am_mm U))) 2 (fun _ => rfl) (fun hc => ?_) (fun hc => ?_)
    · have hk11 := hk1.1 hc
      refine ev_seg (σ1 := ((d + 1), 222, 118, [some (.inr (.inr 45)), some (.inl x1), some (.inl x2), some (.inl x3), some (.inl x4), some (.inl 1)], [.inl x4, .inr (.inr 8)], (am_sh, am_mm U))) 4 (fun _ => rfl) ?_
      refine eu_iald 8 (n := 12) rfl (by decide) rfl (fun _ => rfl) hk11.1 ?_
      have hk11a := hk11.2
      subst hk11a
      exact ev_end 1 (fun _ => rfl)
    · have hk12 := hk1.2 hc
      subst hk12
      exact ev_end 3 (fun _ => rfl)
  have nh1 := hc
  clear hc
  by_cases hc : x1 = 14
  · have hk2 := h.2.2.1 hc
    refine ev_lsw rfl (pt := 88) (by rw [hc]; rfl) ?_
    refine ev_seg (σ1 := ((d + 1), 222, 96, [some (.inr (.inr 45)), some (.inl x1), some (.inl x2), some (.inl x3), some (.inl x4), some (.inl 1)], [.inl x2, .inr (.inr 17)], (am_sh, am_mm U))) 4 (fun _ => rfl) ?_
    refine eu_iald 17 (n := 16) rfl (by decide) rfl (fun _ => rfl) hk2.1 ?_
    have hk2a := hk2.2
    subst hk2a
    exact ev_end 1 (fun _ => rfl)
  have nh2 := hc
  clear hc
  by_cases hc : x1 = 15
  · have hk3 := h.2.2.2.1 hc
    refine ev_lsw rfl (pt := 98) (by rw [hc]; rfl) ?_
    subst hk3
    exact ev_end 2 (fun _ => rfl)
  have nh3 := hc
  clear hc
  by_cases hc : x1 = 16
  · have hk4 := h.2.2.2.2.1 hc
    refine ev_lsw rfl (pt := 120) (by rw [hc]; rfl) ?_
    refine ev_br (P := 1 = 0) (σ1 := ((d + 1), 222, 129, [some (.inr (.inr 45)), some (.inl x1), some (.inl x2), some (.inl x3), some (.inl x4), some (.inl 1)], [], (am_sh, am_mm U))) (σ2 := ((d + 1), 222, 125, [some (.inr (.inr 45)), some (.inl x1), some (.inl x2), some (.inl x3), some (.inl x4), some (.inl 1)], [], (am_sh, am_mm U))) 2 (fun _ => rfl) (fun hc => ?_) (fun hc => ?_)
    · have hk41 := hk4.1 hc
      refine ev_seg (σ1 := ((d + 1), 222, 138, [some (.inr (.inr 45)), some (.inl x1), some (.inl x2), some (.inl x3), some (.inl x4), some (.inl 1)], [.inl x4, .inr (.inr 19)], (am_sh, am_mm U))) 4 (fun _ => rfl) ?_
      refine eu_iald 19 (n := 12) rfl (by decide) rfl (fun _ => rfl) hk41.1 ?_
      have hk41a := hk41.2
      obtain ⟨r1, U1, hk41ac, hk41aa⟩ := hk41a
      refine ev_cal (σc := (d, 98, 0, [some (.inl (U 19 x4.toNat))], [], (am_sh, am_mm U))) (fun _ => rfl) hk41ac ?_
      show Ev (am_kz N X) ((d + 1), 222, 142, [some (.inr (.inr 45)), some (.inl x1), some (.inl x2), some (.inl x3), some (.inl x4), some (.inl 1)], [.inl r1], (am_sh, am_mm U1)) R
      subst hk41aa
      exact ev_end 1 (fun _ => rfl)
    · have hk42 := hk4.2 hc
      subst hk42
      exact ev_end 3 (fun _ => rfl)
  have nh4 := hc
  clear hc
  have hkd := h.2.2.2.2.2 ⟨nh0, nh1, nh2, nh3, nh4⟩
  refine ev_lsw rfl (pt := 163) (by simp only [Op.lookupswitch.offset]; rw [if_neg (fun e => nh0 e.symm)]; rw [if_neg (fun e => nh1 e.symm)]; rw [if_neg (fun e => nh2 e.symm)]; rw [if_neg (fun e => nh3 e.symm)]; rw [if_neg (fun e => nh4 e.symm)]; rfl) ?_
  refine ev_br (P := 1 = 0) (σ1 := ((d + 1), 222, 172, [some (.inr (.inr 45)), some (.inl x1), some (.inl x2), some (.inl x3), some (.inl x4), some (.inl 1)], [], (am_sh, am_mm U))) (σ2 := ((d + 1), 222, 168, [some (.inr (.inr 45)), some (.inl x1), some (.inl x2), some (.inl x3), some (.inl x4), some (.inl 1)], [], (am_sh, am_mm U))) 2 (fun _ => rfl) (fun hc => ?_) (fun hc => ?_)
  · have hkd1 := hkd.1 hc
    subst hkd1
    exact ev_end 2 (fun _ => rfl)
  · have hkd2 := hkd.2 hc
    subst hkd2
    exact ev_end 3 (fun _ => rfl)
set_option maxRecDepth 8000 in
theorem st220_45_0 (N : Nat) (X : Nat → Int) (d : Nat) (U : Nat → Nat → Int) (R : Option am_V × am_M) (h : (((0 < (U 45 3) : Prop)) → (0 ≤ ((am_upd U 45 3 (w32 ((U 45 3) - 1))) 45 3) ∧ ((am_upd U 45 3 (w32 ((U 45 3) - 1))) 45 3) < 64) ∧ R = (some (.inl ((am_upd U 45 3 (w32 ((U 45 3) - 1))) 46 ((am_upd U 45 3 (w32 ((U 45 3) - 1))) 45 3).toNat)), (am_sh, am_mm (am_upd U 45 3 (w32 ((U 45 3) - 1)))))) ∧ (¬ (0 < (U 45 3)) → R = (some (.inl 0), (am_sh, am_mm U)))) : Ev (am_kz N X) (d, 220, 0, [some (.inr (.inr 45))], [], (am_sh, am_mm U)) R := by
  refine ev_br (P := 0 < (U 45 3)) (σ1 := (d, 220, 9, [some (.inr (.inr 45))], [], (am_sh, am_mm U))) (σ2 := (d, 220, 7, [some (.inr (.inr 45))], [], (am_sh, am_mm U))) 3 (fun _ => rfl) (fun hc => ?_) (fun hc => ?_)
  · have h1 := h.1 hc
    refine ev_seg (σ1 := (d, 220, 16, [some (.inr (.inr 45))], [.inl (w32 ((U 45 3) - 1)), .inr (.inr 45)], (am_sh, am_mm U))) 5 (fun _ => rfl) ?_
    refine eu_puti 45 (n := 6) rfl (by decide) rfl rfl ?_
    refine ev_seg (σ1 := (d, 220, 27, [some (.inr (.inr 45))], [.inl ((am_upd U 45 3 (w32 ((U 45 3) - 1))) 45 3), .inr (.inr 46)], (am_sh, am_mm (am_upd U 45 3 (w32 ((U 45 3) - 1)))))) 4 (fun _ => rfl) ?_
    refine eu_iald 46 (n := 64) rfl (by decide) rfl (fun _ => rfl) h1.1 ?_
    have h1a := h1.2
    subst h1a
    exact ev_end 1 (fun _ => rfl)
  · have h2 := h.2 hc
    subst h2
    exact ev_end 2 (fun _ => rfl)
set_option maxRecDepth 8000 in
theorem st223_45_0 (N : Nat) (X : Nat → Int) (d : Nat) (x1 : Int) (U : Nat → Nat → Int) (R : Option am_V × am_M) (h : (x1 = 17 → ∃ (r1 : Int) (U1 : Nat → Nat → Int), Ev (am_kz N X) (d, 220, 0, [some (.inr (.inr 45))], [], (am_sh, am_mm U)) (some (.inl r1), (am_sh, am_mm U1)) ∧ ∃ (r2 : Int) (U2 : Nat → Nat → Int), Ev (am_kz N X) (d, 276, 0, [some (.inl r1), none, none, none, none], [], (am_sh, am_mm U1)) (some (.inl r2), (am_sh, am_mm U2)) ∧ (((r2 = 0 : Prop)) → ∃ U3 : Nat → Nat → Int, Ev (am_kz N X) (d, 219, 0, [some (.inr (.inr 45)), some (.inl 0)], [], (am_sh, am_mm U2)) (none, (am_sh, am_mm U3)) ∧ R = (none, (am_sh, am_mm U3))) ∧ (¬ (r2 = 0) → ∃ U4 : Nat → Nat → Int, Ev (am_kz N X) (d, 219, 0, [some (.inr (.inr 45)), some (.inl 1)], [], (am_sh, am_mm U2)) (none, (am_sh, am_mm U4)) ∧ R = (none, (am_sh, am_mm U4)))) ∧ (x1 = 18 → ∃ (r5 : Int) (U5 : Nat → Nat → Int), Ev (am_kz N X) (d, 220, 0, [some (.inr (.inr 45))], [], (am_sh, am_mm U)) (some (.inl r5), (am_sh, am_mm U5)) ∧ ∃ (r6 : Int) (U6 : Nat → Nat → Int), Ev (am_kz N X) (d, 118, 0, [some (.inl r5), none, none, none, none, none, none, none], [], (am_sh, am_mm U5)) (some (.inl r6), (am_sh, am_mm U6)) ∧ (((r6 = 0 : Prop)) → ∃ U7 : Nat → Nat → Int, Ev (am_kz N X) (d, 219, 0, [some (.inr (.inr 45)), some (.inl 0)], [], (am_sh, am_mm U6)) (none, (am_sh, am_mm U7)) ∧ R = (none, (am_sh, am_mm U7))) ∧ (¬ (r6 = 0) → ∃ U8 : Nat → Nat → Int, Ev (am_kz N X) (d, 219, 0, [some (.inr (.inr 45)), some (.inl 1)], [], (am_sh, am_mm U6)) (none, (am_sh, am_mm U8)) ∧ R = (none, (am_sh, am_mm U8)))) ∧ (x1 = 19 → ∃ (r9 : Int) (U9 : Nat → Nat → Int), Ev (am_kz N X) (d, 220, 0, [some (.inr (.inr 45))], [], (am_sh, am_mm U)) (some (.inl r9), (am_sh, am_mm U9)) ∧ ∃ (r10 : Int) (U10 : Nat → Nat → Int), Ev (am_kz N X) (d, 220, 0, [some (.inr (.inr 45))], [], (am_sh, am_mm U9)) (some (.inl r10), (am_sh, am_mm U10)) ∧ ∃ U11 : Nat → Nat → Int, Ev (am_kz N X) (d, 219, 0, [some (.inr (.inr 45)), some (.inl (if r9 < r10 then r10 else r9))], [], (am_sh, am_mm U10)) (none, (am_sh, am_mm U11)) ∧ R = (none, (am_sh, am_mm U11))) ∧ (x1 = 20 → ∃ (r12 : Int) (U12 : Nat → Nat → Int), Ev (am_kz N X) (d, 220, 0, [some (.inr (.inr 45))], [], (am_sh, am_mm U)) (some (.inl r12), (am_sh, am_mm U12)) ∧ ∃ (r13 : Int) (U13 : Nat → Nat → Int), Ev (am_kz N X) (d, 220, 0, [some (.inr (.inr 45))], [], (am_sh, am_mm U12)) (some (.inl r13), (am_sh, am_mm U13)) ∧ ∃ U14 : Nat → Nat → Int, Ev (am_kz N X) (d, 219, 0, [some (.inr (.inr 45)), some (.inl (if r13 < r12 then r13 else r12))], [], (am_sh, am_mm U13)) (none, (am_sh, am_mm U14)) ∧ R = (none, (am_sh, am_mm U14))) ∧ (x1 = 21 → ∃ (r15 : Int) (U15 : Nat → Nat → Int), Ev (am_kz N X) (d, 220, 0, [some (.inr (.inr 45))], [], (am_sh, am_mm U)) (some (.inl r15), (am_sh, am_mm U15)) ∧ ∃ U16 : Nat → Nat → Int, Ev (am_kz N X) (d, 219, 0, [some (.inr (.inr 45)), some (.inl (w32 (1 - r15)))], [], (am_sh, am_mm U15)) (none, (am_sh, am_mm U16)) ∧ R = (none, (am_sh, am_mm U16))) ∧ (x1 = 22 → ∃ U17 : Nat → Nat → Int, Ev (am_kz N X) (d, 219, 0, [some (.inr (.inr 45)), some (.inl 1)], [], (am_sh, am_mm U)) (none, (am_sh, am_mm U17)) ∧ R = (none, (am_sh, am_mm U17))) ∧ (x1 = 23 → ∃ (r18 : Int) (U18 : Nat → Nat → Int), Ev (am_kz N X) (d, 220, 0, [some (.inr (.inr 45))], [], (am_sh, am_mm U)) (some (.inl r18), (am_sh, am_mm U18)) ∧ ∃ (r19 : Int) (U19 : Nat → Nat → Int), Ev (am_kz N X) (d, 220, 0, [some (.inr (.inr 45))], [], (am_sh, am_mm U18)) (some (.inl r19), (am_sh, am_mm U19)) ∧ ∃ U20 : Nat → Nat → Int, Ev (am_kz N X) (d, 219, 0, [some (.inr (.inr 45)), some (.inl (if r19 < r18 then r19 else r18))], [], (am_sh, am_mm U19)) (none, (am_sh, am_mm U20)) ∧ R = (none, (am_sh, am_mm U20))) ∧ (x1 = 24 → ∃ (r21 : Int) (U21 : Nat → Nat → Int), Ev (am_kz N X) (d, 220, 0, [some (.inr (.inr 45))], [], (am_sh, am_mm U)) (some (.inl r21), (am_sh, am_mm U21)) ∧ ∃ (r22 : Int) (U22 : Nat → Nat → Int), Ev (am_kz N X) (d, 220, 0, [some (.inr (.inr 45))], [], (am_sh, am_mm U21)) (some (.inl r22), (am_sh, am_mm U22)) ∧ ∃ U23 : Nat → Nat → Int, Ev (am_kz N X) (d, 219, 0, [some (.inr (.inr 45)), some (.inl (if r21 < r22 then r22 else r21))], [], (am_sh, am_mm U22)) (none, (am_sh, am_mm U23)) ∧ R = (none, (am_sh, am_mm U23))) ∧ (x1 = 25 → ∃ (r24 : Int) (U24 : Nat → Nat → Int), Ev (am_kz N X) (d, 220, 0, [some (.inr (.inr 45))], [], (am_sh, am_mm U)) (some (.inl r24), (am_sh, am_mm U24)) ∧ ∃ (r25 : Int) (U25 : Nat → Nat → Int), Ev (am_kz N X) (d, 220, 0, [some (.inr (.inr 45))], [], (am_sh, am_mm U24)) (some (.inl r25), (am_sh, am_mm U25)) ∧ ∃ (r26 : Int) (U26 : Nat → Nat → Int), Ev (am_kz N X) (d, 153, 0, [some (.inl r24), some (.inl r25), none, none, none, none], [], (am_sh, am_mm U25)) (some (.inl r26), (am_sh, am_mm U26)) ∧ ∃ U27 : Nat → Nat → Int, Ev (am_kz N X) (d, 219, 0, [some (.inr (.inr 45)), some (.inl r26)], [], (am_sh, am_mm U26)) (none, (am_sh, am_mm U27)) ∧ R = (none, (am_sh, am_mm U27))) ∧ (¬ x1 = 17 ∧ ¬ x1 = 18 ∧ ¬ x1 = 19 ∧ ¬ x1 = 20 ∧ ¬ x1 = 21 ∧ ¬ x1 = 22 ∧ ¬ x1 = 23 ∧ ¬ x1 = 24 ∧ ¬ x1 = 25 → R = (none, (am_sh, am_mm U)))) : Ev (am_kz N X) ((d + 1), 223, 0, [some (.inr (.inr 45)), some (.inl x1)], [], (am_sh, am_mm U)) R := by
  refine ev_seg (σ1 := ((d + 1), 223, 1, [some (.inr (.inr 45)), some (.inl x1)], [.inl x1], (am_sh, am_mm U))) 1 (fun _ => rfl) ?_
  by_cases hc : x1 = 17
  · have hk0 := h.1 hc
    refine ev_sw (off := 72) rfl (by rw [hc]; rfl) (pt := 73) rfl ?_
    refine ev_seg (σ1 := ((d + 1), 223, 75, [some (.inr (.inr 45)), some (.inl x1)], [.inr (.inr 45), .inr (.inr 45)], (am_sh, am_mm U))) 2 (fun _ => rfl) ?_
    obtain ⟨r1, U1, hk0c, hk0a⟩ := hk0
    refine ev_cal (σc := (d, 220, 0, [some (.inr (.inr 45))], [], (am_sh, am_mm U))) (fun _ => rfl) hk0c ?_
    show Ev (am_kz N X) ((d + 1), 223, 78, [some (.inr (.inr 45)), some (.inl x1)], [.inl r1, .inr (.inr 45)], (am_sh, am_mm U1)) R
    obtain ⟨r2, U2, hk0ac, hk0aa⟩ := hk0a
    refine ev_cal (σc := (d, 276, 0, [some (.inl r1), none, none, none, none], [], (am_sh, am_mm U1))) (fun _ => rfl) hk0ac ?_
    show Ev (am_kz N X) ((d + 1), 223, 81, [some (.inr (.inr 45)), some (.inl x1)], [.inl r2, .inr (.inr 45)], (am_sh, am_mm U2)) R
    refine ev_br (P := r2 = 0) (σ1 := ((d + 1), 223, 88, [some (.inr (.inr 45)), some (.inl x1)], [.inr (.inr 45)], (am_sh, am_mm U2))) (σ2 := ((d + 1), 223, 84, [some (.inr (.inr 45)), some (.inl x1)], [.inr (.inr 45)], (am_sh, am_mm U2))) 1 (fun _ => rfl) (fun hc => ?_) (fun hc => ?_)
    · have hk0aa1 := hk0aa.1 hc
      refine ev_seg (σ1 := ((d + 1), 223, 89, [some (.inr (.inr 45)), some (.inl x1)], [.inl 0, .inr (.inr 45)], (am_sh, am_mm U2))) 1 (fun _ => rfl) ?_
      obtain ⟨U3, hk0aa1c, hk0aa1a⟩ := hk0aa1
      refine ev_cal (σc := (d, 219, 0, [some (.inr (.inr 45)), some (.inl 0)], [], (am_sh, am_mm U2))) (fun _ => rfl) hk0aa1c ?_
      show Ev (am_kz N X) ((d + 1), 223, 92, [some (.inr (.inr 45)), some (.inl x1)], [], (am_sh, am_mm U3)) R
      subst hk0aa1a
      exact ev_end 2 (fun _ => rfl)
    · have hk0aa2 := hk0aa.2 hc
      refine ev_seg (σ1 := ((d + 1), 223, 89, [some (.inr (.inr 45)), some (.inl x1)], [.inl 1, .inr (.inr 45)], (am_sh, am_mm U2))) 2 (fun _ => rfl) ?_
      obtain ⟨U4, hk0aa2c, hk0aa2a⟩ := hk0aa2
      refine ev_cal (σc := (d, 219, 0, [some (.inr (.inr 45)), some (.inl 1)], [], (am_sh, am_mm U2))) (fun _ => rfl) hk0aa2c ?_
      show Ev (am_kz N X) ((d + 1), 223, 92, [some (.inr (.inr 45)), some (.inl x1)], [], (am_sh, am_mm U4)) R
      subst hk0aa2a
      exact ev_end 2 (fun _ => rfl)
  have nh0 := hc
  clear hc
  by_cases hc : x1 = 18
  · have hk1 := h.2.1 hc
    refine ev_sw (off := 94) rfl (by rw [hc]; rfl) (pt := 95) rfl ?_
    refine ev_seg (σ1 := ((d + 1), 223, 97, [some (.inr (.inr 45)), some (.inl x1)], [.inr (.inr 45), .inr (.inr 45)], (am_sh, am_mm U))) 2 (fun _ => rfl) ?_
    obtain ⟨r5, U5, hk1c, hk1a⟩ := hk1
    refine ev_cal (σc := (d, 220, 0, [some (.inr (.inr 45))], [], (am_sh, am_mm U))) (fun _ => rfl) hk1c ?_
    show Ev (am_kz N X) ((d + 1), 223, 100, [some (.inr (.inr 45)), some (.inl x1)], [.inl r5, .inr (.inr 45)], (am_sh, am_mm U5)) R
    obtain ⟨r6, U6, hk1ac, hk1aa⟩ := hk1a
    refine ev_cal (σc := (d, 118, 0, [some (.inl r5), none, none, none, none, none, none, none], [], (am_sh, am_mm U5))) (fun _ => rfl) hk1ac ?_
    show Ev (am_kz N X) ((d + 1), 223, 103, [some (.inr (.inr 45)), some (.inl x1)], [.inl r6, .inr (.inr 45)], (am_sh, am_mm U6)) R
    refine ev_br (P := r6 = 0) (σ1 := ((d + 1), 223, 110, [some (.inr (.inr 45)), some (.inl x1)], [.inr (.inr 45)], (am_sh, am_mm U6))) (σ2 := ((d + 1), 223, 106, [some (.inr (.inr 45)), some (.inl x1)], [.inr (.inr 45)], (am_sh, am_mm U6))) 1 (fun _ => rfl) (fun hc => ?_) (fun hc => ?_)
    · have hk1aa1 := hk1aa.1 hc
      refine ev_seg (σ1 := ((d + 1), 223, 111, [some (.inr (.inr 45)), some (.inl x1)], [.inl 0, .inr (.inr 45)], (am_sh, am_mm U6))) 1 (fun _ => rfl) ?_
      obtain ⟨U7, hk1aa1c, hk1aa1a⟩ := hk1aa1
      refine ev_cal (σc := (d, 219, 0, [some (.inr (.inr 45)), some (.inl 0)], [], (am_sh, am_mm U6))) (fun _ => rfl) hk1aa1c ?_
      show Ev (am_kz N X) ((d + 1), 223, 114, [some (.inr (.inr 45)), some (.inl x1)], [], (am_sh, am_mm U7)) R
      subst hk1aa1a
      exact ev_end 2 (fun _ => rfl)
    · have hk1aa2 := hk1aa.2 hc
      refine ev_seg (σ1 := ((d + 1), 223, 111, [some (.inr (.inr 45)), some (.inl x1)], [.inl 1, .inr (.inr 45)], (am_sh, am_mm U6))) 2 (fun _ => rfl) ?_
      obtain ⟨U8, hk1aa2c, hk1aa2a⟩ := hk1aa2
      refine ev_cal (σc := (d, 219, 0, [some (.inr (.inr 45)), some (.inl 1)], [], (am_sh, am_mm U6))) (fun _ => rfl) hk1aa2c ?_
      show Ev (am_kz N X) ((d + 1), 223, 114, [some (.inr (.inr 45)), some (.inl x1)], [], (am_sh, am_mm U8)) R
      subst hk1aa2a
      exact ev_end 2 (fun _ => rfl)
  have nh1 := hc
  clear hc
  by_cases hc : x1 = 19
  · have hk2 := h.2.2.1 hc
    refine ev_sw (off := 116) rfl (by rw [hc]; rfl) (pt := 117) rfl ?_
    refine ev_seg (σ1 := ((d + 1), 223, 119, [some (.inr (.inr 45)), some (.inl x1)], [.inr (.inr 45), .inr (.inr 45)], (am_sh, am_mm U))) 2 (fun _ => rfl) ?_
    obtain ⟨r9, U9, hk2c, hk2a⟩ := hk2
    refine ev_cal (σc := (d, 220, 0, [some (.inr (.inr 45))], [], (am_sh, am_mm U))) (fun _ => rfl) hk2c ?_
    show Ev (am_kz N X) ((d + 1), 223, 122, [some (.inr (.inr 45)), some (.inl x1)], [.inl r9, .inr (.inr 45)], (am_sh, am_mm U9)) R
    refine ev_seg (σ1 := ((d + 1), 223, 123, [some (.inr (.inr 45)), some (.inl x1)], [.inr (.inr 45), .inl r9, .inr (.inr 45)], (am_sh, am_mm U9))) 1 (fun _ => rfl) ?_
    obtain ⟨r10, U10, hk2ac, hk2aa⟩ := hk2a
    refine ev_cal (σc := (d, 220, 0, [some (.inr (.inr 45))], [], (am_sh, am_mm U9))) (fun _ => rfl) hk2ac ?_
    show Ev (am_kz N X) ((d + 1), 223, 126, [some (.inr (.inr 45)), some (.inl x1)], [.inl r10, .inl r9, .inr (.inr 45)], (am_sh, am_mm U10)) R
    refine ev_seg (σ1 := ((d + 1), 223, 129, [some (.inr (.inr 45)), some (.inl x1)], [.inl (if r9 < r10 then r10 else r9), .inr (.inr 45)], (am_sh, am_mm U10))) 1 (fun _ => rfl) ?_
    obtain ⟨U11, hk2aac, hk2aaa⟩ := hk2aa
    refine ev_cal (σc := (d, 219, 0, [some (.inr (.inr 45)), some (.inl (if r9 < r10 then r10 else r9))], [], (am_sh, am_mm U10))) (fun _ => rfl) hk2aac ?_
    show Ev (am_kz N X) ((d + 1), 223, 132, [some (.inr (.inr 45)), some (.inl x1)], [], (am_sh, am_mm U11)) R
    subst hk2aaa
    exact ev_end 2 (fun _ => rfl)
  have nh2 := hc
  clear hc
  by_cases hc : x1 = 20
  · have hk3 := h.2.2.2.1 hc
    refine ev_sw (off := 134) rfl (by rw [hc]; rfl) (pt := 135) rfl ?_
    refine ev_seg (σ1 := ((d + 1), 223, 137, [some (.inr (.inr 45)), some (.inl x1)], [.inr (.inr 45), .inr (.inr 45)], (am_sh, am_mm U))) 2 (fun _ => rfl) ?_
    obtain ⟨r12, U12, hk3c, hk3a⟩ := hk3
    refine ev_cal (σc := (d, 220, 0, [some (.inr (.inr 45))], [], (am_sh, am_mm U))) (fun _ => rfl) hk3c ?_
    show Ev (am_kz N X) ((d + 1), 223, 140, [some (.inr (.inr 45)), some (.inl x1)], [.inl r12, .inr (.inr 45)], (am_sh, am_mm U12)) R
    refine ev_seg (σ1 := ((d + 1), 223, 141, [some (.inr (.inr 45)), some (.inl x1)], [.inr (.inr 45), .inl r12, .inr (.inr 45)], (am_sh, am_mm U12))) 1 (fun _ => rfl) ?_
    obtain ⟨r13, U13, hk3ac, hk3aa⟩ := hk3a
    refine ev_cal (σc := (d, 220, 0, [some (.inr (.inr 45))], [], (am_sh, am_mm U12))) (fun _ => rfl) hk3ac ?_
    show Ev (am_kz N X) ((d + 1), 223, 144, [some (.inr (.inr 45)), some (.inl x1)], [.inl r13, .inl r12, .inr (.inr 45)], (am_sh, am_mm U13)) R
    refine ev_seg (σ1 := ((d + 1), 223, 147, [some (.inr (.inr 45)), some (.inl x1)], [.inl (if r13 < r12 then r13 else r12), .inr (.inr 45)], (am_sh, am_mm U13))) 1 (fun _ => rfl) ?_
    obtain ⟨U14, hk3aac, hk3aaa⟩ := hk3aa
    refine ev_cal (σc := (d, 219, 0, [some (.inr (.inr 45)), some (.inl (if r13 < r12 then r13 else r12))], [], (am_sh, am_mm U13))) (fun _ => rfl) hk3aac ?_
    show Ev (am_kz N X) ((d + 1), 223, 150, [some (.inr (.inr 45)), some (.inl x1)], [], (am_sh, am_mm U14)) R
    subst hk3aaa
    exact ev_end 2 (fun _ => rfl)
  have nh3 := hc
  clear hc
  by_cases hc : x1 = 21
  · have hk4 := h.2.2.2.2.1 hc
    refine ev_sw (off := 59) rfl (by rw [hc]; rfl) (pt := 60) rfl ?_
    refine ev_seg (σ1 := ((d + 1), 223, 63, [some (.inr (.inr 45)), some (.inl x1)], [.inr (.inr 45), .inl 1, .inr (.inr 45)], (am_sh, am_mm U))) 3 (fun _ => rfl) ?_
    obtain ⟨r15, U15, hk4c, hk4a⟩ := hk4
    refine ev_cal (σc := (d, 220, 0, [some (.inr (.inr 45))], [], (am_sh, am_mm U))) (fun _ => rfl) hk4c ?_
    show Ev (am_kz N X) ((d + 1), 223, 66, [some (.inr (.inr 45)), some (.inl x1)], [.inl r15, .inl 1, .inr (.inr 45)], (am_sh, am_mm U15)) R
    refine ev_seg (σ1 := ((d + 1), 223, 67, [some (.inr (.inr 45)), some (.inl x1)], [.inl (w32 (1 - r15)), .inr (.inr 45)], (am_sh, am_mm U15))) 1 (fun _ => rfl) ?_
    obtain ⟨U16, hk4ac, hk4aa⟩ := hk4a
    refine ev_cal (σc := (d, 219, 0, [some (.inr (.inr 45)), some (.inl (w32 (1 - r15)))], [], (am_sh, am_mm U15))) (fun _ => rfl) hk4ac ?_
    show Ev (am_kz N X) ((d + 1), 223, 70, [some (.inr (.inr 45)), some (.inl x1)], [], (am_sh, am_mm U16)) R
    subst hk4aa
    exact ev_end 2 (fun _ => rfl)
  have nh4 := hc
  clear hc
  by_cases hc : x1 = 22
  · have hk5 := h.2.2.2.2.2.1 hc
    refine ev_sw (off := 51) rfl (by rw [hc]; rfl) (pt := 52) rfl ?_
    refine ev_seg (σ1 := ((d + 1), 223, 54, [some (.inr (.inr 45)), some (.inl x1)], [.inl 1, .inr (.inr 45)], (am_sh, am_mm U))) 2 (fun _ => rfl) ?_
    obtain ⟨U17, hk5c, hk5a⟩ := hk5
    refine ev_cal (σc := (d, 219, 0, [some (.inr (.inr 45)), some (.inl 1)], [], (am_sh, am_mm U))) (fun _ => rfl) hk5c ?_
    show Ev (am_kz N X) ((d + 1), 223, 57, [some (.inr (.inr 45)), some (.inl x1)], [], (am_sh, am_mm U17)) R
    subst hk5a
    exact ev_end 2 (fun _ => rfl)
  have nh5 := hc
  clear hc
  by_cases hc : x1 = 23
  · have hk6 := h.2.2.2.2.2.2.1 hc
    refine ev_sw (off := 134) rfl (by rw [hc]; rfl) (pt := 135) rfl ?_
    refine ev_seg (σ1 := ((d + 1), 223, 137, [some (.inr (.inr 45)), some (.inl x1)], [.inr (.inr 45), .inr (.inr 45)], (am_sh, am_mm U))) 2 (fun _ => rfl) ?_
    obtain ⟨r18, U18, hk6c, hk6a⟩ := hk6
    refine ev_cal (σc := (d, 220, 0, [some (.inr (.inr 45))], [], (am_sh, am_mm U))) (fun _ => rfl) hk6c ?_
    show Ev (am_kz N X) ((d + 1), 223, 140, [some (.inr (.inr 45)), some (.inl x1)], [.inl r18, .inr (.inr 45)], (am_sh, am_mm U18)) R
    refine ev_seg (σ1 := ((d + 1), 223, 141, [some (.inr (.inr 45)), some (.inl x1)], [.inr (.inr 45), .inl r18, .inr (.inr 45)], (am_sh, am_mm U18))) 1 (fun _ => rfl) ?_
    obtain ⟨r19, U19, hk6ac, hk6aa⟩ := hk6a
    refine ev_cal (σc := (d, 220, 0, [some (.inr (.inr 45))], [], (am_sh, am_mm U18))) (fun _ => rfl) hk6ac ?_
    show Ev (am_kz N X) ((d + 1), 223, 144, [some (.inr (.inr 45)), some (.inl x1)], [.inl r19, .inl r18, .inr (.inr 45)], (am_sh, am_mm U19)) R
    refine ev_seg (σ1 := ((d + 1), 223, 147, [some (.inr (.inr 45)), some (.inl x1)], [.inl (if r19 < r18 then r19 else r18), .inr (.inr 45)], (am_sh, am_mm U19))) 1 (fun _ => rfl) ?_
    obtain ⟨U20, hk6aac, hk6aaa⟩ := hk6aa
    refine ev_cal (σc := (d, 219, 0, [some (.inr (.inr 45)), some (.inl (if r19 < r18 then r19 else r18))], [], (am_sh, am_mm U19))) (fun _ => rfl) hk6aac ?_
    show Ev (am_kz N X) ((d + 1), 223, 150, [some (.inr (.inr 45)), some (.inl x1)], [], (am_sh, am_mm U20)) R
    subst hk6aaa
    exact ev_end 2 (fun _ => rfl)
  have nh6 := hc
  clear hc
  by_cases hc : x1 = 24
  · have hk7 := h.2.2.2.2.2.2.2.1 hc
    refine ev_sw (off := 116) rfl (by rw [hc]; rfl) (pt := 117) rfl ?_
    refine ev_seg (σ1 := ((d + 1), 223, 119, [some (.inr (.inr 45)), some (.inl x1)], [.inr (.inr 45), .inr (.inr 45)], (am_sh, am_mm U))) 2 (fun _ => rfl) ?_
    obtain ⟨r21, U21, hk7c, hk7a⟩ := hk7
    refine ev_cal (σc := (d, 220, 0, [some (.inr (.inr 45))], [], (am_sh, am_mm U))) (fun _ => rfl) hk7c ?_
    show Ev (am_kz N X) ((d + 1), 223, 122, [some (.inr (.inr 45)), some (.inl x1)], [.inl r21, .inr (.inr 45)], (am_sh, am_mm U21)) R
    refine ev_seg (σ1 := ((d + 1), 223, 123, [some (.inr (.inr 45)), some (.inl x1)], [.inr (.inr 45), .inl r21, .inr (.inr 45)], (am_sh, am_mm U21))) 1 (fun _ => rfl) ?_
    obtain ⟨r22, U22, hk7ac, hk7aa⟩ := hk7a
    refine ev_cal (σc := (d, 220, 0, [some (.inr (.inr 45))], [], (am_sh, am_mm U21))) (fun _ => rfl) hk7ac ?_
    show Ev (am_kz N X) ((d + 1), 223, 126, [some (.inr (.inr 45)), some (.inl x1)], [.inl r22, .inl r21, .inr (.inr 45)], (am_sh, am_mm U22)) R
    refine ev_seg (σ1 := ((d + 1), 223, 129, [some (.inr (.inr 45)), some (.inl x1)], [.inl (if r21 < r22 then r22 else r21), .inr (.inr 45)], (am_sh, am_mm U22))) 1 (fun _ => rfl) ?_
    obtain ⟨U23, hk7aac, hk7aaa⟩ := hk7aa
    refine ev_cal (σc := (d, 219, 0, [some (.inr (.inr 45)), some (.inl (if r21 < r22 then r22 else r21))], [], (am_sh, am_mm U22))) (fun _ => rfl) hk7aac ?_
    show Ev (am_kz N X) ((d + 1), 223, 132, [some (.inr (.inr 45)), some (.inl x1)], [], (am_sh, am_mm U23)) R
    subst hk7aaa
    exact ev_end 2 (fun _ => rfl)
  have nh7 := hc
  clear hc
  by_cases hc : x1 = 25
  · have hk8 := h.2.2.2.2.2.2.2.2.1 hc
    refine ev_sw (off := 152) rfl (by rw [hc]; rfl) (pt := 153) rfl ?_
    refine ev_seg (σ1 := ((d + 1), 223, 155, [some (.inr (.inr 45)), some (.inl x1)], [.inr (.inr 45), .inr (.inr 45)], (am_sh, am_mm U))) 2 (fun _ => rfl) ?_
    obtain ⟨r24, U24, hk8c, hk8a⟩ := hk8
    refine ev_cal (σc := (d, 220, 0, [some (.inr (.inr 45))], [], (am_sh, am_mm U))) (fun _ => rfl) hk8c ?_
    show Ev (am_kz N X) ((d + 1), 223, 158, [some (.inr (.inr 45)), some (.inl x1)], [.inl r24, .inr (.inr 45)], (am_sh, am_mm U24)) R
    refine ev_seg (σ1 := ((d + 1), 223, 159, [some (.inr (.inr 45)), some (.inl x1)], [.inr (.inr 45), .inl r24, .inr (.inr 45)], (am_sh, am_mm U24))) 1 (fun _ => rfl) ?_
    obtain ⟨r25, U25, hk8ac, hk8aa⟩ := hk8a
    refine ev_cal (σc := (d, 220, 0, [some (.inr (.inr 45))], [], (am_sh, am_mm U24))) (fun _ => rfl) hk8ac ?_
    show Ev (am_kz N X) ((d + 1), 223, 162, [some (.inr (.inr 45)), some (.inl x1)], [.inl r25, .inl r24, .inr (.inr 45)], (am_sh, am_mm U25)) R
    obtain ⟨r26, U26, hk8aac, hk8aaa⟩ := hk8aa
    refine ev_cal (σc := (d, 153, 0, [some (.inl r24), some (.inl r25), none, none, none, none], [], (am_sh, am_mm U25))) (fun _ => rfl) hk8aac ?_
    show Ev (am_kz N X) ((d + 1), 223, 165, [some (.inr (.inr 45)), some (.inl x1)], [.inl r26, .inr (.inr 45)], (am_sh, am_mm U26)) R
    obtain ⟨U27, hk8aaac, hk8aaaa⟩ := hk8aaa
    refine ev_cal (σc := (d, 219, 0, [some (.inr (.inr 45)), some (.inl r26)], [], (am_sh, am_mm U26))) (fun _ => rfl) hk8aaac ?_
    show Ev (am_kz N X) ((d + 1), 223, 168, [some (.inr (.inr 45)), some (.inl x1)], [], (am_sh, am_mm U27)) R
    subst hk8aaaa
    exact ev_end 2 (fun _ => rfl)
  have nh8 := hc
  clear hc
  have hkd := h.2.2.2.2.2.2.2.2.2 ⟨nh0, nh1, nh2, nh3, nh4, nh5, nh6, nh7, nh8⟩
  refine ev_sw (off := 170) rfl (if_pos (by omega)) (pt := 171) rfl ?_
  subst hkd
  exact ev_end 1 (fun _ => rfl)
set_option maxRecDepth 8000 in
theorem st224_86_0 (N : Nat) (X : Nat → Int) (d : Nat) (x1 x2 : Int) (U : Nat → Nat → Int) (R : Option am_V × am_M) (h : Ev (am_kz N X) ((d + 1), 224, 14, [some (.inr (.inr 86)), some (.inl x1), some (.inl x2), some (.inl 0), some (.inl (w32 ((w32 (1600 * (U 86 13))) + x1))), none], [], (am_sh, am_mm U)) R) : Ev (am_kz N X) ((d + 1), 224, 0, [some (.inr (.inr 86)), some (.inl x1), some (.inl x2), none, none, none], [], (am_sh, am_mm U)) R := by
  refine ev_seg (σ1 := ((d + 1), 224, 14, [some (.inr (.inr 86)), some (.inl x1), some (.inl x2), some (.inl 0), some (.inl (w32 ((w32 (1600 * (U 86 13))) + x1))), none], [], (am_sh, am_mm U))) 9 (fun _ => rfl) ?_
  exact h
set_option maxRecDepth 8000 in
theorem st224_86_14 (N : Nat) (X : Nat → Int) (d : Nat) (x1 x2 x3 x4 : Int) (U : Nat → Nat → Int) (R : Option am_V × am_M) (h : ((((w32 ((w32 (1600 * (U 86 13))) + x2)) ≤ x4 : Prop)) → (((¬ (am_lcmp (U 125 0) 1) = 0 : Prop)) → R = (some (.inl 0), (am_sh, am_mm U))) ∧ (¬ (¬ (am_lcmp (U 125 0) 1) = 0) → R = (some (.inl 1), (am_sh, am_mm U)))) ∧ (¬ ((w32 ((w32 (1600 * (U 86 13))) + x2)) ≤ x4) → (0 ≤ x4 ∧ x4 < 3200) ∧ (((9 < (U 111 x4.toNat) : Prop)) → (((¬ (U 111 x4.toNat) = 22 : Prop)) → (((¬ (U 111 x4.toNat) = 24 : Prop)) → (((¬ (U 111 x4.toNat) = 25 : Prop)) → (0 ≤ (w32 ((w32 (x3 + (-1))) - 1)) ∧ (w32 ((w32 (x3 + (-1))) - 1)) < 500) ∧ (0 ≤ (w32 (x3 + (-1))) ∧ (w32 (x3 + (-1))) < 500) ∧ ∃ (r1 : Int) (U1 : Nat → Nat → Int), Ev (am_kz N X) (d, 279, 0, [some (.inl (U 111 x4.toNat)), some (.inr (.inl (U 125 (w32 ((w32 (x3 + (-1))) - 1)).toNat))), none, some (.inr (.inl (U 125 (w32 (x3 + (-1))).toNat))), none], [], (am_sh, am_mm U)) (some (.inr (.inl r1)), (am_sh, am_mm U1)) ∧ (0 ≤ (w32 ((w32 (x3 + (-1))) - 1)) ∧ (w32 ((w32 (x3 + (-1))) - 1)) < 500) ∧ Ev (am_kz N X) ((d + 1), 224, 14, [some (.inr (.inr 86)), some (.inl x1), some (.inl x2), some (.inl (w32 (x3 + (-1)))), some (.inl (w32 (x4 + 1))), some (.inl (U 111 x4.toNat))], [], (am_sh, am_mm (am_upd U1 125 (w32 ((w32 (x3 + (-1))) - 1)).toNat r1))) R) ∧ (¬ (¬ (U 111 x4.toNat) = 25) → (0 ≤ (w32 (x3 - 1)) ∧ (w32 (x3 - 1)) < 500) ∧ ∃ (r2 : Int) (U2 : Nat → Nat → Int), Ev (am_kz N X) (d, 122, 0, [some (.inr (.inl (U 125 (w32 (x3 - 1)).toNat))), none], [], (am_sh, am_mm U)) (some (.inl r2), (am_sh, am_mm U2)) ∧ (((r2 = 0 : Prop)) → (0 ≤ (w32 (x3 - 1)) ∧ (w32 (x3 - 1)) < 500) ∧ Ev (am_kz N X) ((d + 1), 224, 14, [some (.inr (.inr 86)), some (.inl x1), some (.inl x2), some (.inl x3), some (.inl (w32 (x4 + 1))), some (.inl (U 111 x4.toNat))], [], (am_sh, am_mm (am_upd U2 125 (w32 (x3 - 1)).toNat 0))) R) ∧ (¬ (r2 = 0) → (0 ≤ (w32 (x3 - 1)) ∧ (w32 (x3 - 1)) < 500) ∧ Ev (am_kz N X) ((d + 1), 224, 14, [some (.inr (.inr 86)), some (.inl x1), some (.inl x2), some (.inl x3), some (.inl (w32 (x4 + 1))), some (.inl (U 111 x4.toNat))], [], (am_sh, am_mm (am_upd U2 125 (w32 (x3 - 1)).toNat 1))) R))) ∧ (¬ (¬ (U 111 x4.toNat) = 24) → (0 ≤ (w32 (x3 - 1)) ∧ (w32 (x3 - 1)) < 500) ∧ ∃ (r3 : Int) (U3 : Nat → Nat → Int), Ev (am_kz N X) (d, 278, 0, [some (.inr (.inl (U 125 (w32 (x3 - 1)).toNat))), none, none, none, none, none, none, none], [], (am_sh, am_mm U)) (some (.inl r3), (am_sh, am_mm U3)) ∧ (((r3 = 0 : Prop)) → (0 ≤ (w32 (x3 - 1)) ∧ (w32 (x3 - 1)) < 500) ∧ Ev (am_kz N X) ((d + 1), 224, 14, [some (.inr (.inr 86)), some (.inl x1), some (.inl x2), some (.inl x3), some (.inl (w32 (x4 + 1))), some (.inl (U 111 x4.toNat))], [], (am_sh, am_mm (am_upd U3 125 (w32 (x3 - 1)).toNat 0))) R) ∧ (¬ (r3 = 0) → (0 ≤ (w32 (x3 - 1)) ∧ (w32 (x3 - 1)) < 500) ∧ Ev (am_kz N X) ((d + 1), 224, 14, [some (.inr (.inr 86)), some (.inl x1), some (.inl x2), some (.inl x3), some (.inl (w32 (x4 + 1))), some (.inl (U 111 x4.toNat))], [], (am_sh, am_mm (am_upd U3 125 (w32 (x3 - 1)).toNat 1))) R))) ∧ (¬ (¬ (U 111 x4.toNat) = 22) → (0 ≤ (w32 (x3 - 1)) ∧ (w32 (x3 - 1)) < 500) ∧ (0 ≤ (w32 (x3 - 1)) ∧ (w32 (x3 - 1)) < 500) ∧ Ev (am_kz N X) ((d + 1), 224, 14, [some (.inr (.inr 86)), some (.inl x1), some (.inl x2), some (.inl x3), some (.inl (w32 (x4 + 1))), some (.inl (U 111 x4.toNat))], [], (am_sh, am_mm (am_upd U 125 (w32 (x3 - 1)).toNat (w64 (1 - (U 125 (w32 (x3 - 1)).toNat)))))) R)) ∧ (¬ (9 < (U 111 x4.toNat)) → (0 ≤ x4 ∧ x4 < 3200) ∧ ∃ (r4 : Int) (U4 : Nat → Nat → Int), Ev (am_kz N X) (d, 277, 0, [some (.inr (.inr 86)), some (.inl (U 111 x4.toNat)), some (.inl (U 112 x4.toNat)), none], [], (am_sh, am_mm U)) (some (.inr (.inl r4)), (am_sh, am_mm U4)) ∧ (0 ≤ x3 ∧ x3 < 500) ∧ Ev (am_kz N X) ((d + 1), 224, 14, [some (.inr (.inr 86)), some (.inl x1), some (.inl x2), some (.inl (w32 (x3 + 1))), some (.inl (w32 (x4 + 1))), some (.inl (U 111 x4.toNat))], [], (am_sh, am_mm (am_upd U4 125 x3.toNat r4))) R))) : Ev (am_kz N X) ((d + 1), 224, 14, [some (.inr (.inr 86)), some (.inl x1), some (.inl x2), some (.inl x3), some (.inl x4), none], [], (am_sh, am_mm U)) R := by
  refine ev_br (P := (w32 ((w32 (1600 * (U 86 13))) + x2)) ≤ x4) (σ1 := ((d + 1), 224, 208, [some (.inr (.inr 86)), some (.inl x1), some (.inl x2), some (.inl x3), some (.inl x4), none], [], (am_sh, am_mm U))) (σ2 := ((d + 1), 224, 29, [some (.inr (.inr 86)), some (.inl x1), some (.inl x2), some (.inl x3), some (.inl x4), none], [], (am_sh, am_mm U))) 8 (fun _ => rfl) (fun hc => ?_) (fun hc => ?_)
  · have h1 := h.1 hc
    refine ev_seg (σ1 := ((d + 1), 224, 213, [some (.inr (.inr 86)), some (.inl x1), some (.inl x2), some (.inl x3), some (.inl x4), none], [.inl 0, .inr (.inr 125)], (am_sh, am_mm U))) 3 (fun _ => rfl) ?_
    refine eu_lald 125 (n := 500) rfl (by decide) rfl (fun _ => rfl) (by decide) ?_
    show Ev (am_kz N X) ((d + 1), 224, 214, [some (.inr (.inr 86)), some (.inl x1), some (.inl x2), some (.inl x3), some (.inl x4), none], [.inr (.inl (U 125 0))], (am_sh, am_mm U)) R
    refine ev_br (P := ¬ (am_lcmp (U 125 0) 1) = 0) (σ1 := ((d + 1), 224, 223, [some (.inr (.inr 86)), some (.inl x1), some (.inl x2), some (.inl x3), some (.inl x4), none], [], (am_sh, am_mm U))) (σ2 := ((d + 1), 224, 219, [some (.inr (.inr 86)), some (.inl x1), some (.inl x2), some (.inl x3), some (.inl x4), none], [], (am_sh, am_mm U))) 3 (fun _ => rfl) (fun hc => ?_) (fun hc => ?_)
    · have h11 := h1.1 hc
      subst h11
      exact ev_end 2 (fun _ => rfl)
    · have h12 := h1.2 hc
      subst h12
      exact ev_end 3 (fun _ => rfl)
  · have h2 := h.2 hc
    refine ev_seg (σ1 := ((d + 1), 224, 35, [some (.inr (.inr 86)), some (.inl x1), some (.inl x2), some (.inl x3), some (.inl x4), none], [.inl x4, .inr (.inr 111)], (am_sh, am_mm U))) 3 (fun _ => rfl) ?_
    refine eu_iald 111 (n := 3200) rfl (by decide) rfl (fun _ => rfl) h2.1 ?_
    have h2a := h2.2
    refine ev_br (P := 9 < (U 111 x4.toNat)) (σ1 := ((d + 1), 224, 70, [some (.inr (.inr 86)), some (.inl x1), some (.inl x2), some (.inl x3), some (.inl x4), some (.inl (U 111 x4.toNat))], [], (am_sh, am_mm U))) (σ2 := ((d + 1), 224, 45, [some (.inr (.inr 86)), some (.inl x1), some (.inl x2), some (.inl x3), some (.inl x4), some (.inl (U 111 x4.toNat))], [], (am_sh, am_mm U))) 4 (fun _ => rfl) (fun hc => ?_) (fun hc => ?_)
    · have h2a1 := h2a.1 hc
      refine ev_br (P := ¬ (U 111 x4.toNat) = 22) (σ1 := ((d + 1), 224, 98, [some (.inr (.inr 86)), some (.inl x1), some (.inl x2), some (.inl x3), some (.inl x4), some (.inl (U 111 x4.toNat))], [], (am_sh, am_mm U))) (σ2 := ((d + 1), 224, 77, [some (.inr (.inr 86)), some (.inl x1), some (.inl x2), some (.inl x3), some (.inl x4), some (.inl (U 111 x4.toNat))], [], (am_sh, am_mm U))) 3 (fun _ => rfl) (fun hc => ?_) (fun hc => ?_)
      · have h2a11 := h2a1.1 hc
        refine ev_br (P := ¬ (U 111 x4.toNat) = 24) (σ1 := ((d + 1), 224, 135, [some (.inr (.inr 86)), some (.inl x1), some (.inl x2), some (.inl x3), some (.inl x4), some (.inl (U 111 x4.toNat))], [], (am_sh, am_mm U))) (σ2 := ((d + 1), 224, 105, [some (.inr (.inr 86)), some (.inl x1), some (.inl x2), some (.inl x3), some (.inl x4), some (.inl (U 111 x4.toNat))], [], (am_sh, am_mm U))) 3 (fun _ => rfl) (fun hc => ?_) (fun hc => ?_)
        · have h2a111 := h2a11.1 hc
          refine ev_br (P := ¬ (U 111 x4.toNat) = 25) (σ1 := ((d + 1), 224, 172, [some (.inr (.inr 86)), some (.inl x1), some (.inl x2), some (.inl x3), some (.inl x4), some (.inl (U 111 x4.toNat))], [], (am_sh, am_mm U))) (σ2 := ((d + 1), 224, 142, [some (.inr (.inr 86)), some (.inl x1), some (.inl x2), some (.inl x3), some (.inl x4), some (.inl (U 111 x4.toNat))], [], (am_sh, am_mm U))) 3 (fun _ => rfl) (fun hc => ?_) (fun hc => ?_)
          · have h2a1111 := h2a111.1 hc
            refine ev_seg (σ1 := ((d + 1), 224, 191, [some (.inr (.inr 86)), some (.inl x1), some (.inl x2), some (.inl (w32 (x3 + (-1)))), some (.inl x4), some (.inl (U 111 x4.toNat))], [.inl (w32 ((w32 (x3 + (-1))) - 1)), .inr (.inr 125), .inl (U 111 x4.toNat), .inl (w32 ((w32 (x3 + (-1))) - 1)), .inr (.inr 125)], (am_sh, am_mm U))) 12 (fun _ => rfl) ?_
            refine eu_lald 125 (n := 500) rfl (by decide) rfl (fun _ => rfl) h2a1111.1 ?_
            have h2a1111a := h2a1111.2
            refine ev_seg (σ1 := ((d + 1), 224, 197, [some (.inr (.inr 86)), some (.inl x1), some (.inl x2), some (.inl (w32 (x3 + (-1)))), some (.inl x4), some (.inl (U 111 x4.toNat))], [.inl (w32 (x3 + (-1))), .inr (.inr 125), .inr (.inl (U 125 (w32 ((w32 (x3 + (-1))) - 1)).toNat)), .inl (U 111 x4.toNat), .inl (w32 ((w32 (x3 + (-1))) - 1)), .inr (.inr 125)], (am_sh, am_mm U))) 3 (fun _ => rfl) ?_
            refine eu_lald 125 (n := 500) rfl (by decide) rfl (fun _ => rfl) h2a1111a.1 ?_
            have h2a1111aa := h2a1111a.2
            obtain ⟨r1, U1, h2a1111aac, h2a1111aaa⟩ := h2a1111aa
            refine ev_cal (σc := (d, 279, 0, [some (.inl (U 111 x4.toNat)), some (.inr (.inl (U 125 (w32 ((w32 (x3 + (-1))) - 1)).toNat))), none, some (.inr (.inl (U 125 (w32 (x3 + (-1))).toNat))), none], [], (am_sh, am_mm U))) (fun _ => rfl) h2a1111aac ?_
            show Ev (am_kz N X) ((d + 1), 224, 201, [some (.inr (.inr 86)), some (.inl x1), some (.inl x2), some (.inl (w32 (x3 + (-1)))), some (.inl x4), some (.inl (U 111 x4.toNat))], [.inr (.inl r1), .inl (w32 ((w32 (x3 + (-1))) - 1)), .inr (.inr 125)], (am_sh, am_mm U1)) R
            refine eu_last 125 (n := 500) rfl (by decide) rfl (fun _ => rfl) h2a1111aaa.1 ?_
            have h2a1111aaaa := h2a1111aaa.2
            refine ev_seg (σ1 := ((d + 1), 224, 14, [some (.inr (.inr 86)), some (.inl x1), some (.inl x2), some (.inl (w32 (x3 + (-1)))), some (.inl (w32 (x4 + 1))), some (.inl (U 111 x4.toNat))], [], (am_sh, am_mm (am_upd U1 125 (w32 ((w32 (x3 + (-1))) - 1)).toNat r1)))) 2 (fun _ => rfl) ?_
            exact h2a1111aaaa
          · have h2a1112 := h2a111.2 hc
            refine ev_seg (σ1 := ((d + 1), 224, 156, [some (.inr (.inr 86)), some (.inl x1), some (.inl x2), some (.inl x3), some (.inl x4), some (.inl (U 111 x4.toNat))], [.inl (w32 (x3 - 1)), .inr (.inr 125), .inl (w32 (x3 - 1)), .inr (.inr 125)], (am_sh, am_mm U))) 10 (fun _ => rfl) ?_
            refine eu_lald 125 (n := 500) rfl (by decide) rfl (fun _ => rfl) h2a1112.1 ?_
            have h2a1112a := h2a1112.2
            obtain ⟨r2, U2, h2a1112ac, h2a1112aa⟩ := h2a1112a
            refine ev_cal (σc := (d, 122, 0, [some (.inr (.inl (U 125 (w32 (x3 - 1)).toNat))), none], [], (am_sh, am_mm U))) (fun _ => rfl) h2a1112ac ?_
            show Ev (am_kz N X) ((d + 1), 224, 160, [some (.inr (.inr 86)), some (.inl x1), some (.inl x2), some (.inl x3), some (.inl x4), some (.inl (U 111 x4.toNat))], [.inl r2, .inl (w32 (x3 - 1)), .inr (.inr 125)], (am_sh, am_mm U2)) R
            refine ev_br (P := r2 = 0) (σ1 := ((d + 1), 224, 167, [some (.inr (.inr 86)), some (.inl x1), some (.inl x2), some (.inl x3), some (.inl x4), some (.inl (U 111 x4.toNat))], [.inl (w32 (x3 - 1)), .inr (.inr 125)], (am_sh, am_mm U2))) (σ2 := ((d + 1), 224, 163, [some (.inr (.inr 86)), some (.inl x1), some (.inl x2), some (.inl x3), some (.inl x4), some (.inl (U 111 x4.toNat))], [.inl (w32 (x3 - 1)), .inr (.inr 125)], (am_sh, am_mm U2))) 1 (fun _ => rfl) (fun hc => ?_) (fun hc => ?_)
            · have h2a1112aa1 := h2a1112aa.1 hc
              refine ev_seg (σ1 := ((d + 1), 224, 168, [some (.inr (.inr 86)), some (.inl x1), some (.inl x2), some (.inl x3), some (.inl x4), some (.inl (U 111 x4.toNat))], [.inr (.inl 0), .inl (w32 (x3 - 1)), .inr (.inr 125)], (am_sh, am_mm U2))) 1 (fun _ => rfl) ?_
              refine eu_last 125 (n := 500) rfl (by decide) rfl (fun _ => rfl) h2a1112aa1.1 ?_
              have h2a1112aa1a := h2a1112aa1.2
              refine ev_seg (σ1 := ((d + 1), 224, 14, [some (.inr (.inr 86)), some (.inl x1), some (.inl x2), some (.inl x3), some (.inl (w32 (x4 + 1))), some (.inl (U 111 x4.toNat))], [], (am_sh, am_mm (am_upd U2 125 (w32 (x3 - 1)).toNat 0)))) 3 (fun _ => rfl) ?_
              exact h2a1112aa1a
            · have h2a1112aa2 := h2a1112aa.2 hc
              refine ev_seg (σ1 := ((d + 1), 224, 168, [some (.inr (.inr 86)), some (.inl x1), some (.inl x2), some (.inl x3), some (.inl x4), some (.inl (U 111 x4.toNat))], [.inr (.inl 1), .inl (w32 (x3 - 1)), .inr (.inr 125)], (am_sh, am_mm U2))) 2 (fun _ => rfl) ?_
              refine eu_last 125 (n := 500) rfl (by decide) rfl (fun _ => rfl) h2a1112aa2.1 ?_
              have h2a1112aa2a := h2a1112aa2.2
              refine ev_seg (σ1 := ((d + 1), 224, 14, [some (.inr (.inr 86)), some (.inl x1), some (.inl x2), some (.inl x3), some (.inl (w32 (x4 + 1))), some (.inl (U 111 x4.toNat))], [], (am_sh, am_mm (am_upd U2 125 (w32 (x3 - 1)).toNat 1)))) 3 (fun _ => rfl) ?_
              exact h2a1112aa2a
        · have h2a112 := h2a11.2 hc
          refine ev_seg (σ1 := ((d + 1), 224, 119, [some (.inr (.inr 86)), some (.inl x1), some (.inl x2), some (.inl x3), some (.inl x4), some (.inl (U 111 x4.toNat))], [.inl (w32 (x3 - 1)), .inr (.inr 125), .inl (w32 (x3 - 1)), .inr (.inr 125)], (am_sh, am_mm U))) 10 (fun _ => rfl) ?_
          refine eu_lald 125 (n := 500) rfl (by decide) rfl (fun _ => rfl) h2a112.1 ?_
          have h2a112a := h2a112.2
          obtain ⟨r3, U3, h2a112ac, h2a112aa⟩ := h2a112a
          refine ev_cal (σc := (d, 278, 0, [some (.inr (.inl (U 125 (w32 (x3 - 1)).toNat))), none, none, none, none, none, none, none], [], (am_sh, am_mm U))) (fun _ => rfl) h2a112ac ?_
          show Ev (am_kz N X) ((d + 1), 224, 123, [some (.inr (.inr 86)), some (.inl x1), some (.inl x2), some (.inl x3), some (.inl x4), some (.inl (U 111 x4.toNat))], [.inl r3, .inl (w32 (x3 - 1)), .inr (.inr 125)], (am_sh, am_mm U3)) R
          refine ev_br (P := r3 = 0) (σ1 := ((d + 1), 224, 130, [some (.inr (.inr 86)), some (.inl x1), some (.inl x2), some (.inl x3), some (.inl x4), some (.inl (U 111 x4.toNat))], [.inl (w32 (x3 - 1)), .inr (.inr 125)], (am_sh, am_mm U3))) (σ2 := ((d + 1), 224, 126, [some (.inr (.inr 86)), some (.inl x1), some (.inl x2), some (.inl x3), some (.inl x4), some (.inl (U 111 x4.toNat))], [.inl (w32 (x3 - 1)), .inr (.inr 125)], (am_sh, am_mm U3))) 1 (fun _ => rfl) (fun hc => ?_) (fun hc => ?_)
          · have h2a112aa1 := h2a112aa.1 hc
            refine ev_seg (σ1 := ((d + 1), 224, 131, [some (.inr (.inr 86)), some (.inl x1), some (.inl x2), some (.inl x3), some (.inl x4), some (.inl (U 111 x4.toNat))], [.inr (.inl 0), .inl (w32 (x3 - 1)), .inr (.inr 125)], (am_sh, am_mm U3))) 1 (fun _ => rfl) ?_
            refine eu_last 125 (n := 500) rfl (by decide) rfl (fun _ => rfl) h2a112aa1.1 ?_
            have h2a112aa1a := h2a112aa1.2
            refine ev_seg (σ1 := ((d + 1), 224, 14, [some (.inr (.inr 86)), some (.inl x1), some (.inl x2), some (.inl x3), some (.inl (w32 (x4 + 1))), some (.inl (U 111 x4.toNat))], [], (am_sh, am_mm (am_upd U3 125 (w32 (x3 - 1)).toNat 0)))) 3 (fun _ => rfl) ?_
            exact h2a112aa1a
          · have h2a112aa2 := h2a112aa.2 hc
            refine ev_seg (σ1 := ((d + 1), 224, 131, [some (.inr (.inr 86)), some (.inl x1), some (.inl x2), some (.inl x3), some (.inl x4), some (.inl (U 111 x4.toNat))], [.inr (.inl 1), .inl (w32 (x3 - 1)), .inr (.inr 125)], (am_sh, am_mm U3))) 2 (fun _ => rfl) ?_
            refine eu_last 125 (n := 500) rfl (by decide) rfl (fun _ => rfl) h2a112aa2.1 ?_
            have h2a112aa2a := h2a112aa2.2
            refine ev_seg (σ1 := ((d + 1), 224, 14, [some (.inr (.inr 86)), some (.inl x1), some (.inl x2), some (.inl x3), some (.inl (w32 (x4 + 1))), some (.inl (U 111 x4.toNat))], [], (am_sh, am_mm (am_upd U3 125 (w32 (x3 - 1)).toNat 1)))) 3 (fun _ => rfl) ?_
            exact h2a112aa2a
      · have h2a12 := h2a1.2 hc
        refine ev_seg (σ1 := ((d + 1), 224, 92, [some (.inr (.inr 86)), some (.inl x1), some (.inl x2), some (.inl x3), some (.inl x4), some (.inl (U 111 x4.toNat))], [.inl (w32 (x3 - 1)), .inr (.inr 125), .inr (.inl 1), .inl (w32 (x3 - 1)), .inr (.inr 125)], (am_sh, am_mm U))) 11 (fun _ => rfl) ?_
        refine eu_lald 125 (n := 500) rfl (by decide) rfl (fun _ => rfl) h2a12.1 ?_
        have h2a12a := h2a12.2
        refine ev_seg (σ1 := ((d + 1), 224, 94, [some (.inr (.inr 86)), some (.inl x1), some (.inl x2), some (.inl x3), some (.inl x4), some (.inl (U 111 x4.toNat))], [.inr (.inl (w64 (1 - (U 125 (w32 (x3 - 1)).toNat)))), .inl (w32 (x3 - 1)), .inr (.inr 125)], (am_sh, am_mm U))) 1 (fun _ => rfl) ?_
        refine eu_last 125 (n := 500) rfl (by decide) rfl (fun _ => rfl) h2a12a.1 ?_
        have h2a12aa := h2a12a.2
        refine ev_seg (σ1 := ((d + 1), 224, 14, [some (.inr (.inr 86)), some (.inl x1), some (.inl x2), some (.inl x3), some (.inl (w32 (x4 + 1))), some (.inl (U 111 x4.toNat))], [], (am_sh, am_mm (am_upd U 125 (w32 (x3 - 1)).toNat (w64 (1 - (U 125 (w32 (x3 - 1)).toNat))))))) 3 (fun _ => rfl) ?_
        exact h2a12aa
    · have h2a2 := h2a.2 hc
      refine ev_seg (σ1 := ((d + 1), 224, 59, [some (.inr (.inr 86)), some (.inl x1), some (.inl x2), some (.inl x3), some (.inl x4), some (.inl (U 111 x4.toNat))], [.inl x4, .inr (.inr 112), .inl (U 111 x4.toNat), .inr (.inr 86), .inl x3, .inr (.inr 125)], (am_sh, am_mm U))) 8 (fun _ => rfl) ?_
      refine eu_iald 112 (n := 3200) rfl (by decide) rfl (fun _ => rfl) h2a2.1 ?_
      have h2a2a := h2a2.2
      obtain ⟨r4, U4, h2a2ac, h2a2aa⟩ := h2a2a
      refine ev_cal (σc := (d, 277, 0, [some (.inr (.inr 86)), some (.inl (U 111 x4.toNat)), some (.inl (U 112 x4.toNat)), none], [], (am_sh, am_mm U))) (fun _ => rfl) h2a2ac ?_
      show Ev (am_kz N X) ((d + 1), 224, 63, [some (.inr (.inr 86)), some (.inl x1), some (.inl x2), some (.inl x3), some (.inl x4), some (.inl (U 111 x4.toNat))], [.inr (.inl r4), .inl x3, .inr (.inr 125)], (am_sh, am_mm U4)) R
      refine eu_last 125 (n := 500) rfl (by decide) rfl (fun _ => rfl) h2a2aa.1 ?_
      have h2a2aaa := h2a2aa.2
      refine ev_seg (σ1 := ((d + 1), 224, 14, [some (.inr (.inr 86)), some (.inl x1), some (.inl x2), some (.inl (w32 (x3 + 1))), some (.inl (w32 (x4 + 1))), some (.inl (U 111 x4.toNat))], [], (am_sh, am_mm (am_upd U4 125 x3.toNat r4)))) 4 (fun _ => rfl) ?_
      exact h2a2aaa
set_option maxRecDepth 8000 in
theorem st228_1_0 (N : Nat) (X : Nat → Int) (d : Nat) (x1 : Int) (U : Nat → Nat → Int) (R : Option am_V × am_M) (h : (if 1 < x1 then x1 else 1) ≠ 0 ∧ R = (some (.inl (Int.tmod (w32 (Int.tdiv ((am_upd U 1 18 (w32 (am_land (w64 ((w64 (1103515245 * (U 1 18))) + 12345)) 2147483647))) 1 18) 64)) (if 1 < x1 then x1 else 1))), (am_sh, am_mm (am_upd U 1 18 (w32 (am_land (w64 ((w64 (1103515245 * (U 1 18))) + 12345)) 2147483647)))))) : Ev (am_kz N X) ((d + 1), 228, 0, [some (.inr (.inr 1)), some (.inl x1)], [], (am_sh, am_mm U)) R := by
  refine ev_seg (σ1 := ((d + 1), 228, 19, [some (.inr (.inr 1)), some (.inl x1)], [.inl (w32 (am_land (w64 ((w64 (1103515245 * (U 1 18))) + 12345)) 2147483647)), .inr (.inr 1)], (am_sh, am_mm U))) 11 (fun _ => rfl) ?_
  refine eu_puti 1 (n := 19) rfl (by decide) rfl rfl ?_
  refine ev_seg (σ1 := ((d + 1), 228, 28, [some (.inr (.inr 1)), some (.inl x1)], [.inl 64, .inl ((am_upd U 1 18 (w32 (am_land (w64 ((w64 (1103515245 * (U 1 18))) + 12345)) 2147483647))) 1 18)], (am_sh, am_mm (am_upd U 1 18 (w32 (am_land (w64 ((w64 (1103515245 * (U 1 18))) + 12345)) 2147483647)))))) 3 (fun _ => rfl) ?_
  refine ev_idiv rfl (by decide) ?_
  refine ev_seg (σ1 := ((d + 1), 228, 34, [some (.inr (.inr 1)), some (.inl x1)], [.inl (if 1 < x1 then x1 else 1), .inl (w32 (Int.tdiv ((am_upd U 1 18 (w32 (am_land (w64 ((w64 (1103515245 * (U 1 18))) + 12345)) 2147483647))) 1 18) 64))], (am_sh, am_mm (am_upd U 1 18 (w32 (am_land (w64 ((w64 (1103515245 * (U 1 18))) + 12345)) 2147483647)))))) 3 (fun _ => rfl) ?_
  refine ev_irem rfl h.1 ?_
  have ha := h.2
  subst ha
  exact ev_end 1 (fun _ => rfl)
set_option maxRecDepth 8000 in
theorem st227_1_0 (N : Nat) (X : Nat → Int) (d : Nat) (U : Nat → Nat → Int) (R : Option am_V × am_M) (h : ∃ (r1 : Int) (U1 : Nat → Nat → Int), Ev (am_kz N X) (d, 228, 0, [some (.inr (.inr 1)), some (.inl (U 3 1))], [], (am_sh, am_mm U)) (some (.inl r1), (am_sh, am_mm U1)) ∧ ∃ (r2 : Int) (U2 : Nat → Nat → Int), Ev (am_kz N X) (d, 102, 0, [some (.inr (.inr 1)), some (.inl r1)], [], (am_sh, am_mm U1)) (some (.inl r2), (am_sh, am_mm U2)) ∧ (((¬ r2 = 0 : Prop)) → (0 ≤ r1 ∧ r1 < 12) ∧ ∃ (r3 : Int) (U3 : Nat → Nat → Int), Ev (am_kz N X) (d, 107, 0, [some (.inl (U2 19 r1.toNat)), some (.inl 0), none, none], [], (am_sh, am_mm U2)) (some (.inl r3), (am_sh, am_mm U3)) ∧ (0 ≤ r1 ∧ r1 < 12) ∧ ∃ (r4 : Int) (U4 : Nat → Nat → Int), Ev (am_kz N X) (d, 107, 0, [some (.inl (U3 19 r1.toNat)), some (.inl 1), none, none], [], (am_sh, am_mm U3)) (some (.inl r4), (am_sh, am_mm U4)) ∧ ∃ (r5 : Int) (U5 : Nat → Nat → Int), Ev (am_kz N X) (d, 114, 0, [some (.inr (.inr 1)), some (.inl r3)], [], (am_sh, am_mm U4)) (some (.inl r5), (am_sh, am_mm U5)) ∧ (((r5 = 0 : Prop)) → R = (some (.inl 0), (am_sh, am_mm U5))) ∧ (¬ (r5 = 0) → ∃ (r6 : Int) (U6 : Nat → Nat → Int), Ev (am_kz N X) (d, 114, 0, [some (.inr (.inr 1)), some (.inl r4)], [], (am_sh, am_mm U5)) (some (.inl r6), (am_sh, am_mm U6)) ∧ (((r6 = 0 : Prop)) → R = (some (.inl 0), (am_sh, am_mm U6))) ∧ (¬ (r6 = 0) → ∃ (r7 : Int) (U7 : Nat → Nat → Int), Ev (am_kz N X) (d, 106, 0, [some (.inr (.inr 16)), some (.inl r1)], [], (am_sh, am_mm U6)) (some (.inl r7), (am_sh, am_mm U7)) ∧ (0 ≤ r1 ∧ r1 < 12) ∧ (((r7 < (U7 8 r1.toNat) : Prop)) → (0 ≤ r3 ∧ r3 < 16) ∧ (0 ≤ r4 ∧ r4 < 16) ∧ ∃ (r8 : Int) (U8 : Nat → Nat → Int), Ev (am_kz N X) (d, 229, 0, [some (.inr (.inr 1)), some (.inl (if 0 ≤ (w32 ((U7 17 r3.toNat) - (U7 17 r4.toNat))) then (w32 ((U7 17 r3.toNat) - (U7 17 r4.toNat))) else w32 (-(w32 ((U7 17 r3.toNat) - (U7 17 r4.toNat)))))), some (.inl r1)], [], (am_sh, am_mm U7)) (some (.inl r8), (am_sh, am_mm U8)) ∧ R = (some (.inl r8), (am_sh, am_mm U8))) ∧ (¬ (r7 < (U7 8 r1.toNat)) → R = (some (.inl 0), (am_sh, am_mm U7)))))) ∧ (¬ (¬ r2 = 0) → R = (some (.inl 0), (am_sh, am_mm U2)))) : Ev (am_kz N X) ((d + 1), 227, 0, [some (.inr (.inr 1)), none, none, none], [], (am_sh, am_mm U)) R := by
  refine ev_seg (σ1 := ((d + 1), 227, 8, [some (.inr (.inr 1)), none, none, none], [.inl (U 3 1), .inr (.inr 1)], (am_sh, am_mm U))) 4 (fun _ => rfl) ?_
  obtain ⟨r1, U1, hc, ha⟩ := h
  refine ev_cal (σc := (d, 228, 0, [some (.inr (.inr 1)), some (.inl (U 3 1))], [], (am_sh, am_mm U))) (fun _ => rfl) hc ?_
  show Ev (am_kz N X) ((d + 1), 227, 11, [some (.inr (.inr 1)), none, none, none], [.inl r1], (am_sh, am_mm U1)) R
  refine ev_seg (σ1 := ((d + 1), 227, 14, [some (.inr (.inr 1)), some (.inl r1), none, none], [.inl r1, .inr (.inr 1)], (am_sh, am_mm U1))) 3 (fun _ => rfl) ?_
  obtain ⟨r2, U2, hac, haa⟩ := ha
  refine ev_cal (σc := (d, 102, 0, [some (.inr (.inr 1)), some (.inl r1)], [], (am_sh, am_mm U1))) (fun _ => rfl) hac ?_
  show Ev (am_kz N X) ((d + 1), 227, 17, [some (.inr (.inr 1)), some (.inl r1), none, none], [.inl r2], (am_sh, am_mm U2)) R
  refine ev_br (P := ¬ r2 = 0) (σ1 := ((d + 1), 227, 22, [some (.inr (.inr 1)), some (.inl r1), none, none], [], (am_sh, am_mm U2))) (σ2 := ((d + 1), 227, 20, [some (.inr (.inr 1)), some (.inl r1), none, none], [], (am_sh, am_mm U2))) 1 (fun _ => rfl) (fun hc => ?_) (fun hc => ?_)
  · have haa1 := haa.1 hc
    refine ev_seg (σ1 := ((d + 1), 227, 30, [some (.inr (.inr 1)), some (.inl r1), none, none], [.inl r1, .inr (.inr 19)], (am_sh, am_mm U2))) 4 (fun _ => rfl) ?_
    refine eu_iald 19 (n := 12) rfl (by decide) rfl (fun _ => rfl) haa1.1 ?_
    have haa1a := haa1.2
    refine ev_seg (σ1 := ((d + 1), 227, 32, [some (.inr (.inr 1)), some (.inl r1), none, none], [.inl 0, .inl (U2 19 r1.toNat)], (am_sh, am_mm U2))) 1 (fun _ => rfl) ?_
    obtain ⟨r3, U3, haa1ac, haa1aa⟩ := haa1a
    refine ev_cal (σc := (d, 107, 0, [some (.inl (U2 19 r1.toNat)), some (.inl 0), none, none], [], (am_sh, am_mm U2))) (fun _ => rfl) haa1ac ?_
    show Ev (am_kz N X) ((d + 1), 227, 35, [some (.inr (.inr 1)), some (.inl r1), none, none], [.inl r3], (am_sh, am_mm U3)) R
    refine ev_seg (σ1 := ((d + 1), 227, 44, [some (.inr (.inr 1)), some (.inl r1), some (.inl r3), none], [.inl r1, .inr (.inr 19)], (am_sh, am_mm U3))) 5 (fun _ => rfl) ?_
    refine eu_iald 19 (n := 12) rfl (by decide) rfl (fun _ => rfl) haa1aa.1 ?_
    have haa1aaa := haa1aa.2
    refine ev_seg (σ1 := ((d + 1), 227, 46, [some (.inr (.inr 1)), some (.inl r1), some (.inl r3), none], [.inl 1, .inl (U3 19 r1.toNat)], (am_sh, am_mm U3))) 1 (fun _ => rfl) ?_
    obtain ⟨r4, U4, haa1aaac, haa1aaaa⟩ := haa1aaa
    refine ev_cal (σc := (d, 107, 0, [some (.inl (U3 19 r1.toNat)), some (.inl 1), none, none], [], (am_sh, am_mm U3))) (fun _ => rfl) haa1aaac ?_
    show Ev (am_kz N X) ((d + 1), 227, 49, [some (.inr (.inr 1)), some (.inl r1), some (.inl r3), none], [.inl r4], (am_sh, am_mm U4)) R
    refine ev_seg (σ1 := ((d + 1), 227, 52, [some (.inr (.inr 1)), some (.inl r1), some (.inl r3), some (.inl r4)], [.inl r3, .inr (.inr 1)], (am_sh, am_mm U4))) 3 (fun _ => rfl) ?_
    obtain ⟨r5, U5, haa1aaaac, haa1aaaaa⟩ := haa1aaaa
    refine ev_cal (σc := (d, 114, 0, [some (.inr (.inr 1)), some (.inl r3)], [], (am_sh, am_mm U4))) (fun _ => rfl) haa1aaaac ?_
    show Ev (am_kz N X) ((d + 1), 227, 55, [some (.inr (.inr 1)), some (.inl r1), some (.inl r3), some (.inl r4)], [.inl r5], (am_sh, am_mm U5)) R
    refine ev_br (P := r5 = 0) (σ1 := ((d + 1), 227, 86, [some (.inr (.inr 1)), some (.inl r1), some (.inl r3), some (.inl r4)], [], (am_sh, am_mm U5))) (σ2 := ((d + 1), 227, 58, [some (.inr (.inr 1)), some (.inl r1), some (.inl r3), some (.inl r4)], [], (am_sh, am_mm U5))) 1 (fun _ => rfl) (fun hc => ?_) (fun hc => ?_)
    · have haa1aaaaa1 := haa1aaaaa.1 hc
      subst haa1aaaaa1
      exact ev_end 2 (fun _ => rfl)
    · have haa1aaaaa2 := haa1aaaaa.2 hc
      refine ev_seg (σ1 := ((d + 1), 227, 60, [some (.inr (.inr 1)), some (.inl r1), some (.inl r3), some (.inl r4)], [.inl r4, .inr (.inr 1)], (am_sh, am_mm U5))) 2 (fun _ => rfl) ?_
      obtain ⟨r6, U6, haa1aaaaa2c, haa1aaaaa2a⟩ := haa1aaaaa2
      refine ev_cal (σc := (d, 114, 0, [some (.inr (.inr 1)), some (.inl r4)], [], (am_sh, am_mm U5))) (fun _ => rfl) haa1aaaaa2c ?_
      show Ev (am_kz N X) ((d + 1), 227, 63, [some (.inr (.inr 1)), some (.inl r1), some (.inl r3), some (.inl r4)], [.inl r6], (am_sh, am_mm U6)) R
      refine ev_br (P := r6 = 0) (σ1 := ((d + 1), 227, 86, [some (.inr (.inr 1)), some (.inl r1), some (.inl r3), some (.inl r4)], [], (am_sh, am_mm U6))) (σ2 := ((d + 1), 227, 66, [some (.inr (.inr 1)), some (.inl r1), some (.inl r3), some (.inl r4)], [], (am_sh, am_mm U6))) 1 (fun _ => rfl) (fun hc => ?_) (fun hc => ?_)
      · have haa1aaaaa2a1 := haa1aaaaa2a.1 hc
        subst haa1aaaaa2a1
        exact ev_end 2 (fun _ => rfl)
      · have haa1aaaaa2a2 := haa1aaaaa2a.2 hc
        refine ev_seg (σ1 := ((d + 1), 227, 71, [some (.inr (.inr 1)), some (.inl r1), some (.inl r3), some (.inl r4)], [.inl r1, .inr (.inr 16)], (am_sh, am_mm U6))) 3 (fun _ => rfl) ?_
        obtain ⟨r7, U7, haa1aaaaa2a2c, haa1aaaaa2a2a⟩ := haa1aaaaa2a2
        refine ev_cal (σc := (d, 106, 0, [some (.inr (.inr 16)), some (.inl r1)], [], (am_sh, am_mm U6))) (fun _ => rfl) haa1aaaaa2a2c ?_
        show Ev (am_kz N X) ((d + 1), 227, 74, [some (.inr (.inr 1)), some (.inl r1), some (.inl r3), some (.inl r4)], [.inl r7], (am_sh, am_mm U7)) R
        refine ev_seg (σ1 := ((d + 1), 227, 82, [some (.inr (.inr 1)), some (.inl r1), some (.inl r3), some (.inl r4)], [.inl r1, .inr (.inr 8), .inl r7], (am_sh, am_mm U7))) 4 (fun _ => rfl) ?_
        refine eu_iald 8 (n := 12) rfl (by decide) rfl (fun _ => rfl) haa1aaaaa2a2a.1 ?_
        have haa1aaaaa2a2aa := haa1aaaaa2a2a.2
        refine ev_br (P := r7 < (U7 8 r1.toNat)) (σ1 := ((d + 1), 227, 88, [some (.inr (.inr 1)), some (.inl r1), some (.inl r3), some (.inl r4)], [], (am_sh, am_mm U7))) (σ2 := ((d + 1), 227, 86, [some (.inr (.inr 1)), some (.inl r1), some (.inl r3), some (.inl r4)], [], (am_sh, am_mm U7))) 1 (fun _ => rfl) (fun hc => ?_) (fun hc => ?_)
        · have haa1aaaaa2a2aa1 := haa1aaaaa2a2aa.1 hc
          refine ev_seg (σ1 := ((d + 1), 227, 97, [some (.inr (.inr 1)), some (.inl r1), some (.inl r3), some (.inl r4)], [.inl r3, .inr (.inr 17), .inr (.inr 1)], (am_sh, am_mm U7))) 5 (fun _ => rfl) ?_
          refine eu_iald 17 (n := 16) rfl (by decide) rfl (fun _ => rfl) haa1aaaaa2a2aa1.1 ?_
          have haa1aaaaa2a2aa1a := haa1aaaaa2a2aa1.2
          refine ev_seg (σ1 := ((d + 1), 227, 106, [some (.inr (.inr 1)), some (.inl r1), some (.inl r3), some (.inl r4)], [.inl r4, .inr (.inr 17), .inl (U7 17 r3.toNat), .inr (.inr 1)], (am_sh, am_mm U7))) 4 (fun _ => rfl) ?_
          refine eu_iald 17 (n := 16) rfl (by decide) rfl (fun _ => rfl) haa1aaaaa2a2aa1a.1 ?_
          have haa1aaaaa2a2aa1aa := haa1aaaaa2a2aa1a.2
          refine ev_seg (σ1 := ((d + 1), 227, 112, [some (.inr (.inr 1)), some (.inl r1), some (.inl r3), some (.inl r4)], [.inl r1, .inl (if 0 ≤ (w32 ((U7 17 r3.toNat) - (U7 17 r4.toNat))) then (w32 ((U7 17 r3.toNat) - (U7 17 r4.toNat))) else w32 (-(w32 ((U7 17 r3.toNat) - (U7 17 r4.toNat))))), .inr (.inr 1)], (am_sh, am_mm U7))) 3 (fun _ => rfl) ?_
          obtain ⟨r8, U8, haa1aaaaa2a2aa1aac, haa1aaaaa2a2aa1aaa⟩ := haa1aaaaa2a2aa1aa
          refine ev_cal (σc := (d, 229, 0, [some (.inr (.inr 1)), some (.inl (if 0 ≤ (w32 ((U7 17 r3.toNat) - (U7 17 r4.toNat))) then (w32 ((U7 17 r3.toNat) - (U7 17 r4.toNat))) else w32 (-(w32 ((U7 17 r3.toNat) - (U7 17 r4.toNat)))))), some (.inl r1)], [], (am_sh, am_mm U7))) (fun _ => rfl) haa1aaaaa2a2aa1aac ?_
          show Ev (am_kz N X) ((d + 1), 227, 115, [some (.inr (.inr 1)), some (.inl r1), some (.inl r3), some (.inl r4)], [.inl r8], (am_sh, am_mm U8)) R
          subst haa1aaaaa2a2aa1aaa
          exact ev_end 1 (fun _ => rfl)
        · have haa1aaaaa2a2aa2 := haa1aaaaa2a2aa.2 hc
          subst haa1aaaaa2a2aa2
          exact ev_end 2 (fun _ => rfl)
  · have haa2 := haa.2 hc
    subst haa2
    exact ev_end 2 (fun _ => rfl)
set_option maxRecDepth 8000 in
theorem st229_1_0 (N : Nat) (X : Nat → Int) (d : Nat) (x1 x2 : Int) (U : Nat → Nat → Int) (R : Option am_V × am_M) (h : (((x1 = 0 : Prop)) → R = (some (.inl 0), (am_sh, am_mm U))) ∧ (¬ (x1 = 0) → (((999999999 < x1 : Prop)) → R = (some (.inl 0), (am_sh, am_mm U))) ∧ (¬ (999999999 < x1) → (((16 ≤ (U 16 0) : Prop)) → R = (some (.inl 0), (am_sh, am_mm U))) ∧ (¬ (16 ≤ (U 16 0)) → ∃ (r1 : Int) (U1 : Nat → Nat → Int), Ev (am_kz N X) (d, 280, 0, [some (.inr (.inr 16)), some (.inl x1), none], [], (am_sh, am_mm U)) (some (.inl r1), (am_sh, am_mm U1)) ∧ (((r1 < 0 : Prop)) → ∃ U2 : Nat → Nat → Int, Ev (am_kz N X) (d, 180, 0, [some (.inr (.inr 16)), some (.inl x1), some (.inl x2)], [], (am_sh, am_mm U1)) (none, (am_sh, am_mm U2)) ∧ R = (some (.inl 1), (am_sh, am_mm U2))) ∧ (¬ (r1 < 0) → R = (some (.inl 0), (am_sh, am_mm U1))))))) : Ev (am_kz N X) ((d + 1), 229, 0, [some (.inr (.inr 1)), some (.inl x1), some (.inl x2)], [], (am_sh, am_mm U)) R := by
  refine ev_br (P := x1 = 0) (σ1 := ((d + 1), 229, 34, [some (.inr (.inr 1)), some (.inl x1), some (.inl x2)], [], (am_sh, am_mm U))) (σ2 := ((d + 1), 229, 4, [some (.inr (.inr 1)), some (.inl x1), some (.inl x2)], [], (am_sh, am_mm U))) 2 (fun _ => rfl) (fun hc => ?_) (fun hc => ?_)
  · have h1 := h.1 hc
    subst h1
    exact ev_end 2 (fun _ => rfl)
  · have h2 := h.2 hc
    refine ev_br (P := 999999999 < x1) (σ1 := ((d + 1), 229, 34, [some (.inr (.inr 1)), some (.inl x1), some (.inl x2)], [], (am_sh, am_mm U))) (σ2 := ((d + 1), 229, 11, [some (.inr (.inr 1)), some (.inl x1), some (.inl x2)], [], (am_sh, am_mm U))) 3 (fun _ => rfl) (fun hc => ?_) (fun hc => ?_)
    · have h21 := h2.1 hc
      subst h21
      exact ev_end 2 (fun _ => rfl)
    · have h22 := h2.2 hc
      refine ev_br (P := 16 ≤ (U 16 0)) (σ1 := ((d + 1), 229, 34, [some (.inr (.inr 1)), some (.inl x1), some (.inl x2)], [], (am_sh, am_mm U))) (σ2 := ((d + 1), 229, 23, [some (.inr (.inr 1)), some (.inl x1), some (.inl x2)], [], (am_sh, am_mm U))) 5 (fun _ => rfl) (fun hc => ?_) (fun hc => ?_)
      · have h221 := h22.1 hc
        subst h221
        exact ev_end 2 (fun _ => rfl)
      · have h222 := h22.2 hc
        refine ev_seg (σ1 := ((d + 1), 229, 28, [some (.inr (.inr 1)), some (.inl x1), some (.inl x2)], [.inl x1, .inr (.inr 16)], (am_sh, am_mm U))) 3 (fun _ => rfl) ?_
        obtain ⟨r1, U1, h222c, h222a⟩ := h222
        refine ev_cal (σc := (d, 280, 0, [some (.inr (.inr 16)), some (.inl x1), none], [], (am_sh, am_mm U))) (fun _ => rfl) h222c ?_
        show Ev (am_kz N X) ((d + 1), 229, 31, [some (.inr (.inr 1)), some (.inl x1), some (.inl x2)], [.inl r1], (am_sh, am_mm U1)) R
        refine ev_br (P := r1 < 0) (σ1 := ((d + 1), 229, 36, [some (.inr (.inr 1)), some (.inl x1), some (.inl x2)], [], (am_sh, am_mm U1))) (σ2 := ((d + 1), 229, 34, [some (.inr (.inr 1)), some (.inl x1), some (.inl x2)], [], (am_sh, am_mm U1))) 1 (fun _ => rfl) (fun hc => ?_) (fun hc => ?_)
        · have h222a1 := h222a.1 hc
          refine ev_seg (σ1 := ((d + 1), 229, 42, [some (.inr (.inr 1)), some (.inl x1), some (.inl x2)], [.inl x2, .inl x1, .inr (.inr 16)], (am_sh, am_mm U1))) 4 (fun _ => rfl) ?_
          obtain ⟨U2, h222a1c, h222a1a⟩ := h222a1
          refine ev_cal (σc := (d, 180, 0, [some (.inr (.inr 16)), some (.inl x1), some (.inl x2)], [], (am_sh, am_mm U1))) (fun _ => rfl) h222a1c ?_
          show Ev (am_kz N X) ((d + 1), 229, 45, [some (.inr (.inr 1)), some (.inl x1), some (.inl x2)], [], (am_sh, am_mm U2)) R
          subst h222a1a
          exact ev_end 2 (fun _ => rfl)
        · have h222a2 := h222a.2 hc
          subst h222a2
          exact ev_end 2 (fun _ => rfl)
set_option maxRecDepth 8000 in
theorem st226_1_0 (N : Nat) (X : Nat → Int) (d : Nat) (U : Nat → Nat → Int) (R : Option am_V × am_M) (h : ∃ (r1 : Int) (U1 : Nat → Nat → Int), Ev (am_kz N X) (d, 228, 0, [some (.inr (.inr 1)), some (.inl (U 3 1))], [], (am_sh, am_mm U)) (some (.inl r1), (am_sh, am_mm U1)) ∧ ∃ (r2 : Int) (U2 : Nat → Nat → Int), Ev (am_kz N X) (d, 228, 0, [some (.inr (.inr 1)), some (.inl 100)], [], (am_sh, am_mm U1)) (some (.inl r2), (am_sh, am_mm U2)) ∧ (((r2 < (U2 3 5) : Prop)) → Ev (am_kz N X) ((d + 1), 226, 31, [some (.inr (.inr 1)), some (.inl r1), some (.inl 0)], [], (am_sh, am_mm U2)) R) ∧ (¬ (r2 < (U2 3 5)) → R = (none, (am_sh, am_mm U2)))) : Ev (am_kz N X) ((d + 1), 226, 0, [some (.inr (.inr 1)), none, none], [], (am_sh, am_mm U)) R := by
  refine ev_seg (σ1 := ((d + 1), 226, 8, [some (.inr (.inr 1)), none, none], [.inl (U 3 1), .inr (.inr 1)], (am_sh, am_mm U))) 4 (fun _ => rfl) ?_
  obtain ⟨r1, U1, hc, ha⟩ := h
  refine ev_cal (σc := (d, 228, 0, [some (.inr (.inr 1)), some (.inl (U 3 1))], [], (am_sh, am_mm U))) (fun _ => rfl) hc ?_
  show Ev (am_kz N X) ((d + 1), 226, 11, [some (.inr (.inr 1)), none, none], [.inl r1], (am_sh, am_mm U1)) R
  refine ev_seg (σ1 := ((d + 1), 226, 15, [some (.inr (.inr 1)), some (.inl r1), none], [.inl 100, .inr (.inr 1)], (am_sh, am_mm U1))) 3 (fun _ => rfl) ?_
  obtain ⟨r2, U2, hac, haa⟩ := ha
  refine ev_cal (σc := (d, 228, 0, [some (.inr (.inr 1)), some (.inl 100)], [], (am_sh, am_mm U1))) (fun _ => rfl) hac ?_
  show Ev (am_kz N X) ((d + 1), 226, 18, [some (.inr (.inr 1)), some (.inl r1), none], [.inl r2], (am_sh, am_mm U2)) R
  refine ev_br (P := r2 < (U2 3 5)) (σ1 := ((d + 1), 226, 29, [some (.inr (.inr 1)), some (.inl r1), none], [], (am_sh, am_mm U2))) (σ2 := ((d + 1), 226, 28, [some (.inr (.inr 1)), some (.inl r1), none], [], (am_sh, am_mm U2))) 4 (fun _ => rfl) (fun hc => ?_) (fun hc => ?_)
  · have haa1 := haa.1 hc
    refine ev_seg (σ1 := ((d + 1), 226, 31, [some (.inr (.inr 1)), some (.inl r1), some (.inl 0)], [], (am_sh, am_mm U2))) 2 (fun _ => rfl) ?_
    exact haa1
  · have haa2 := haa.2 hc
    subst haa2
    exact ev_end 1 (fun _ => rfl)
set_option maxRecDepth 8000 in
theorem st226_1_31 (N : Nat) (X : Nat → Int) (d : Nat) (x1 x2 : Int) (U : Nat → Nat → Int) (R : Option am_V × am_M) (h : ((((U 16 0) ≤ x2 : Prop)) → R = (none, (am_sh, am_mm U))) ∧ (¬ ((U 16 0) ≤ x2) → (0 ≤ x2 ∧ x2 < 16) ∧ (((¬ (U 18 x2.toNat) = x1 : Prop)) → Ev (am_kz N X) ((d + 1), 226, 31, [some (.inr (.inr 1)), some (.inl x1), some (.inl (w32 (x2 + 1)))], [], (am_sh, am_mm U)) R) ∧ (¬ (¬ (U 18 x2.toNat) = x1) → ∃ U1 : Nat → Nat → Int, Ev (am_kz N X) (d, 138, 0, [some (.inr (.inr 16)), some (.inl x2), some (.inl (-1)), none], [], (am_sh, am_mm U)) (none, (am_sh, am_mm U1)) ∧ Ev (am_kz N X) ((d + 1), 226, 31, [some (.inr (.inr 1)), some (.inl x1), some (.inl (w32 (x2 + 1)))], [], (am_sh, am_mm U1)) R))) : Ev (am_kz N X) ((d + 1), 226, 31, [some (.inr (.inr 1)), some (.inl x1), some (.inl x2)], [], (am_sh, am_mm U)) R := by
  refine ev_br (P := (U 16 0) ≤ x2) (σ1 := ((d + 1), 226, 70, [some (.inr (.inr 1)), some (.inl x1), some (.inl x2)], [], (am_sh, am_mm U))) (σ2 := ((d + 1), 226, 42, [some (.inr (.inr 1)), some (.inl x1), some (.inl x2)], [], (am_sh, am_mm U))) 5 (fun _ => rfl) (fun hc => ?_) (fun hc => ?_)
  · have h1 := h.1 hc
    subst h1
    exact ev_end 1 (fun _ => rfl)
  · have h2 := h.2 hc
    refine ev_seg (σ1 := ((d + 1), 226, 50, [some (.inr (.inr 1)), some (.inl x1), some (.inl x2)], [.inl x2, .inr (.inr 18)], (am_sh, am_mm U))) 4 (fun _ => rfl) ?_
    refine eu_iald 18 (n := 16) rfl (by decide) rfl (fun _ => rfl) h2.1 ?_
    have h2a := h2.2
    refine ev_br (P := ¬ (U 18 x2.toNat) = x1) (σ1 := ((d + 1), 226, 64, [some (.inr (.inr 1)), some (.inl x1), some (.inl x2)], [], (am_sh, am_mm U))) (σ2 := ((d + 1), 226, 55, [some (.inr (.inr 1)), some (.inl x1), some (.inl x2)], [], (am_sh, am_mm U))) 2 (fun _ => rfl) (fun hc => ?_) (fun hc => ?_)
    · have h2a1 := h2a.1 hc
      refine ev_seg (σ1 := ((d + 1), 226, 31, [some (.inr (.inr 1)), some (.inl x1), some (.inl (w32 (x2 + 1)))], [], (am_sh, am_mm U))) 2 (fun _ => rfl) ?_
      exact h2a1
    · have h2a2 := h2a.2 hc
      refine ev_seg (σ1 := ((d + 1), 226, 61, [some (.inr (.inr 1)), some (.inl x1), some (.inl x2)], [.inl (-1), .inl x2, .inr (.inr 16)], (am_sh, am_mm U))) 4 (fun _ => rfl) ?_
      obtain ⟨U1, h2a2c, h2a2a⟩ := h2a2
      refine ev_cal (σc := (d, 138, 0, [some (.inr (.inr 16)), some (.inl x2), some (.inl (-1)), none], [], (am_sh, am_mm U))) (fun _ => rfl) h2a2c ?_
      show Ev (am_kz N X) ((d + 1), 226, 64, [some (.inr (.inr 1)), some (.inl x1), some (.inl x2)], [], (am_sh, am_mm U1)) R
      refine ev_seg (σ1 := ((d + 1), 226, 31, [some (.inr (.inr 1)), some (.inl x1), some (.inl (w32 (x2 + 1)))], [], (am_sh, am_mm U1))) 2 (fun _ => rfl) ?_
      exact h2a2a
set_option maxRecDepth 8000 in
theorem st233_86_0 (N : Nat) (X : Nat → Int) (d : Nat) (x1 x2 : Int) (U : Nat → Nat → Int) (R : Option am_V × am_M) (h : (((x1 = 0 : Prop)) → Ev (am_kz N X) (d, 233, 31, [some (.inr (.inr 86)), some (.inl x1), some (.inl x2), some (.inl 0), some (.inl 0)], [], (am_sh, am_mm U)) R) ∧ (¬ (x1 = 0) → (((999999999 < x1 : Prop)) → Ev (am_kz N X) (d, 233, 31, [some (.inr (.inr 86)), some (.inl x1), some (.inl x2), some (.inl 0), some (.inl 0)], [], (am_sh, am_mm U)) R) ∧ (¬ (999999999 < x1) → (((16 ≤ (U 122 0) : Prop)) → Ev (am_kz N X) (d, 233, 31, [some (.inr (.inr 86)), some (.inl x1), some (.inl x2), some (.inl 0), some (.inl 0)], [], (am_sh, am_mm U)) R) ∧ (¬ (16 ≤ (U 122 0)) → Ev (am_kz N X) (d, 233, 31, [some (.inr (.inr 86)), some (.inl x1), some (.inl x2), some (.inl 1), some (.inl 0)], [], (am_sh, am_mm U)) R)))) : Ev (am_kz N X) (d, 233, 0, [some (.inr (.inr 86)), some (.inl x1), some (.inl x2), none, none], [], (am_sh, am_mm U)) R := by
  refine ev_br (P := x1 = 0) (σ1 := (d, 233, 26, [some (.inr (.inr 86)), some (.inl x1), some (.inl x2), none, none], [], (am_sh, am_mm U))) (σ2 := (d, 233, 4, [some (.inr (.inr 86)), some (.inl x1), some (.inl x2), none, none], [], (am_sh, am_mm U))) 2 (fun _ => rfl) (fun hc => ?_) (fun hc => ?_)
  · have h1 := h.1 hc
    refine ev_seg (σ1 := (d, 233, 31, [some (.inr (.inr 86)), some (.inl x1), some (.inl x2), some (.inl 0), some (.inl 0)], [], (am_sh, am_mm U))) 4 (fun _ => rfl) ?_
    exact h1
  · have h2 := h.2 hc
    refine ev_br (P := 999999999 < x1) (σ1 := (d, 233, 26, [some (.inr (.inr 86)), some (.inl x1), some (.inl x2), none, none], [], (am_sh, am_mm U))) (σ2 := (d, 233, 11, [some (.inr (.inr 86)), some (.inl x1), some (.inl x2), none, none], [], (am_sh, am_mm U))) 3 (fun _ => rfl) (fun hc => ?_) (fun hc => ?_)
    · have h21 := h2.1 hc
      refine ev_seg (σ1 := (d, 233, 31, [some (.inr (.inr 86)), some (.inl x1), some (.inl x2), some (.inl 0), some (.inl 0)], [], (am_sh, am_mm U))) 4 (fun _ => rfl) ?_
      exact h21
    · have h22 := h2.2 hc
      refine ev_seg (σ1 := (d, 233, 16, [some (.inr (.inr 86)), some (.inl x1), some (.inl x2), none, none], [.inl 0, .inr (.inr 122)], (am_sh, am_mm U))) 3 (fun _ => rfl) ?_
      refine eu_iald 122 (n := 22) rfl (by decide) rfl (fun _ => rfl) (by decide) ?_
      show Ev (am_kz N X) (d, 233, 17, [some (.inr (.inr 86)), some (.inl x1), some (.inl x2), none, none], [.inl (U 122 0)], (am_sh, am_mm U)) R
      refine ev_br (P := 16 ≤ (U 122 0)) (σ1 := (d, 233, 26, [some (.inr (.inr 86)), some (.inl x1), some (.inl x2), none, none], [], (am_sh, am_mm U))) (σ2 := (d, 233, 22, [some (.inr (.inr 86)), some (.inl x1), some (.inl x2), none, none], [], (am_sh, am_mm U))) 2 (fun _ => rfl) (fun hc => ?_) (fun hc => ?_)
      · have h221 := h22.1 hc
        refine ev_seg (σ1 := (d, 233, 31, [some (.inr (.inr 86)), some (.inl x1), some (.inl x2), some (.inl 0), some (.inl 0)], [], (am_sh, am_mm U))) 4 (fun _ => rfl) ?_
        exact h221
      · have h222 := h22.2 hc
        refine ev_seg (σ1 := (d, 233, 31, [some (.inr (.inr 86)), some (.inl x1), some (.inl x2), some (.inl 1), some (.inl 0)], [], (am_sh, am_mm U))) 5 (fun _ => rfl) ?_
        exact h222
set_option maxRecDepth 8000 in
theorem st233_86_31 (N : Nat) (X : Nat → Int) (d : Nat) (x1 x2 x3 x4 : Int) (U : Nat → Nat → Int) (R : Option am_V × am_M) (h : ((((U 122 0) ≤ x4 : Prop)) → (((¬ x3 = 0 : Prop)) → (0 ≤ (U 122 0) ∧ (U 122 0) < 352) ∧ (0 ≤ ((am_upd U 123 (U 122 0).toNat x1) 122 0) ∧ ((am_upd U 123 (U 122 0).toNat x1) 122 0) < 352) ∧ R = (some (.inl 1), (am_sh, am_mm (am_upd (am_upd (am_upd U 123 (U 122 0).toNat x1) 124 ((am_upd U 123 (U 122 0).toNat x1) 122 0).toNat x2) 122 0 (w32 (((am_upd (am_upd U 123 (U 122 0).toNat x1) 124 ((am_upd U 123 (U 122 0).toNat x1) 122 0).toNat x2) 122 0) + 1)))))) ∧ (¬ (¬ x3 = 0) → R = (some (.inl 0), (am_sh, am_mm U)))) ∧ (¬ ((U 122 0) ≤ x4) → (((x3 = 0 : Prop)) → Ev (am_kz N X) (d, 233, 31, [some (.inr (.inr 86)), some (.inl x1), some (.inl x2), some (.inl 0), some (.inl (w32 (x4 + 1)))], [], (am_sh, am_mm U)) R) ∧ (¬ (x3 = 0) → (0 ≤ x4 ∧ x4 < 352) ∧ ((((U 123 x4.toNat) = x1 : Prop)) → Ev (am_kz N X) (d, 233, 31, [some (.inr (.inr 86)), some (.inl x1), some (.inl x2), some (.inl 0), some (.inl (w32 (x4 + 1)))], [], (am_sh, am_mm U)) R) ∧ (¬ ((U 123 x4.toNat) = x1) → Ev (am_kz N X) (d, 233, 31, [some (.inr (.inr 86)), some (.inl x1), some (.inl x2), some (.inl 1), some (.inl (w32 (x4 + 1)))], [], (am_sh, am_mm U)) R)))) : Ev (am_kz N X) (d, 233, 31, [some (.inr (.inr 86)), some (.inl x1), some (.inl x2), some (.inl x3), some (.inl x4)], [], (am_sh, am_mm U)) R := by
  refine ev_seg (σ1 := (d, 233, 38, [some (.inr (.inr 86)), some (.inl x1), some (.inl x2), some (.inl x3), some (.inl x4)], [.inl 0, .inr (.inr 122), .inl x4], (am_sh, am_mm U))) 4 (fun _ => rfl) ?_
  refine eu_iald 122 (n := 22) rfl (by decide) rfl (fun _ => rfl) (by decide) ?_
  show Ev (am_kz N X) (d, 233, 39, [some (.inr (.inr 86)), some (.inl x1), some (.inl x2), some (.inl x3), some (.inl x4)], [.inl (U 122 0), .inl x4], (am_sh, am_mm U)) R
  refine ev_br (P := (U 122 0) ≤ x4) (σ1 := (d, 233, 69, [some (.inr (.inr 86)), some (.inl x1), some (.inl x2), some (.inl x3), some (.inl x4)], [], (am_sh, am_mm U))) (σ2 := (d, 233, 42, [some (.inr (.inr 86)), some (.inl x1), some (.inl x2), some (.inl x3), some (.inl x4)], [], (am_sh, am_mm U))) 1 (fun _ => rfl) (fun hc => ?_) (fun hc => ?_)
  · have h1 := h.1 hc
    refine ev_br (P := ¬ x3 = 0) (σ1 := (d, 233, 75, [some (.inr (.inr 86)), some (.inl x1), some (.inl x2), some (.inl x3), some (.inl x4)], [], (am_sh, am_mm U))) (σ2 := (d, 233, 73, [some (.inr (.inr 86)), some (.inl x1), some (.inl x2), some (.inl x3), some (.inl x4)], [], (am_sh, am_mm U))) 2 (fun _ => rfl) (fun hc => ?_) (fun hc => ?_)
    · have h11 := h1.1 hc
      refine ev_seg (σ1 := (d, 233, 84, [some (.inr (.inr 86)), some (.inl x1), some (.inl x2), some (.inl x3), some (.inl x4)], [.inl 0, .inr (.inr 122), .inr (.inr 123)], (am_sh, am_mm U))) 5 (fun _ => rfl) ?_
      refine eu_iald 122 (n := 22) rfl (by decide) rfl (fun _ => rfl) (by decide) ?_
      show Ev (am_kz N X) (d, 233, 85, [some (.inr (.inr 86)), some (.inl x1), some (.inl x2), some (.inl x3), some (.inl x4)], [.inl (U 122 0), .inr (.inr 123)], (am_sh, am_mm U)) R
      refine ev_seg (σ1 := (d, 233, 86, [some (.inr (.inr 86)), some (.inl x1), some (.inl x2), some (.inl x3), some (.inl x4)], [.inl x1, .inl (U 122 0), .inr (.inr 123)], (am_sh, am_mm U))) 1 (fun _ => rfl) ?_
      refine eu_iast 123 (n := 352) rfl (by decide) rfl (fun _ => rfl) h11.1 ?_
      have h11a := h11.2
      refine ev_seg (σ1 := (d, 233, 96, [some (.inr (.inr 86)), some (.inl x1), some (.inl x2), some (.inl x3), some (.inl x4)], [.inl 0, .inr (.inr 122), .inr (.inr 124)], (am_sh, am_mm (am_upd U 123 (U 122 0).toNat x1)))) 5 (fun _ => rfl) ?_
      refine eu_iald 122 (n := 22) rfl (by decide) rfl (fun _ => rfl) (by decide) ?_
      show Ev (am_kz N X) (d, 233, 97, [some (.inr (.inr 86)), some (.inl x1), some (.inl x2), some (.inl x3), some (.inl x4)], [.inl ((am_upd U 123 (U 122 0).toNat x1) 122 0), .inr (.inr 124)], (am_sh, am_mm (am_upd U 123 (U 122 0).toNat x1))) R
      refine ev_seg (σ1 := (d, 233, 98, [some (.inr (.inr 86)), some (.inl x1), some (.inl x2), some (.inl x3), some (.inl x4)], [.inl x2, .inl ((am_upd U 123 (U 122 0).toNat x1) 122 0), .inr (.inr 124)], (am_sh, am_mm (am_upd U 123 (U 122 0).toNat x1)))) 1 (fun _ => rfl) ?_
      refine eu_iast 124 (n := 352) rfl (by decide) rfl (fun _ => rfl) h11a.1 ?_
      have h11aa := h11a.2
      refine ev_seg (σ1 := (d, 233, 105, [some (.inr (.inr 86)), some (.inl x1), some (.inl x2), some (.inl x3), some (.inl x4)], [.inl 0, .inr (.inr 122), .inl 0, .inr (.inr 122)], (am_sh, am_mm (am_upd (am_upd U 123 (U 122 0).toNat x1) 124 ((am_upd U 123 (U 122 0).toNat x1) 122 0).toNat x2)))) 4 (fun _ => rfl) ?_
      refine eu_iald 122 (n := 22) rfl (by decide) rfl (fun _ => rfl) (by decide) ?_
      show Ev (am_kz N X) (d, 233, 106, [some (.inr (.inr 86)), some (.inl x1), some (.inl x2), some (.inl x3), some (.inl x4)], [.inl ((am_upd (am_upd U 123 (U 122 0).toNat x1) 124 ((am_upd U 123 (U 122 0).toNat x1) 122 0).toNat x2) 122 0), .inl 0, .inr (.inr 122)], (am_sh, am_mm (am_upd (am_upd U 123 (U 122 0).toNat x1) 124 ((am_upd U 123 (U 122 0).toNat x1) 122 0).toNat x2))) R
      refine ev_seg (σ1 := (d, 233, 108, [some (.inr (.inr 86)), some (.inl x1), some (.inl x2), some (.inl x3), some (.inl x4)], [.inl (w32 (((am_upd (am_upd U 123 (U 122 0).toNat x1) 124 ((am_upd U 123 (U 122 0).toNat x1) 122 0).toNat x2) 122 0) + 1)), .inl 0, .inr (.inr 122)], (am_sh, am_mm (am_upd (am_upd U 123 (U 122 0).toNat x1) 124 ((am_upd U 123 (U 122 0).toNat x1) 122 0).toNat x2)))) 2 (fun _ => rfl) ?_
      refine eu_iast 122 (n := 22) rfl (by decide) rfl (fun _ => rfl) (by decide) ?_
      show Ev (am_kz N X) (d, 233, 109, [some (.inr (.inr 86)), some (.inl x1), some (.inl x2), some (.inl x3), some (.inl x4)], [], (am_sh, am_mm (am_upd (am_upd (am_upd U 123 (U 122 0).toNat x1) 124 ((am_upd U 123 (U 122 0).toNat x1) 122 0).toNat x2) 122 0 (w32 (((am_upd (am_upd U 123 (U 122 0).toNat x1) 124 ((am_upd U 123 (U 122 0).toNat x1) 122 0).toNat x2) 122 0) + 1))))) R
      subst h11aa
      exact ev_end 2 (fun _ => rfl)
    · have h12 := h1.2 hc
      subst h12
      exact ev_end 2 (fun _ => rfl)
  · have h2 := h.2 hc
    refine ev_br (P := x3 = 0) (σ1 := (d, 233, 61, [some (.inr (.inr 86)), some (.inl x1), some (.inl x2), some (.inl x3), some (.inl x4)], [], (am_sh, am_mm U))) (σ2 := (d, 233, 46, [some (.inr (.inr 86)), some (.inl x1), some (.inl x2), some (.inl x3), some (.inl x4)], [], (am_sh, am_mm U))) 2 (fun _ => rfl) (fun hc => ?_) (fun hc => ?_)
    · have h21 := h2.1 hc
      refine ev_seg (σ1 := (d, 233, 31, [some (.inr (.inr 86)), some (.inl x1), some (.inl x2), some (.inl 0), some (.inl (w32 (x4 + 1)))], [], (am_sh, am_mm U))) 4 (fun _ => rfl) ?_
      exact h21
    · have h22 := h2.2 hc
      refine ev_seg (σ1 := (d, 233, 52, [some (.inr (.inr 86)), some (.inl x1), some (.inl x2), some (.inl x3), some (.inl x4)], [.inl x4, .inr (.inr 123)], (am_sh, am_mm U))) 3 (fun _ => rfl) ?_
      refine eu_iald 123 (n := 352) rfl (by decide) rfl (fun _ => rfl) h22.1 ?_
      have h22a := h22.2
      refine ev_br (P := (U 123 x4.toNat) = x1) (σ1 := (d, 233, 61, [some (.inr (.inr 86)), some (.inl x1), some (.inl x2), some (.inl x3), some (.inl x4)], [], (am_sh, am_mm U))) (σ2 := (d, 233, 57, [some (.inr (.inr 86)), some (.inl x1), some (.inl x2), some (.inl x3), some (.inl x4)], [], (am_sh, am_mm U))) 2 (fun _ => rfl) (fun hc => ?_) (fun hc => ?_)
      · have h22a1 := h22a.1 hc
        refine ev_seg (σ1 := (d, 233, 31, [some (.inr (.inr 86)), some (.inl x1), some (.inl x2), some (.inl 0), some (.inl (w32 (x4 + 1)))], [], (am_sh, am_mm U))) 4 (fun _ => rfl) ?_
        exact h22a1
      · have h22a2 := h22a.2 hc
        refine ev_seg (σ1 := (d, 233, 31, [some (.inr (.inr 86)), some (.inl x1), some (.inl x2), some (.inl 1), some (.inl (w32 (x4 + 1)))], [], (am_sh, am_mm U))) 5 (fun _ => rfl) ?_
        exact h22a2
set_option maxRecDepth 8000 in
theorem st230_86_0 (N : Nat) (X : Nat → Int) (d : Nat) (x1 : Int) (U : Nat → Nat → Int) (R : Option am_V × am_M) (h : x1 ≠ 0 ∧ R = (some (.inl (w32 (Int.tmod (w64 (Int.tdiv ((am_upd U 86 59 (Int.tmod (w64 ((w64 (1103515245 * (U 86 59))) + 12345)) 2147483648)) 86 59) 64)) x1))), (am_sh, am_mm (am_upd U 86 59 (Int.tmod (w64 ((w64 (1103515245 * (U 86 59))) + 12345)) 2147483648))))) : Ev (am_kz N X) (d, 230, 0, [some (.inr (.inr 86)), some (.inl x1)], [], (am_sh, am_mm U)) R := by
  refine ev_seg (σ1 := (d, 230, 16, [some (.inr (.inr 86)), some (.inl x1)], [.inr (.inl 2147483648), .inr (.inl (w64 ((w64 (1103515245 * (U 86 59))) + 12345))), .inr (.inr 86)], (am_sh, am_mm U))) 8 (fun _ => rfl) ?_
  refine ev_lrem rfl (by decide) ?_
  refine eu_putj 86 (n := 90) rfl (by decide) rfl rfl ?_
  refine ev_seg (σ1 := (d, 230, 27, [some (.inr (.inr 86)), some (.inl x1)], [.inr (.inl 64), .inr (.inl ((am_upd U 86 59 (Int.tmod (w64 ((w64 (1103515245 * (U 86 59))) + 12345)) 2147483648)) 86 59))], (am_sh, am_mm (am_upd U 86 59 (Int.tmod (w64 ((w64 (1103515245 * (U 86 59))) + 12345)) 2147483648))))) 3 (fun _ => rfl) ?_
  refine ev_ldiv rfl (by decide) ?_
  refine ev_seg (σ1 := (d, 230, 30, [some (.inr (.inr 86)), some (.inl x1)], [.inr (.inl x1), .inr (.inl (w64 (Int.tdiv ((am_upd U 86 59 (Int.tmod (w64 ((w64 (1103515245 * (U 86 59))) + 12345)) 2147483648)) 86 59) 64)))], (am_sh, am_mm (am_upd U 86 59 (Int.tmod (w64 ((w64 (1103515245 * (U 86 59))) + 12345)) 2147483648))))) 2 (fun _ => rfl) ?_
  refine ev_lrem rfl h.1 ?_
  have ha := h.2
  subst ha
  exact ev_end 2 (fun _ => rfl)
set_option maxRecDepth 8000 in
theorem st232_86_0 (N : Nat) (X : Nat → Int) (d : Nat) (x1 : Int) (U : Nat → Nat → Int) (R : Option am_V × am_M) (h : ∃ (r1 : Int) (U1 : Nat → Nat → Int), Ev (am_kz N X) (d, 111, 0, [some (.inr (.inr 86)), some (.inl 0), some (.inl x1), none, none], [], (am_sh, am_mm U)) (some (.inl r1), (am_sh, am_mm U1)) ∧ (((r1 < 2 : Prop)) → R = (some (.inl 0), (am_sh, am_mm U1))) ∧ (¬ (r1 < 2) → ∃ (r2 : Int) (U2 : Nat → Nat → Int), Ev (am_kz N X) (d, 110, 0, [some (.inr (.inr 86)), some (.inl x1)], [], (am_sh, am_mm U1)) (some (.inl r2), (am_sh, am_mm U2)) ∧ (((¬ r1 = r2 : Prop)) → ∃ (r3 : Int) (U3 : Nat → Nat → Int), Ev (am_kz N X) (d, 16, 0, [some (.inr (.inr 86)), some (.inl x1), some (.inl 10), none, none], [], (am_sh, am_mm U2)) (some (.inl r3), (am_sh, am_mm U3)) ∧ (0 ≤ r3 ∧ r3 < 352) ∧ ∃ (r4 : Int) (U4 : Nat → Nat → Int), Ev (am_kz N X) (d, 16, 0, [some (.inr (.inr 86)), some (.inl x1), some (.inl 11), none, none], [], (am_sh, am_mm U3)) (some (.inl r4), (am_sh, am_mm U4)) ∧ (0 ≤ r4 ∧ r4 < 352) ∧ (((0 ≤ (w32 ((U3 123 r3.toNat) - (U4 123 r4.toNat))) : Prop)) → ∃ (r5 : Int) (U5 : Nat → Nat → Int), Ev (am_kz N X) (d, 233, 0, [some (.inr (.inr 86)), some (.inl (w32 ((U3 123 r3.toNat) - (U4 123 r4.toNat)))), some (.inl x1), none, none], [], (am_sh, am_mm U4)) (some (.inl r5), (am_sh, am_mm U5)) ∧ R = (some (.inl r5), (am_sh, am_mm U5))) ∧ (¬ (0 ≤ (w32 ((U3 123 r3.toNat) - (U4 123 r4.toNat)))) → ∃ (r6 : Int) (U6 : Nat → Nat → Int), Ev (am_kz N X) (d, 233, 0, [some (.inr (.inr 86)), some (.inl (w32 (-(w32 ((U3 123 r3.toNat) - (U4 123 r4.toNat)))))), some (.inl x1), none, none], [], (am_sh, am_mm U4)) (some (.inl r6), (am_sh, am_mm U6)) ∧ R = (some (.inl r6), (am_sh, am_mm U6)))) ∧ (¬ (¬ r1 = r2) → R = (some (.inl 0), (am_sh, am_mm U2))))) : Ev (am_kz N X) ((d + 1), 232, 0, [some (.inr (.inr 86)), some (.inl x1), none, none], [], (am_sh, am_mm U)) R := by
  refine ev_seg (σ1 := ((d + 1), 232, 3, [some (.inr (.inr 86)), some (.inl x1), none, none], [.inl x1, .inl 0, .inr (.inr 86)], (am_sh, am_mm U))) 3 (fun _ => rfl) ?_
  obtain ⟨r1, U1, hc, ha⟩ := h
  refine ev_cal (σc := (d, 111, 0, [some (.inr (.inr 86)), some (.inl 0), some (.inl x1), none, none], [], (am_sh, am_mm U))) (fun _ => rfl) hc ?_
  show Ev (am_kz N X) ((d + 1), 232, 6, [some (.inr (.inr 86)), some (.inl x1), none, none], [.inl r1], (am_sh, am_mm U1)) R
  refine ev_br (P := r1 < 2) (σ1 := ((d + 1), 232, 21, [some (.inr (.inr 86)), some (.inl x1), some (.inl r1), none], [], (am_sh, am_mm U1))) (σ2 := ((d + 1), 232, 12, [some (.inr (.inr 86)), some (.inl x1), some (.inl r1), none], [], (am_sh, am_mm U1))) 4 (fun _ => rfl) (fun hc => ?_) (fun hc => ?_)
  · have ha1 := ha.1 hc
    subst ha1
    exact ev_end 2 (fun _ => rfl)
  · have ha2 := ha.2 hc
    refine ev_seg (σ1 := ((d + 1), 232, 15, [some (.inr (.inr 86)), some (.inl x1), some (.inl r1), none], [.inl x1, .inr (.inr 86), .inl r1], (am_sh, am_mm U1))) 3 (fun _ => rfl) ?_
    obtain ⟨r2, U2, ha2c, ha2a⟩ := ha2
    refine ev_cal (σc := (d, 110, 0, [some (.inr (.inr 86)), some (.inl x1)], [], (am_sh, am_mm U1))) (fun _ => rfl) ha2c ?_
    show Ev (am_kz N X) ((d + 1), 232, 18, [some (.inr (.inr 86)), some (.inl x1), some (.inl r1), none], [.inl r2, .inl r1], (am_sh, am_mm U2)) R
    refine ev_br (P := ¬ r1 = r2) (σ1 := ((d + 1), 232, 23, [some (.inr (.inr 86)), some (.inl x1), some (.inl r1), none], [], (am_sh, am_mm U2))) (σ2 := ((d + 1), 232, 21, [some (.inr (.inr 86)), some (.inl x1), some (.inl r1), none], [], (am_sh, am_mm U2))) 1 (fun _ => rfl) (fun hc => ?_) (fun hc => ?_)
    · have ha2a1 := ha2a.1 hc
      refine ev_seg (σ1 := ((d + 1), 232, 31, [some (.inr (.inr 86)), some (.inl x1), some (.inl r1), none], [.inl 10, .inl x1, .inr (.inr 86), .inr (.inr 123)], (am_sh, am_mm U2))) 5 (fun _ => rfl) ?_
      obtain ⟨r3, U3, ha2a1c, ha2a1a⟩ := ha2a1
      refine ev_cal (σc := (d, 16, 0, [some (.inr (.inr 86)), some (.inl x1), some (.inl 10), none, none], [], (am_sh, am_mm U2))) (fun _ => rfl) ha2a1c ?_
      show Ev (am_kz N X) ((d + 1), 232, 34, [some (.inr (.inr 86)), some (.inl x1), some (.inl r1), none], [.inl r3, .inr (.inr 123)], (am_sh, am_mm U3)) R
      refine eu_iald 123 (n := 352) rfl (by decide) rfl (fun _ => rfl) ha2a1a.1 ?_
      have ha2a1aa := ha2a1a.2
      refine ev_seg (σ1 := ((d + 1), 232, 43, [some (.inr (.inr 86)), some (.inl x1), some (.inl r1), none], [.inl 11, .inl x1, .inr (.inr 86), .inr (.inr 123), .inl (U3 123 r3.toNat)], (am_sh, am_mm U3))) 5 (fun _ => rfl) ?_
      obtain ⟨r4, U4, ha2a1aac, ha2a1aaa⟩ := ha2a1aa
      refine ev_cal (σc := (d, 16, 0, [some (.inr (.inr 86)), some (.inl x1), some (.inl 11), none, none], [], (am_sh, am_mm U3))) (fun _ => rfl) ha2a1aac ?_
      show Ev (am_kz N X) ((d + 1), 232, 46, [some (.inr (.inr 86)), some (.inl x1), some (.inl r1), none], [.inl r4, .inr (.inr 123), .inl (U3 123 r3.toNat)], (am_sh, am_mm U4)) R
      refine eu_iald 123 (n := 352) rfl (by decide) rfl (fun _ => rfl) ha2a1aaa.1 ?_
      have ha2a1aaaa := ha2a1aaa.2
      refine ev_br (P := 0 ≤ (w32 ((U3 123 r3.toNat) - (U4 123 r4.toNat)))) (σ1 := ((d + 1), 232, 59, [some (.inr (.inr 86)), some (.inl x1), some (.inl r1), some (.inl (w32 ((U3 123 r3.toNat) - (U4 123 r4.toNat))))], [.inr (.inr 86)], (am_sh, am_mm U4))) (σ2 := ((d + 1), 232, 54, [some (.inr (.inr 86)), some (.inl x1), some (.inl r1), some (.inl (w32 ((U3 123 r3.toNat) - (U4 123 r4.toNat))))], [.inr (.inr 86)], (am_sh, am_mm U4))) 5 (fun _ => rfl) (fun hc => ?_) (fun hc => ?_)
      · have ha2a1aaaa1 := ha2a1aaaa.1 hc
        refine ev_seg (σ1 := ((d + 1), 232, 61, [some (.inr (.inr 86)), some (.inl x1), some (.inl r1), some (.inl (w32 ((U3 123 r3.toNat) - (U4 123 r4.toNat))))], [.inl x1, .inl (w32 ((U3 123 r3.toNat) - (U4 123 r4.toNat))), .inr (.inr 86)], (am_sh, am_mm U4))) 2 (fun _ => rfl) ?_
        obtain ⟨r5, U5, ha2a1aaaa1c, ha2a1aaaa1a⟩ := ha2a1aaaa1
        refine ev_cal (σc := (d, 233, 0, [some (.inr (.inr 86)), some (.inl (w32 ((U3 123 r3.toNat) - (U4 123 r4.toNat)))), some (.inl x1), none, none], [], (am_sh, am_mm U4))) (fun _ => rfl) ha2a1aaaa1c ?_
        show Ev (am_kz N X) ((d + 1), 232, 64, [some (.inr (.inr 86)), some (.inl x1), some (.inl r1), some (.inl (w32 ((U3 123 r3.toNat) - (U4 123 r4.toNat))))], [.inl r5], (am_sh, am_mm U5)) R
        subst ha2a1aaaa1a
        exact ev_end 1 (fun _ => rfl)
      · have ha2a1aaaa2 := ha2a1aaaa.2 hc
        refine ev_seg (σ1 := ((d + 1), 232, 61, [some (.inr (.inr 86)), some (.inl x1), some (.inl r1), some (.inl (w32 ((U3 123 r3.toNat) - (U4 123 r4.toNat))))], [.inl x1, .inl (w32 (-(w32 ((U3 123 r3.toNat) - (U4 123 r4.toNat))))), .inr (.inr 86)], (am_sh, am_mm U4))) 4 (fun _ => rfl) ?_
        obtain ⟨r6, U6, ha2a1aaaa2c, ha2a1aaaa2a⟩ := ha2a1aaaa2
        refine ev_cal (σc := (d, 233, 0, [some (.inr (.inr 86)), some (.inl (w32 (-(w32 ((U3 123 r3.toNat) - (U4 123 r4.toNat)))))), some (.inl x1), none, none], [], (am_sh, am_mm U4))) (fun _ => rfl) ha2a1aaaa2c ?_
        show Ev (am_kz N X) ((d + 1), 232, 64, [some (.inr (.inr 86)), some (.inl x1), some (.inl r1), some (.inl (w32 ((U3 123 r3.toNat) - (U4 123 r4.toNat))))], [.inl r6], (am_sh, am_mm U6)) R
        subst ha2a1aaaa2a
        exact ev_end 1 (fun _ => rfl)
    · have ha2a2 := ha2a.2 hc
      subst ha2a2
      exact ev_end 2 (fun _ => rfl)
set_option maxRecDepth 8000 in
theorem st231_86_0 (N : Nat) (X : Nat → Int) (d : Nat) (x1 : Int) (U : Nat → Nat → Int) (R : Option am_V × am_M) (h : Ev (am_kz N X) (d, 231, 2, [some (.inr (.inr 86)), some (.inl x1), some (.inl 0)], [], (am_sh, am_mm U)) R) : Ev (am_kz N X) (d, 231, 0, [some (.inr (.inr 86)), some (.inl x1), none], [], (am_sh, am_mm U)) R := by
  refine ev_seg (σ1 := (d, 231, 2, [some (.inr (.inr 86)), some (.inl x1), some (.inl 0)], [], (am_sh, am_mm U))) 2 (fun _ => rfl) ?_
  exact h
set_option maxRecDepth 8000 in
theorem st231_86_2 (N : Nat) (X : Nat → Int) (d : Nat) (x1 x2 : Int) (U : Nat → Nat → Int) (R : Option am_V × am_M) (h : ((((U 122 0) ≤ x2 : Prop)) → R = (none, (am_sh, am_mm U))) ∧ (¬ ((U 122 0) ≤ x2) → (0 ≤ x2 ∧ x2 < 352) ∧ (((¬ (U 124 x2.toNat) = x1 : Prop)) → (0 ≤ x2 ∧ x2 < 352) ∧ (0 ≤ x2 ∧ x2 < 352) ∧ Ev (am_kz N X) (d, 231, 2, [some (.inr (.inr 86)), some (.inl x1), some (.inl (w32 (x2 + 1)))], [], (am_sh, am_mm (am_upd U 124 x2.toNat (U 124 x2.toNat)))) R) ∧ (¬ (¬ (U 124 x2.toNat) = x1) → (0 ≤ x2 ∧ x2 < 352) ∧ Ev (am_kz N X) (d, 231, 2, [some (.inr (.inr 86)), some (.inl x1), some (.inl (w32 (x2 + 1)))], [], (am_sh, am_mm (am_upd U 124 x2.toNat (-1)))) R))) : Ev (am_kz N X) (d, 231, 2, [some (.inr (.inr 86)), some (.inl x1), some (.inl x2)], [], (am_sh, am_mm U)) R := by
  refine ev_seg (σ1 := (d, 231, 8, [some (.inr (.inr 86)), some (.inl x1), some (.inl x2)], [.inl 0, .inr (.inr 122), .inl x2], (am_sh, am_mm U))) 4 (fun _ => rfl) ?_
  refine eu_iald 122 (n := 22) rfl (by decide) rfl (fun _ => rfl) (by decide) ?_
  show Ev (am_kz N X) (d, 231, 9, [some (.inr (.inr 86)), some (.inl x1), some (.inl x2)], [.inl (U 122 0), .inl x2], (am_sh, am_mm U)) R
  refine ev_br (P := (U 122 0) ≤ x2) (σ1 := (d, 231, 44, [some (.inr (.inr 86)), some (.inl x1), some (.inl x2)], [], (am_sh, am_mm U))) (σ2 := (d, 231, 12, [some (.inr (.inr 86)), some (.inl x1), some (.inl x2)], [], (am_sh, am_mm U))) 1 (fun _ => rfl) (fun hc => ?_) (fun hc => ?_)
  · have h1 := h.1 hc
    subst h1
    exact ev_end 1 (fun _ => rfl)
  · have h2 := h.2 hc
    refine ev_seg (σ1 := (d, 231, 22, [some (.inr (.inr 86)), some (.inl x1), some (.inl x2)], [.inl x2, .inr (.inr 124), .inl x2, .inr (.inr 124)], (am_sh, am_mm U))) 6 (fun _ => rfl) ?_
    refine eu_iald 124 (n := 352) rfl (by decide) rfl (fun _ => rfl) h2.1 ?_
    have h2a := h2.2
    refine ev_br (P := ¬ (U 124 x2.toNat) = x1) (σ1 := (d, 231, 31, [some (.inr (.inr 86)), some (.inl x1), some (.inl x2)], [.inl x2, .inr (.inr 124)], (am_sh, am_mm U))) (σ2 := (d, 231, 27, [some (.inr (.inr 86)), some (.inl x1), some (.inl x2)], [.inl x2, .inr (.inr 124)], (am_sh, am_mm U))) 2 (fun _ => rfl) (fun hc => ?_) (fun hc => ?_)
    · have h2a1 := h2a.1 hc
      refine ev_seg (σ1 := (d, 231, 36, [some (.inr (.inr 86)), some (.inl x1), some (.inl x2)], [.inl x2, .inr (.inr 124), .inl x2, .inr (.inr 124)], (am_sh, am_mm U))) 3 (fun _ => rfl) ?_
      refine eu_iald 124 (n := 352) rfl (by decide) rfl (fun _ => rfl) h2a1.1 ?_
      have h2a1a := h2a1.2
      refine eu_iast 124 (n := 352) rfl (by decide) rfl (fun _ => rfl) h2a1a.1 ?_
      have h2a1aa := h2a1a.2
      refine ev_seg (σ1 := (d, 231, 2, [some (.inr (.inr 86)), some (.inl x1), some (.inl (w32 (x2 + 1)))], [], (am_sh, am_mm (am_upd U 124 x2.toNat (U 124 x2.toNat))))) 2 (fun _ => rfl) ?_
      exact h2a1aa
    · have h2a2 := h2a.2 hc
      refine ev_seg (σ1 := (d, 231, 37, [some (.inr (.inr 86)), some (.inl x1), some (.inl x2)], [.inl (-1), .inl x2, .inr (.inr 124)], (am_sh, am_mm U))) 2 (fun _ => rfl) ?_
      refine eu_iast 124 (n := 352) rfl (by decide) rfl (fun _ => rfl) h2a2.1 ?_
      have h2a2a := h2a2.2
      refine ev_seg (σ1 := (d, 231, 2, [some (.inr (.inr 86)), some (.inl x1), some (.inl (w32 (x2 + 1)))], [], (am_sh, am_mm (am_upd U 124 x2.toNat (-1))))) 2 (fun _ => rfl) ?_
      exact h2a2a
set_option maxRecDepth 8000 in
theorem st235_52_0 (N : Nat) (X : Nat → Int) (d : Nat) (U : Nat → Nat → Int) (R : Option am_V × am_M) (h : ((((U 52 8) = 0 : Prop)) → ∃ U1 : Nat → Nat → Int, Ev (am_kz N X) (d, 281, 0, [some (.inr (.inr 52)), none, none], [], (am_sh, am_mm (am_upd U 52 8 1))) (none, (am_sh, am_mm U1)) ∧ ∃ U2 : Nat → Nat → Int, Ev (am_kz N X) (d, 282, 0, [some (.inr (.inr 52)), none, none, none, none, none, none, none], [], (am_sh, am_mm (am_upd U1 52 6 (if 0 < (w32 ((U1 16 0) - 12)) then (w32 ((U1 16 0) - 12)) else 0)))) (none, (am_sh, am_mm U2)) ∧ ∃ U3 : Nat → Nat → Int, Ev (am_kz N X) (d, 211, 0, [some (.inr (.inr 54)), some (.inl 20), none, none], [], (am_sh, am_mm (am_upd U2 52 7 (-1)))) (none, (am_sh, am_mm U3)) ∧ ∃ U4 : Nat → Nat → Int, Ev (am_kz N X) (d, 283, 0, [some (.inr (.inr 52)), some (.inl 0), some (.inl (w32 ((am_shl 1 (U3 16 0)) - 1))), some (.inl 0), none, none], [], (am_sh, am_mm U3)) (none, (am_sh, am_mm U4)) ∧ ∃ U5 : Nat → Nat → Int, Ev (am_kz N X) (d, 284, 0, [some (.inr (.inr 52)), none, none, none], [], (am_sh, am_mm U4)) (none, (am_sh, am_mm U5)) ∧ R = (none, (am_sh, am_mm U5))) ∧ (¬ ((U 52 8) = 0) → R = (none, (am_sh, am_mm U)))) : Ev (am_kz N X) ((d + 1), 235, 0, [some (.inr (.inr 52))], [], (am_sh, am_mm U)) R := by
  refine ev_br (P := (U 52 8) = 0) (σ1 := ((d + 1), 235, 8, [some (.inr (.inr 52))], [], (am_sh, am_mm U))) (σ2 := ((d + 1), 235, 7, [some (.inr (.inr 52))], [], (am_sh, am_mm U))) 3 (fun _ => rfl) (fun hc => ?_) (fun hc => ?_)
  · have h1 := h.1 hc
    refine ev_seg (σ1 := ((d + 1), 235, 10, [some (.inr (.inr 52))], [.inl 1, .inr (.inr 52)], (am_sh, am_mm U))) 2 (fun _ => rfl) ?_
    refine eu_putz 52 (n := 9) rfl (by decide) rfl rfl (by decide) ?_
    refine ev_seg (σ1 := ((d + 1), 235, 14, [some (.inr (.inr 52))], [.inr (.inr 52)], (am_sh, am_mm (am_upd U 52 8 1)))) 1 (fun _ => rfl) ?_
    obtain ⟨U1, h1c, h1a⟩ := h1
    refine ev_cal (σc := (d, 281, 0, [some (.inr (.inr 52)), none, none], [], (am_sh, am_mm (am_upd U 52 8 1)))) (fun _ => rfl) h1c ?_
    show Ev (am_kz N X) ((d + 1), 235, 17, [some (.inr (.inr 52))], [], (am_sh, am_mm U1)) R
    refine ev_seg (σ1 := ((d + 1), 235, 32, [some (.inr (.inr 52))], [.inl (if 0 < (w32 ((U1 16 0) - 12)) then (w32 ((U1 16 0) - 12)) else 0), .inr (.inr 52)], (am_sh, am_mm U1))) 8 (fun _ => rfl) ?_
    refine eu_puti 52 (n := 9) rfl (by decide) rfl rfl ?_
    refine ev_seg (σ1 := ((d + 1), 235, 36, [some (.inr (.inr 52))], [.inr (.inr 52)], (am_sh, am_mm (am_upd U1 52 6 (if 0 < (w32 ((U1 16 0) - 12)) then (w32 ((U1 16 0) - 12)) else 0))))) 1 (fun _ => rfl) ?_
    obtain ⟨U2, h1ac, h1aa⟩ := h1a
    refine ev_cal (σc := (d, 282, 0, [some (.inr (.inr 52)), none, none, none, none, none, none, none], [], (am_sh, am_mm (am_upd U1 52 6 (if 0 < (w32 ((U1 16 0) - 12)) then (w32 ((U1 16 0) - 12)) else 0))))) (fun _ => rfl) h1ac ?_
    show Ev (am_kz N X) ((d + 1), 235, 39, [some (.inr (.inr 52))], [], (am_sh, am_mm U2)) R
    refine ev_seg (σ1 := ((d + 1), 235, 41, [some (.inr (.inr 52))], [.inl (-1), .inr (.inr 52)], (am_sh, am_mm U2))) 2 (fun _ => rfl) ?_
    refine eu_puti 52 (n := 9) rfl (by decide) rfl rfl ?_
    refine ev_seg (σ1 := ((d + 1), 235, 50, [some (.inr (.inr 52))], [.inl 20, .inr (.inr 54)], (am_sh, am_mm (am_upd U2 52 7 (-1))))) 3 (fun _ => rfl) ?_
    obtain ⟨U3, h1aac, h1aaa⟩ := h1aa
    refine ev_cal (σc := (d, 211, 0, [some (.inr (.inr 54)), some (.inl 20), none, none], [], (am_sh, am_mm (am_upd U2 52 7 (-1))))) (fun _ => rfl) h1aac ?_
    show Ev (am_kz N X) ((d + 1), 235, 53, [some (.inr (.inr 52))], [], (am_sh, am_mm U3)) R
    refine ev_seg (σ1 := ((d + 1), 235, 67, [some (.inr (.inr 52))], [.inl 0, .inl (w32 ((am_shl 1 (U3 16 0)) - 1)), .inl 0, .inr (.inr 52)], (am_sh, am_mm U3))) 10 (fun _ => rfl) ?_
    obtain ⟨U4, h1aaac, h1aaaa⟩ := h1aaa
    refine ev_cal (σc := (d, 283, 0, [some (.inr (.inr 52)), some (.inl 0), some (.inl (w32 ((am_shl 1 (U3 16 0)) - 1))), some (.inl 0), none, none], [], (am_sh, am_mm U3))) (fun _ => rfl) h1aaac ?_
    show Ev (am_kz N X) ((d + 1), 235, 70, [some (.inr (.inr 52))], [], (am_sh, am_mm U4)) R
    refine ev_seg (σ1 := ((d + 1), 235, 71, [some (.inr (.inr 52))], [.inr (.inr 52)], (am_sh, am_mm U4))) 1 (fun _ => rfl) ?_
    obtain ⟨U5, h1aaaac, h1aaaaa⟩ := h1aaaa
    refine ev_cal (σc := (d, 284, 0, [some (.inr (.inr 52)), none, none, none], [], (am_sh, am_mm U4))) (fun _ => rfl) h1aaaac ?_
    show Ev (am_kz N X) ((d + 1), 235, 74, [some (.inr (.inr 52))], [], (am_sh, am_mm U5)) R
    subst h1aaaaa
    exact ev_end 1 (fun _ => rfl)
  · have h2 := h.2 hc
    subst h2
    exact ev_end 1 (fun _ => rfl)
set_option maxRecDepth 8000 in
theorem st236_86_0 (N : Nat) (X : Nat → Int) (d : Nat) (x1 x2 : Int) (U : Nat → Nat → Int) (R : Option am_V × am_M) (h : (0 ≤ x2 ∧ x2 < 352) ∧ (0 ≤ (U 86 13) ∧ (U 86 13) < 2) ∧ (0 ≤ (U 86 13) ∧ (U 86 13) < 2) ∧ ∃ (r1 : Int) (U1 : Nat → Nat → Int), Ev (am_kz N X) (d, 135, 0, [some (.inr (.inr 86)), some (.inl 0), some (.inl x1), some (.inr (.inl (U 123 x2.toNat))), none, some (.inl (U 104 (U 86 13).toNat)), some (.inl (U 105 (U 86 13).toNat))], [], (am_sh, am_mm U)) (some (.inl r1), (am_sh, am_mm U1)) ∧ (((r1 = 0 : Prop)) → R = (some (.inl 0), (am_sh, am_mm U1))) ∧ (¬ (r1 = 0) → (0 ≤ x1 ∧ x1 < 352) ∧ (0 ≤ (U1 86 13) ∧ (U1 86 13) < 2) ∧ (0 ≤ (U1 86 13) ∧ (U1 86 13) < 2) ∧ ∃ (r2 : Int) (U2 : Nat → Nat → Int), Ev (am_kz N X) (d, 135, 0, [some (.inr (.inr 86)), some (.inl 0), some (.inl x2), some (.inr (.inl (U1 123 x1.toNat))), none, some (.inl (U1 104 (U1 86 13).toNat)), some (.inl (U1 105 (U1 86 13).toNat))], [], (am_sh, am_mm U1)) (some (.inl r2), (am_sh, am_mm U2)) ∧ (((r2 = 0 : Prop)) → R = (some (.inl 0), (am_sh, am_mm U2))) ∧ (¬ (r2 = 0) → R = (some (.inl 1), (am_sh, am_mm U2))))) : Ev (am_kz N X) ((d + 1), 236, 0, [some (.inr (.inr 86)), some (.inl x1), some (.inl x2)], [], (am_sh, am_mm U)) R := by
  refine ev_seg (σ1 := ((d + 1), 236, 8, [some (.inr (.inr 86)), some (.inl x1), some (.inl x2)], [.inl x2, .inr (.inr 123), .inl x1, .inl 0, .inr (.inr 86)], (am_sh, am_mm U))) 6 (fun _ => rfl) ?_
  refine eu_iald 123 (n := 352) rfl (by decide) rfl (fun _ => rfl) h.1 ?_
  have ha := h.2
  refine ev_seg (σ1 := ((d + 1), 236, 18, [some (.inr (.inr 86)), some (.inl x1), some (.inl x2)], [.inl (U 86 13), .inr (.inr 104), .inr (.inl (U 123 x2.toNat)), .inl x1, .inl 0, .inr (.inr 86)], (am_sh, am_mm U))) 5 (fun _ => rfl) ?_
  refine eu_iald 104 (n := 2) rfl (by decide) rfl (fun _ => rfl) ha.1 ?_
  have haa := ha.2
  refine ev_seg (σ1 := ((d + 1), 236, 27, [some (.inr (.inr 86)), some (.inl x1), some (.inl x2)], [.inl (U 86 13), .inr (.inr 105), .inl (U 104 (U 86 13).toNat), .inr (.inl (U 123 x2.toNat)), .inl x1, .inl 0, .inr (.inr 86)], (am_sh, am_mm U))) 4 (fun _ => rfl) ?_
  refine eu_iald 105 (n := 2) rfl (by decide) rfl (fun _ => rfl) haa.1 ?_
  have haaa := haa.2
  obtain ⟨r1, U1, haaac, haaaa⟩ := haaa
  refine ev_cal (σc := (d, 135, 0, [some (.inr (.inr 86)), some (.inl 0), some (.inl x1), some (.inr (.inl (U 123 x2.toNat))), none, some (.inl (U 104 (U 86 13).toNat)), some (.inl (U 105 (U 86 13).toNat))], [], (am_sh, am_mm U))) (fun _ => rfl) haaac ?_
  show Ev (am_kz N X) ((d + 1), 236, 31, [some (.inr (.inr 86)), some (.inl x1), some (.inl x2)], [.inl r1], (am_sh, am_mm U1)) R
  refine ev_br (P := r1 = 0) (σ1 := ((d + 1), 236, 72, [some (.inr (.inr 86)), some (.inl x1), some (.inl x2)], [], (am_sh, am_mm U1))) (σ2 := ((d + 1), 236, 34, [some (.inr (.inr 86)), some (.inl x1), some (.inl x2)], [], (am_sh, am_mm U1))) 1 (fun _ => rfl) (fun hc => ?_) (fun hc => ?_)
  · have haaaa1 := haaaa.1 hc
    subst haaaa1
    exact ev_end 2 (fun _ => rfl)
  · have haaaa2 := haaaa.2 hc
    refine ev_seg (σ1 := ((d + 1), 236, 42, [some (.inr (.inr 86)), some (.inl x1), some (.inl x2)], [.inl x1, .inr (.inr 123), .inl x2, .inl 0, .inr (.inr 86)], (am_sh, am_mm U1))) 6 (fun _ => rfl) ?_
    refine eu_iald 123 (n := 352) rfl (by decide) rfl (fun _ => rfl) haaaa2.1 ?_
    have haaaa2a := haaaa2.2
    refine ev_seg (σ1 := ((d + 1), 236, 52, [some (.inr (.inr 86)), some (.inl x1), some (.inl x2)], [.inl (U1 86 13), .inr (.inr 104), .inr (.inl (U1 123 x1.toNat)), .inl x2, .inl 0, .inr (.inr 86)], (am_sh, am_mm U1))) 5 (fun _ => rfl) ?_
    refine eu_iald 104 (n := 2) rfl (by decide) rfl (fun _ => rfl) haaaa2a.1 ?_
    have haaaa2aa := haaaa2a.2
    refine ev_seg (σ1 := ((d + 1), 236, 61, [some (.inr (.inr 86)), some (.inl x1), some (.inl x2)], [.inl (U1 86 13), .inr (.inr 105), .inl (U1 104 (U1 86 13).toNat), .inr (.inl (U1 123 x1.toNat)), .inl x2, .inl 0, .inr (.inr 86)], (am_sh, am_mm U1))) 4 (fun _ => rfl) ?_
    refine eu_iald 105 (n := 2) rfl (by decide) rfl (fun _ => rfl) haaaa2aa.1 ?_
    have haaaa2aaa := haaaa2aa.2
    obtain ⟨r2, U2, haaaa2aaac, haaaa2aaaa⟩ := haaaa2aaa
    refine ev_cal (σc := (d, 135, 0, [some (.inr (.inr 86)), some (.inl 0), some (.inl x2), some (.inr (.inl (U1 123 x1.toNat))), none, some (.inl (U1 104 (U1 86 13).toNat)), some (.inl (U1 105 (U1 86 13).toNat))], [], (am_sh, am_mm U1))) (fun _ => rfl) haaaa2aaac ?_
    show Ev (am_kz N X) ((d + 1), 236, 65, [some (.inr (.inr 86)), some (.inl x1), some (.inl x2)], [.inl r2], (am_sh, am_mm U2)) R
    refine ev_br (P := r2 = 0) (σ1 := ((d + 1), 236, 72, [some (.inr (.inr 86)), some (.inl x1), some (.inl x2)], [], (am_sh, am_mm U2))) (σ2 := ((d + 1), 236, 68, [some (.inr (.inr 86)), some (.inl x1), some (.inl x2)], [], (am_sh, am_mm U2))) 1 (fun _ => rfl) (fun hc => ?_) (fun hc => ?_)
    · have haaaa2aaaa1 := haaaa2aaaa.1 hc
      subst haaaa2aaaa1
      exact ev_end 2 (fun _ => rfl)
    · have haaaa2aaaa2 := haaaa2aaaa.2 hc
      subst haaaa2aaaa2
      exact ev_end 3 (fun _ => rfl)
set_option maxRecDepth 8000 in
theorem st237_0 (N : Nat) (X : Nat → Int) (d : Nat) (x0 : Int) (U : Nat → Nat → Int) (R : Option am_V × am_M) (h : Ev (am_kz N X) (d, 237, 2, [some (.inl x0), some (.inl 0)], [], (am_sh, am_mm U)) R) : Ev (am_kz N X) (d, 237, 0, [some (.inl x0), none], [], (am_sh, am_mm U)) R := by
  refine ev_seg (σ1 := (d, 237, 2, [some (.inl x0), some (.inl 0)], [], (am_sh, am_mm U))) 2 (fun _ => rfl) ?_
  exact h
set_option maxRecDepth 8000 in
theorem st237_2 (N : Nat) (X : Nat → Int) (d : Nat) (x0 x1 : Int) (U : Nat → Nat → Int) (R : Option am_V × am_M) (h : (((¬ (am_and (am_shr x0 x1) 1) = 0 : Prop)) → R = (some (.inl x1), (am_sh, am_mm U))) ∧ (¬ (¬ (am_and (am_shr x0 x1) 1) = 0) → Ev (am_kz N X) (d, 237, 2, [some (.inl x0), some (.inl (w32 (x1 + 1)))], [], (am_sh, am_mm U)) R)) : Ev (am_kz N X) (d, 237, 2, [some (.inl x0), some (.inl x1)], [], (am_sh, am_mm U)) R := by
  refine ev_br (P := ¬ (am_and (am_shr x0 x1) 1) = 0) (σ1 := (d, 237, 16, [some (.inl x0), some (.inl x1)], [], (am_sh, am_mm U))) (σ2 := (d, 237, 10, [some (.inl x0), some (.inl x1)], [], (am_sh, am_mm U))) 6 (fun _ => rfl) (fun hc => ?_) (fun hc => ?_)
  · have h1 := h.1 hc
    subst h1
    exact ev_end 2 (fun _ => rfl)
  · have h2 := h.2 hc
    refine ev_seg (σ1 := (d, 237, 2, [some (.inl x0), some (.inl (w32 (x1 + 1)))], [], (am_sh, am_mm U))) 2 (fun _ => rfl) ?_
    exact h2
set_option maxRecDepth 8000 in
theorem st211_83_0 (N : Nat) (X : Nat → Int) (d : Nat) (x1 : Int) (U : Nat → Nat → Int) (R : Option am_V × am_M) (h : Ev (am_kz N X) (d, 211, 5, [some (.inr (.inr 83)), some (.inl x1), some (.inl 0), some (.inl 64)], [], (am_sh, am_mm U)) R) : Ev (am_kz N X) (d, 211, 0, [some (.inr (.inr 83)), some (.inl x1), none, none], [], (am_sh, am_mm U)) R := by
  refine ev_seg (σ1 := (d, 211, 5, [some (.inr (.inr 83)), some (.inl x1), some (.inl 0), some (.inl 64)], [], (am_sh, am_mm U))) 5 (fun _ => rfl) ?_
  exact h
set_option maxRecDepth 8000 in
theorem st211_83_5 (N : Nat) (X : Nat → Int) (d : Nat) (x1 x2 x3 : Int) (U : Nat → Nat → Int) (R : Option am_V × am_M) (h : (((x3 ≤ x2 : Prop)) → R = (none, (am_sh, am_mm U))) ∧ (¬ (x3 ≤ x2) → (0 ≤ x2 ∧ x2 < 64) ∧ Ev (am_kz N X) (d, 211, 5, [some (.inr (.inr 83)), some (.inl x1), some (.inl (w32 (x2 + 1))), some (.inl x3)], [], (am_sh, am_mm (am_upd U 83 x2.toNat x1))) R)) : Ev (am_kz N X) (d, 211, 5, [some (.inr (.inr 83)), some (.inl x1), some (.inl x2), some (.inl x3)], [], (am_sh, am_mm U)) R := by
  refine ev_br (P := x3 ≤ x2) (σ1 := (d, 211, 20, [some (.inr (.inr 83)), some (.inl x1), some (.inl x2), some (.inl x3)], [], (am_sh, am_mm U))) (σ2 := (d, 211, 10, [some (.inr (.inr 83)), some (.inl x1), some (.inl x2), some (.inl x3)], [], (am_sh, am_mm U))) 3 (fun _ => rfl) (fun hc => ?_) (fun hc => ?_)
  · have h1 := h.1 hc
    subst h1
    exact ev_end 1 (fun _ => rfl)
  · have h2 := h.2 hc
    refine ev_seg (σ1 := (d, 211, 13, [some (.inr (.inr 83)), some (.inl x1), some (.inl x2), some (.inl x3)], [.inl x1, .inl x2, .inr (.inr 83)], (am_sh, am_mm U))) 3 (fun _ => rfl) ?_
    refine eu_iast 83 (n := 64) rfl (by decide) rfl (fun _ => rfl) h2.1 ?_
    have h2a := h2.2
    refine ev_seg (σ1 := (d, 211, 5, [some (.inr (.inr 83)), some (.inl x1), some (.inl (w32 (x2 + 1))), some (.inl x3)], [], (am_sh, am_mm (am_upd U 83 x2.toNat x1)))) 2 (fun _ => rfl) ?_
    exact h2a
set_option maxRecDepth 8000 in
theorem st238_86_0 (N : Nat) (X : Nat → Int) (d : Nat) (x1 x2 : Int) (U : Nat → Nat → Int) (R : Option am_V × am_M) (h : ∃ (r1 : Int) (U1 : Nat → Nat → Int), Ev (am_kz N X) (d, 121, 0, [some (.inr (.inr 86)), some (.inl x1)], [], (am_sh, am_mm U)) (some (.inr (.inl r1)), (am_sh, am_mm U1)) ∧ ∃ (r2 : Int) (U2 : Nat → Nat → Int), Ev (am_kz N X) (d, 121, 0, [some (.inr (.inr 86)), some (.inl x2)], [], (am_sh, am_mm U1)) (some (.inr (.inl r2)), (am_sh, am_mm U2)) ∧ ((((am_lcmp r1 r2) = 0 : Prop)) → R = (some (.inl 0), (am_sh, am_mm U2))) ∧ (¬ ((am_lcmp r1 r2) = 0) → ∃ (r3 : Int) (U3 : Nat → Nat → Int), Ev (am_kz N X) (d, 121, 0, [some (.inr (.inr 86)), some (.inl x1)], [], (am_sh, am_mm U2)) (some (.inr (.inl r3)), (am_sh, am_mm U3)) ∧ ∃ (r4 : Int) (U4 : Nat → Nat → Int), Ev (am_kz N X) (d, 123, 0, [some (.inr (.inl r3)), none, none, none, none, none], [], (am_sh, am_mm U3)) (some (.inr (.inl r4)), (am_sh, am_mm U4)) ∧ ∃ (r5 : Int) (U5 : Nat → Nat → Int), Ev (am_kz N X) (d, 121, 0, [some (.inr (.inr 86)), some (.inl x2)], [], (am_sh, am_mm U4)) (some (.inr (.inl r5)), (am_sh, am_mm U5)) ∧ (((¬ (am_lcmp r4 r5) = 0 : Prop)) → R = (some (.inl 0), (am_sh, am_mm U5))) ∧ (¬ (¬ (am_lcmp r4 r5) = 0) → ∃ (r6 : Int) (U6 : Nat → Nat → Int), Ev (am_kz N X) (d, 121, 0, [some (.inr (.inr 86)), some (.inl x2)], [], (am_sh, am_mm U5)) (some (.inr (.inl r6)), (am_sh, am_mm U6)) ∧ ∃ (r7 : Int) (U7 : Nat → Nat → Int), Ev (am_kz N X) (d, 123, 0, [some (.inr (.inl r6)), none, none, none, none, none], [], (am_sh, am_mm U6)) (some (.inr (.inl r7)), (am_sh, am_mm U7)) ∧ ∃ (r8 : Int) (U8 : Nat → Nat → Int), Ev (am_kz N X) (d, 121, 0, [some (.inr (.inr 86)), some (.inl x1)], [], (am_sh, am_mm U7)) (some (.inr (.inl r8)), (am_sh, am_mm U8)) ∧ (((¬ (am_lcmp r7 r8) = 0 : Prop)) → R = (some (.inl 0), (am_sh, am_mm U8))) ∧ (¬ (¬ (am_lcmp r7 r8) = 0) → R = (some (.inl 1), (am_sh, am_mm U8)))))) : Ev (am_kz N X) ((d + 1), 238, 0, [some (.inr (.inr 86)), some (.inl x1), some (.inl x2)], [], (am_sh, am_mm U)) R := by
  refine ev_seg (σ1 := ((d + 1), 238, 2, [some (.inr (.inr 86)), some (.inl x1), some (.inl x2)], [.inl x1, .inr (.inr 86)], (am_sh, am_mm U))) 2 (fun _ => rfl) ?_
  obtain ⟨r1, U1, hc, ha⟩ := h
  refine ev_cal (σc := (d, 121, 0, [some (.inr (.inr 86)), some (.inl x1)], [], (am_sh, am_mm U))) (fun _ => rfl) hc ?_
  show Ev (am_kz N X) ((d + 1), 238, 5, [some (.inr (.inr 86)), some (.inl x1), some (.inl x2)], [.inr (.inl r1)], (am_sh, am_mm U1)) R
  refine ev_seg (σ1 := ((d + 1), 238, 7, [some (.inr (.inr 86)), some (.inl x1), some (.inl x2)], [.inl x2, .inr (.inr 86), .inr (.inl r1)], (am_sh, am_mm U1))) 2 (fun _ => rfl) ?_
  obtain ⟨r2, U2, hac, haa⟩ := ha
  refine ev_cal (σc := (d, 121, 0, [some (.inr (.inr 86)), some (.inl x2)], [], (am_sh, am_mm U1))) (fun _ => rfl) hac ?_
  show Ev (am_kz N X) ((d + 1), 238, 10, [some (.inr (.inr 86)), some (.inl x1), some (.inl x2)], [.inr (.inl r2), .inr (.inl r1)], (am_sh, am_mm U2)) R
  refine ev_br (P := (am_lcmp r1 r2) = 0) (σ1 := ((d + 1), 238, 52, [some (.inr (.inr 86)), some (.inl x1), some (.inl x2)], [], (am_sh, am_mm U2))) (σ2 := ((d + 1), 238, 14, [some (.inr (.inr 86)), some (.inl x1), some (.inl x2)], [], (am_sh, am_mm U2))) 2 (fun _ => rfl) (fun hc => ?_) (fun hc => ?_)
  · have haa1 := haa.1 hc
    subst haa1
    exact ev_end 2 (fun _ => rfl)
  · have haa2 := haa.2 hc
    refine ev_seg (σ1 := ((d + 1), 238, 16, [some (.inr (.inr 86)), some (.inl x1), some (.inl x2)], [.inl x1, .inr (.inr 86)], (am_sh, am_mm U2))) 2 (fun _ => rfl) ?_
    obtain ⟨r3, U3, haa2c, haa2a⟩ := haa2
    refine ev_cal (σc := (d, 121, 0, [some (.inr (.inr 86)), some (.inl x1)], [], (am_sh, am_mm U2))) (fun _ => rfl) haa2c ?_
    show Ev (am_kz N X) ((d + 1), 238, 19, [some (.inr (.inr 86)), some (.inl x1), some (.inl x2)], [.inr (.inl r3)], (am_sh, am_mm U3)) R
    obtain ⟨r4, U4, haa2ac, haa2aa⟩ := haa2a
    refine ev_cal (σc := (d, 123, 0, [some (.inr (.inl r3)), none, none, none, none, none], [], (am_sh, am_mm U3))) (fun _ => rfl) haa2ac ?_
    show Ev (am_kz N X) ((d + 1), 238, 22, [some (.inr (.inr 86)), some (.inl x1), some (.inl x2)], [.inr (.inl r4)], (am_sh, am_mm U4)) R
    refine ev_seg (σ1 := ((d + 1), 238, 24, [some (.inr (.inr 86)), some (.inl x1), some (.inl x2)], [.inl x2, .inr (.inr 86), .inr (.inl r4)], (am_sh, am_mm U4))) 2 (fun _ => rfl) ?_
    obtain ⟨r5, U5, haa2aac, haa2aaa⟩ := haa2aa
    refine ev_cal (σc := (d, 121, 0, [some (.inr (.inr 86)), some (.inl x2)], [], (am_sh, am_mm U4))) (fun _ => rfl) haa2aac ?_
    show Ev (am_kz N X) ((d + 1), 238, 27, [some (.inr (.inr 86)), some (.inl x1), some (.inl x2)], [.inr (.inl r5), .inr (.inl r4)], (am_sh, am_mm U5)) R
    refine ev_br (P := ¬ (am_lcmp r4 r5) = 0) (σ1 := ((d + 1), 238, 52, [some (.inr (.inr 86)), some (.inl x1), some (.inl x2)], [], (am_sh, am_mm U5))) (σ2 := ((d + 1), 238, 31, [some (.inr (.inr 86)), some (.inl x1), some (.inl x2)], [], (am_sh, am_mm U5))) 2 (fun _ => rfl) (fun hc => ?_) (fun hc => ?_)
    · have haa2aaa1 := haa2aaa.1 hc
      subst haa2aaa1
      exact ev_end 2 (fun _ => rfl)
    · have haa2aaa2 := haa2aaa.2 hc
      refine ev_seg (σ1 := ((d + 1), 238, 33, [some (.inr (.inr 86)), some (.inl x1), some (.inl x2)], [.inl x2, .inr (.inr 86)], (am_sh, am_mm U5))) 2 (fun _ => rfl) ?_
      obtain ⟨r6, U6, haa2aaa2c, haa2aaa2a⟩ := haa2aaa2
      refine ev_cal (σc := (d, 121, 0, [some (.inr (.inr 86)), some (.inl x2)], [], (am_sh, am_mm U5))) (fun _ => rfl) haa2aaa2c ?_
      show Ev (am_kz N X) ((d + 1), 238, 36, [some (.inr (.inr 86)), some (.inl x1), some (.inl x2)], [.inr (.inl r6)], (am_sh, am_mm U6)) R
      obtain ⟨r7, U7, haa2aaa2ac, haa2aaa2aa⟩ := haa2aaa2a
      refine ev_cal (σc := (d, 123, 0, [some (.inr (.inl r6)), none, none, none, none, none], [], (am_sh, am_mm U6))) (fun _ => rfl) haa2aaa2ac ?_
      show Ev (am_kz N X) ((d + 1), 238, 39, [some (.inr (.inr 86)), some (.inl x1), some (.inl x2)], [.inr (.inl r7)], (am_sh, am_mm U7)) R
      refine ev_seg (σ1 := ((d + 1), 238, 41, [some (.inr (.inr 86)), some (.inl x1), some (.inl x2)], [.inl x1, .inr (.inr 86), .inr (.inl r7)], (am_sh, am_mm U7))) 2 (fun _ => rfl) ?_
      obtain ⟨r8, U8, haa2aaa2aac, haa2aaa2aaa⟩ := haa2aaa2aa
      refine ev_cal (σc := (d, 121, 0, [some (.inr (.inr 86)), some (.inl x1)], [], (am_sh, am_mm U7))) (fun _ => rfl) haa2aaa2aac ?_
      show Ev (am_kz N X) ((d + 1), 238, 44, [some (.inr (.inr 86)), some (.inl x1), some (.inl x2)], [.inr (.inl r8), .inr (.inl r7)], (am_sh, am_mm U8)) R
      refine ev_br (P := ¬ (am_lcmp r7 r8) = 0) (σ1 := ((d + 1), 238, 52, [some (.inr (.inr 86)), some (.inl x1), some (.inl x2)], [], (am_sh, am_mm U8))) (σ2 := ((d + 1), 238, 48, [some (.inr (.inr 86)), some (.inl x1), some (.inl x2)], [], (am_sh, am_mm U8))) 2 (fun _ => rfl) (fun hc => ?_) (fun hc => ?_)
      · have haa2aaa2aaa1 := haa2aaa2aaa.1 hc
        subst haa2aaa2aaa1
        exact ev_end 2 (fun _ => rfl)
      · have haa2aaa2aaa2 := haa2aaa2aaa.2 hc
        subst haa2aaa2aaa2
        exact ev_end 3 (fun _ => rfl)
set_option maxRecDepth 8000 in
theorem st239_82_0 (N : Nat) (X : Nat → Int) (d : Nat) (x1 : Int) (U : Nat → Nat → Int) (R : Option am_V × am_M) (h : Ev (am_kz N X) ((d + 1), 239, 10, [some (.inr (.inr 82)), some (.inl x1), some (.inl x1), some (.inl 0), some (.inl 0), some (.inl 0), none], [], (am_sh, am_mm U)) R) : Ev (am_kz N X) ((d + 1), 239, 0, [some (.inr (.inr 82)), some (.inl x1), none, none, none, none, none], [], (am_sh, am_mm U)) R := by
  refine ev_seg (σ1 := ((d + 1), 239, 10, [some (.inr (.inr 82)), some (.inl x1), some (.inl x1), some (.inl 0), some (.inl 0), some (.inl 0), none], [], (am_sh, am_mm U))) 8 (fun _ => rfl) ?_
  exact h
set_option maxRecDepth 8000 in
theorem st239_82_10 (N : Nat) (X : Nat → Int) (d : Nat) (x1 x2 x3 x4 x5 : Int) (U : Nat → Nat → Int) (R : Option am_V × am_M) (h : (((64 ≤ x5 : Prop)) → R = (none, (am_sh, am_mm U))) ∧ (¬ (64 ≤ x5) → ((((w32 (x2 + x3)) ≤ 0 : Prop)) → R = (none, (am_sh, am_mm U))) ∧ (¬ ((w32 (x2 + x3)) ≤ 0) → (0 ≤ x5 ∧ x5 < 64) ∧ ((((w32 ((w32 ((U 83 x5.toNat) + (Int.tmod x2 10))) + x3)) < 10 : Prop)) → (0 ≤ x5 ∧ x5 < 64) ∧ (((¬ 0 = 1 : Prop)) → Ev (am_kz N X) ((d + 1), 239, 10, [some (.inr (.inr 82)), some (.inl x1), some (.inl (w32 (Int.tdiv x2 10))), some (.inl 0), some (.inl 0), some (.inl (w32 (x5 + 1))), some (.inl (w32 ((w32 ((U 83 x5.toNat) + (Int.tmod x2 10))) + x3)))], [], (am_sh, am_mm (am_upd (am_upd (am_upd (am_upd U 83 x5.toNat (w32 ((w32 ((w32 ((U 83 x5.toNat) + (Int.tmod x2 10))) + x3)) - (w32 (10 * 0))))) 82 2 (w32 (((am_upd U 83 x5.toNat (w32 ((w32 ((w32 ((U 83 x5.toNat) + (Int.tmod x2 10))) + x3)) - (w32 (10 * 0))))) 82 2) + 0))) 82 3 (if ((am_upd (am_upd U 83 x5.toNat (w32 ((w32 ((w32 ((U 83 x5.toNat) + (Int.tmod x2 10))) + x3)) - (w32 (10 * 0))))) 82 2 (w32 (((am_upd U 83 x5.toNat (w32 ((w32 ((w32 ((U 83 x5.toNat) + (Int.tmod x2 10))) + x3)) - (w32 (10 * 0))))) 82 2) + 0))) 82 3) < 0 then 0 else ((am_upd (am_upd U 83 x5.toNat (w32 ((w32 ((w32 ((U 83 x5.toNat) + (Int.tmod x2 10))) + x3)) - (w32 (10 * 0))))) 82 2 (w32 (((am_upd U 83 x5.toNat (w32 ((w32 ((w32 ((U 83 x5.toNat) + (Int.tmod x2 10))) + x3)) - (w32 (10 * 0))))) 82 2) + 0))) 82 3))) 82 1 (if ((am_upd (am_upd (am_upd U 83 x5.toNat (w32 ((w32 ((w32 ((U 83 x5.toNat) + (Int.tmod x2 10))) + x3)) - (w32 (10 * 0))))) 82 2 (w32 (((am_upd U 83 x5.toNat (w32 ((w32 ((w32 ((U 83 x5.toNat) + (Int.tmod x2 10))) + x3)) - (w32 (10 * 0))))) 82 2) + 0))) 82 3 (if ((am_upd (am_upd U 83 x5.toNat (w32 ((w32 ((w32 ((U 83 x5.toNat) + (Int.tmod x2 10))) + x3)) - (w32 (10 * 0))))) 82 2 (w32 (((am_upd U 83 x5.toNat (w32 ((w32 ((w32 ((U 83 x5.toNat) + (Int.tmod x2 10))) + x3)) - (w32 (10 * 0))))) 82 2) + 0))) 82 3) < 0 then 0 else ((am_upd (am_upd U 83 x5.toNat (w32 ((w32 ((w32 ((U 83 x5.toNat) + (Int.tmod x2 10))) + x3)) - (w32 (10 * 0))))) 82 2 (w32 (((am_upd U 83 x5.toNat (w32 ((w32 ((w32 ((U 83 x5.toNat) + (Int.tmod x2 10))) + x3)) - (w32 (10 * 0))))) 82 2) + 0))) 82 3))) 82 1) < (w32 (x5 + 1)) then (w32 (x5 + 1)) else ((am_upd (am_upd (am_upd U 83 x5.toNat (w32 ((w32 ((w32 ((U 83 x5.toNat) + (Int.tmod x2 10))) + x3)) - (w32 (10 * 0))))) 82 2 (w32 (((am_upd U 83 x5.toNat (w32 ((w32 ((w32 ((U 83 x5.toNat) + (Int.tmod x2 10))) + x3)) - (w32 (10 * 0))))) 82 2) + 0))) 82 3 (if ((am_upd (am_upd U 83 x5.toNat (w32 ((w32 ((w32 ((U 83 x5.toNat) + (Int.tmod x2 10))) + x3)) - (w32 (10 * 0))))) 82 2 (w32 (((am_upd U 83 x5.toNat (w32 ((w32 ((w32 ((U 83 x5.toNat) + (Int.tmod x2 10))) + x3)) - (w32 (10 * 0))))) 82 2) + 0))) 82 3) < 0 then 0 else ((am_upd (am_upd U 83 x5.toNat (w32 ((w32 ((w32 ((U 83 x5.toNat) + (Int.tmod x2 10))) + x3)) - (w32 (10 * 0))))) 82 2 (w32 (((am_upd U 83 x5.toNat (w32 ((w32 ((w32 ((U 83 x5.toNat) + (Int.tmod x2 10))) + x3)) - (w32 (10 * 0))))) 82 2) + 0))) 82 3))) 82 1))))) R) ∧ (¬ (¬ 0 = 1) → Ev (am_kz N X) ((d + 1), 239, 10, [some (.inr (.inr 82)), some (.inl x1), some (.inl (w32 (Int.tdiv x2 10))), some (.inl 0), some (.inl (w32 (x4 + 1))), some (.inl (w32 (x5 + 1))), some (.inl (w32 ((w32 ((U 83 x5.toNat) + (Int.tmod x2 10))) + x3)))], [], (am_sh, am_mm (am_upd (am_upd (am_upd (am_upd U 83 x5.toNat (w32 ((w32 ((w32 ((U 83 x5.toNat) + (Int.tmod x2 10))) + x3)) - (w32 (10 * 0))))) 82 2 (w32 (((am_upd U 83 x5.toNat (w32 ((w32 ((w32 ((U 83 x5.toNat) + (Int.tmod x2 10))) + x3)) - (w32 (10 * 0))))) 82 2) + 0))) 82 3 (if ((am_upd (am_upd U 83 x5.toNat (w32 ((w32 ((w32 ((U 83 x5.toNat) + (Int.tmod x2 10))) + x3)) - (w32 (10 * 0))))) 82 2 (w32 (((am_upd U 83 x5.toNat (w32 ((w32 ((w32 ((U 83 x5.toNat) + (Int.tmod x2 10))) + x3)) - (w32 (10 * 0))))) 82 2) + 0))) 82 3) < (w32 (x4 + 1)) then (w32 (x4 + 1)) else ((am_upd (am_upd U 83 x5.toNat (w32 ((w32 ((w32 ((U 83 x5.toNat) + (Int.tmod x2 10))) + x3)) - (w32 (10 * 0))))) 82 2 (w32 (((am_upd U 83 x5.toNat (w32 ((w32 ((w32 ((U 83 x5.toNat) + (Int.tmod x2 10))) + x3)) - (w32 (10 * 0))))) 82 2) + 0))) 82 3))) 82 1 (if ((am_upd (am_upd (am_upd U 83 x5.toNat (w32 ((w32 ((w32 ((U 83 x5.toNat) + (Int.tmod x2 10))) + x3)) - (w32 (10 * 0))))) 82 2 (w32 (((am_upd U 83 x5.toNat (w32 ((w32 ((w32 ((U 83 x5.toNat) + (Int.tmod x2 10))) + x3)) - (w32 (10 * 0))))) 82 2) + 0))) 82 3 (if ((am_upd (am_upd U 83 x5.toNat (w32 ((w32 ((w32 ((U 83 x5.toNat) + (Int.tmod x2 10))) + x3)) - (w32 (10 * 0))))) 82 2 (w32 (((am_upd U 83 x5.toNat (w32 ((w32 ((w32 ((U 83 x5.toNat) + (Int.tmod x2 10))) + x3)) - (w32 (10 * 0))))) 82 2) + 0))) 82 3) < (w32 (x4 + 1)) then (w32 (x4 + 1)) else ((am_upd (am_upd U 83 x5.toNat (w32 ((w32 ((w32 ((U 83 x5.toNat) + (Int.tmod x2 10))) + x3)) - (w32 (10 * 0))))) 82 2 (w32 (((am_upd U 83 x5.toNat (w32 ((w32 ((w32 ((U 83 x5.toNat) + (Int.tmod x2 10))) + x3)) - (w32 (10 * 0))))) 82 2) + 0))) 82 3))) 82 1) < (w32 (x5 + 1)) then (w32 (x5 + 1)) else ((am_upd (am_upd (am_upd U 83 x5.toNat (w32 ((w32 ((w32 ((U 83 x5.toNat) + (Int.tmod x2 10))) + x3)) - (w32 (10 * 0))))) 82 2 (w32 (((am_upd U 83 x5.toNat (w32 ((w32 ((w32 ((U 83 x5.toNat) + (Int.tmod x2 10))) + x3)) - (w32 (10 * 0))))) 82 2) + 0))) 82 3 (if ((am_upd (am_upd U 83 x5.toNat (w32 ((w32 ((w32 ((U 83 x5.toNat) + (Int.tmod x2 10))) + x3)) - (w32 (10 * 0))))) 82 2 (w32 (((am_upd U 83 x5.toNat (w32 ((w32 ((w32 ((U 83 x5.toNat) + (Int.tmod x2 10))) + x3)) - (w32 (10 * 0))))) 82 2) + 0))) 82 3) < (w32 (x4 + 1)) then (w32 (x4 + 1)) else ((am_upd (am_upd U 83 x5.toNat (w32 ((w32 ((w32 ((U 83 x5.toNat) + (Int.tmod x2 10))) + x3)) - (w32 (10 * 0))))) 82 2 (w32 (((am_upd U 83 x5.toNat (w32 ((w32 ((w32 ((U 83 x5.toNat) + (Int.tmod x2 10))) + x3)) - (w32 (10 * 0))))) 82 2) + 0))) 82 3))) 82 1))))) R)) ∧ (¬ ((w32 ((w32 ((U 83 x5.toNat) + (Int.tmod x2 10))) + x3)) < 10) → (0 ≤ x5 ∧ x5 < 64) ∧ (((¬ 1 = 1 : Prop)) → Ev (am_kz N X) ((d + 1), 239, 10, [some (.inr (.inr 82)), some (.inl x1), some (.inl (w32 (Int.tdiv x2 10))), some (.inl 1), some (.inl 0), some (.inl (w32 (x5 + 1))), some (.inl (w32 ((w32 ((U 83 x5.toNat) + (Int.tmod x2 10))) + x3)))], [], (am_sh, am_mm (am_upd (am_upd (am_upd (am_upd U 83 x5.toNat (w32 ((w32 ((w32 ((U 83 x5.toNat) + (Int.tmod x2 10))) + x3)) - (w32 (10 * 1))))) 82 2 (w32 (((am_upd U 83 x5.toNat (w32 ((w32 ((w32 ((U 83 x5.toNat) + (Int.tmod x2 10))) + x3)) - (w32 (10 * 1))))) 82 2) + 1))) 82 3 (if ((am_upd (am_upd U 83 x5.toNat (w32 ((w32 ((w32 ((U 83 x5.toNat) + (Int.tmod x2 10))) + x3)) - (w32 (10 * 1))))) 82 2 (w32 (((am_upd U 83 x5.toNat (w32 ((w32 ((w32 ((U 83 x5.toNat) + (Int.tmod x2 10))) + x3)) - (w32 (10 * 1))))) 82 2) + 1))) 82 3) < 0 then 0 else ((am_upd (am_upd U 83 x5.toNat (w32 ((w32 ((w32 ((U 83 x5.toNat) + (Int.tmod x2 10))) + x3)) - (w32 (10 * 1))))) 82 2 (w32 (((am_upd U 83 x5.toNat (w32 ((w32 ((w32 ((U 83 x5.toNat) + (Int.tmod x2 10))) + x3)) - (w32 (10 * 1))))) 82 2) + 1))) 82 3))) 82 1 (if ((am_upd (am_upd (am_upd U 83 x5.toNat (w32 ((w32 ((w32 ((U 83 x5.toNat) + (Int.tmod x2 10))) + x3)) - (w32 (10 * 1))))) 82 2 (w32 (((am_upd U 83 x5.toNat (w32 ((w32 ((w32 ((U 83 x5.toNat) + (Int.tmod x2 10))) + x3)) - (w32 (10 * 1))))) 82 2) + 1))) 82 3 (if ((am_upd (am_upd U 83 x5.toNat (w32 ((w32 ((w32 ((U 83 x5.toNat) + (Int.tmod x2 10))) + x3)) - (w32 (10 * 1))))) 82 2 (w32 (((am_upd U 83 x5.toNat (w32 ((w32 ((w32 ((U 83 x5.toNat) + (Int.tmod x2 10))) + x3)) - (w32 (10 * 1))))) 82 2) + 1))) 82 3) < 0 then 0 else ((am_upd (am_upd U 83 x5.toNat (w32 ((w32 ((w32 ((U 83 x5.toNat) + (Int.tmod x2 10))) + x3)) - (w32 (10 * 1))))) 82 2 (w32 (((am_upd U 83 x5.toNat (w32 ((w32 ((w32 ((U 83 x5.toNat) + (Int.tmod x2 10))) + x3)) - (w32 (10 * 1))))) 82 2) + 1))) 82 3))) 82 1) < (w32 (x5 + 1)) then (w32 (x5 + 1)) else ((am_upd (am_upd (am_upd U 83 x5.toNat (w32 ((w32 ((w32 ((U 83 x5.toNat) + (Int.tmod x2 10))) + x3)) - (w32 (10 * 1))))) 82 2 (w32 (((am_upd U 83 x5.toNat (w32 ((w32 ((w32 ((U 83 x5.toNat) + (Int.tmod x2 10))) + x3)) - (w32 (10 * 1))))) 82 2) + 1))) 82 3 (if ((am_upd (am_upd U 83 x5.toNat (w32 ((w32 ((w32 ((U 83 x5.toNat) + (Int.tmod x2 10))) + x3)) - (w32 (10 * 1))))) 82 2 (w32 (((am_upd U 83 x5.toNat (w32 ((w32 ((w32 ((U 83 x5.toNat) + (Int.tmod x2 10))) + x3)) - (w32 (10 * 1))))) 82 2) + 1))) 82 3) < 0 then 0 else ((am_upd (am_upd U 83 x5.toNat (w32 ((w32 ((w32 ((U 83 x5.toNat) + (Int.tmod x2 10))) + x3)) - (w32 (10 * 1))))) 82 2 (w32 (((am_upd U 83 x5.toNat (w32 ((w32 ((w32 ((U 83 x5.toNat) + (Int.tmod x2 10))) + x3)) - (w32 (10 * 1))))) 82 2) + 1))) 82 3))) 82 1))))) R) ∧ (¬ (¬ 1 = 1) → Ev (am_kz N X) ((d + 1), 239, 10, [some (.inr (.inr 82)), some (.inl x1), some (.inl (w32 (Int.tdiv x2 10))), some (.inl 1), some (.inl (w32 (x4 + 1))), some (.inl (w32 (x5 + 1))), some (.inl (w32 ((w32 ((U 83 x5.toNat) + (Int.tmod x2 10))) + x3)))], [], (am_sh, am_mm (am_upd (am_upd (am_upd (am_upd U 83 x5.toNat (w32 ((w32 ((w32 ((U 83 x5.toNat) + (Int.tmod x2 10))) + x3)) - (w32 (10 * 1))))) 82 2 (w32 (((am_upd U 83 x5.toNat (w32 ((w32 ((w32 ((U 83 x5.toNat) + (Int.tmod x2 10))) + x3)) - (w32 (10 * 1))))) 82 2) + 1))) 82 3 (if ((am_upd (am_upd U 83 x5.toNat (w32 ((w32 ((w32 ((U 83 x5.toNat) + (Int.tmod x2 10))) + x3)) - (w32 (10 * 1))))) 82 2 (w32 (((am_upd U 83 x5.toNat (w32 ((w32 ((w32 ((U 83 x5.toNat) + (Int.tmod x2 10))) + x3)) - (w32 (10 * 1))))) 82 2) + 1))) 82 3) < (w32 (x4 + 1)) then (w32 (x4 + 1)) else ((am_upd (am_upd U 83 x5.toNat (w32 ((w32 ((w32 ((U 83 x5.toNat) + (Int.tmod x2 10))) + x3)) - (w32 (10 * 1))))) 82 2 (w32 (((am_upd U 83 x5.toNat (w32 ((w32 ((w32 ((U 83 x5.toNat) + (Int.tmod x2 10))) + x3)) - (w32 (10 * 1))))) 82 2) + 1))) 82 3))) 82 1 (if ((am_upd (am_upd (am_upd U 83 x5.toNat (w32 ((w32 ((w32 ((U 83 x5.toNat) + (Int.tmod x2 10))) + x3)) - (w32 (10 * 1))))) 82 2 (w32 (((am_upd U 83 x5.toNat (w32 ((w32 ((w32 ((U 83 x5.toNat) + (Int.tmod x2 10))) + x3)) - (w32 (10 * 1))))) 82 2) + 1))) 82 3 (if ((am_upd (am_upd U 83 x5.toNat (w32 ((w32 ((w32 ((U 83 x5.toNat) + (Int.tmod x2 10))) + x3)) - (w32 (10 * 1))))) 82 2 (w32 (((am_upd U 83 x5.toNat (w32 ((w32 ((w32 ((U 83 x5.toNat) + (Int.tmod x2 10))) + x3)) - (w32 (10 * 1))))) 82 2) + 1))) 82 3) < (w32 (x4 + 1)) then (w32 (x4 + 1)) else ((am_upd (am_upd U 83 x5.toNat (w32 ((w32 ((w32 ((U 83 x5.toNat) + (Int.tmod x2 10))) + x3)) - (w32 (10 * 1))))) 82 2 (w32 (((am_upd U 83 x5.toNat (w32 ((w32 ((w32 ((U 83 x5.toNat) + (Int.tmod x2 10))) + x3)) - (w32 (10 * 1))))) 82 2) + 1))) 82 3))) 82 1) < (w32 (x5 + 1)) then (w32 (x5 + 1)) else ((am_upd (am_upd (am_upd U 83 x5.toNat (w32 ((w32 ((w32 ((U 83 x5.toNat) + (Int.tmod x2 10))) + x3)) - (w32 (10 * 1))))) 82 2 (w32 (((am_upd U 83 x5.toNat (w32 ((w32 ((w32 ((U 83 x5.toNat) + (Int.tmod x2 10))) + x3)) - (w32 (10 * 1))))) 82 2) + 1))) 82 3 (if ((am_upd (am_upd U 83 x5.toNat (w32 ((w32 ((w32 ((U 83 x5.toNat) + (Int.tmod x2 10))) + x3)) - (w32 (10 * 1))))) 82 2 (w32 (((am_upd U 83 x5.toNat (w32 ((w32 ((w32 ((U 83 x5.toNat) + (Int.tmod x2 10))) + x3)) - (w32 (10 * 1))))) 82 2) + 1))) 82 3) < (w32 (x4 + 1)) then (w32 (x4 + 1)) else ((am_upd (am_upd U 83 x5.toNat (w32 ((w32 ((w32 ((U 83 x5.toNat) + (Int.tmod x2 10))) + x3)) - (w32 (10 * 1))))) 82 2 (w32 (((am_upd U 83 x5.toNat (w32 ((w32 ((w32 ((U 83 x5.toNat) + (Int.tmod x2 10))) + x3)) - (w32 (10 * 1))))) 82 2) + 1))) 82 3))) 82 1))))) R))))) : Ev (am_kz N X) ((d + 1), 239, 10, [some (.inr (.inr 82)), some (.inl x1), some (.inl x2), some (.inl x3), some (.inl x4), some (.inl x5), none], [], (am_sh, am_mm U)) R := by
  refine ev_br (P := 64 ≤ x5) (σ1 := ((d + 1), 239, 130, [some (.inr (.inr 82)), some (.inl x1), some (.inl x2), some (.inl x3), some (.inl x4), some (.inl x5), none], [], (am_sh, am_mm U))) (σ2 := ((d + 1), 239, 17, [some (.inr (.inr 82)), some (.inl x1), some (.inl x2), some (.inl x3), some (.inl x4), some (.inl x5), none], [], (am_sh, am_mm U))) 3 (fun _ => rfl) (fun hc => ?_) (fun hc => ?_)
  · have h1 := h.1 hc
    subst h1
    exact ev_end 1 (fun _ => rfl)
  · have h2 := h.2 hc
    refine ev_br (P := (w32 (x2 + x3)) ≤ 0) (σ1 := ((d + 1), 239, 130, [some (.inr (.inr 82)), some (.inl x1), some (.inl x2), some (.inl x3), some (.inl x4), some (.inl x5), none], [], (am_sh, am_mm U))) (σ2 := ((d + 1), 239, 23, [some (.inr (.inr 82)), some (.inl x1), some (.inl x2), some (.inl x3), some (.inl x4), some (.inl x5), none], [], (am_sh, am_mm U))) 4 (fun _ => rfl) (fun hc => ?_) (fun hc => ?_)
    · have h21 := h2.1 hc
      subst h21
      exact ev_end 1 (fun _ => rfl)
    · have h22 := h2.2 hc
      refine ev_seg (σ1 := ((d + 1), 239, 29, [some (.inr (.inr 82)), some (.inl x1), some (.inl x2), some (.inl x3), some (.inl x4), some (.inl x5), none], [.inl x5, .inr (.inr 83)], (am_sh, am_mm U))) 3 (fun _ => rfl) ?_
      refine eu_iald 83 (n := 64) rfl (by decide) rfl (fun _ => rfl) h22.1 ?_
      have h22a := h22.2
      refine ev_seg (σ1 := ((d + 1), 239, 33, [some (.inr (.inr 82)), some (.inl x1), some (.inl x2), some (.inl x3), some (.inl x4), some (.inl x5), none], [.inl 10, .inl x2, .inl (U 83 x5.toNat)], (am_sh, am_mm U))) 2 (fun _ => rfl) ?_
      refine ev_irem rfl (by decide) ?_
      refine ev_seg (σ1 := ((d + 1), 239, 42, [some (.inr (.inr 82)), some (.inl x1), some (.inl x2), some (.inl x3), some (.inl x4), some (.inl x5), some (.inl (w32 ((w32 ((U 83 x5.toNat) + (Int.tmod x2 10))) + x3)))], [.inl 10, .inl x2], (am_sh, am_mm U))) 6 (fun _ => rfl) ?_
      refine ev_idiv rfl (by decide) ?_
      refine ev_br (P := (w32 ((w32 ((U 83 x5.toNat) + (Int.tmod x2 10))) + x3)) < 10) (σ1 := ((d + 1), 239, 55, [some (.inr (.inr 82)), some (.inl x1), some (.inl (w32 (Int.tdiv x2 10))), some (.inl x3), some (.inl x4), some (.inl x5), some (.inl (w32 ((w32 ((U 83 x5.toNat) + (Int.tmod x2 10))) + x3)))], [], (am_sh, am_mm U))) (σ2 := ((d + 1), 239, 51, [some (.inr (.inr 82)), some (.inl x1), some (.inl (w32 (Int.tdiv x2 10))), some (.inl x3), some (.inl x4), some (.inl x5), some (.inl (w32 ((w32 ((U 83 x5.toNat) + (Int.tmod x2 10))) + x3)))], [], (am_sh, am_mm U))) 4 (fun _ => rfl) (fun hc => ?_) (fun hc => ?_)
      · have h22a1 := h22a.1 hc
        refine ev_seg (σ1 := ((d + 1), 239, 70, [some (.inr (.inr 82)), some (.inl x1), some (.inl (w32 (Int.tdiv x2 10))), some (.inl 0), some (.inl x4), some (.inl x5), some (.inl (w32 ((w32 ((U 83 x5.toNat) + (Int.tmod x2 10))) + x3)))], [.inl (w32 ((w32 ((w32 ((U 83 x5.toNat) + (Int.tmod x2 10))) + x3)) - (w32 (10 * 0)))), .inl x5, .inr (.inr 83)], (am_sh, am_mm U))) 10 (fun _ => rfl) ?_
        refine eu_iast 83 (n := 64) rfl (by decide) rfl (fun _ => rfl) h22a1.1 ?_
        have h22a1a := h22a1.2
        refine ev_br (P := ¬ 0 = 1) (σ1 := ((d + 1), 239, 83, [some (.inr (.inr 82)), some (.inl x1), some (.inl (w32 (Int.tdiv x2 10))), some (.inl 0), some (.inl x4), some (.inl x5), some (.inl (w32 ((w32 ((U 83 x5.toNat) + (Int.tmod x2 10))) + x3)))], [], (am_sh, am_mm (am_upd U 83 x5.toNat (w32 ((w32 ((w32 ((U 83 x5.toNat) + (Int.tmod x2 10))) + x3)) - (w32 (10 * 0)))))))) (σ2 := ((d + 1), 239, 76, [some (.inr (.inr 82)), some (.inl x1), some (.inl (w32 (Int.tdiv x2 10))), some (.inl 0), some (.inl x4), some (.inl x5), some (.inl (w32 ((w32 ((U 83 x5.toNat) + (Int.tmod x2 10))) + x3)))], [], (am_sh, am_mm (am_upd U 83 x5.toNat (w32 ((w32 ((w32 ((U 83 x5.toNat) + (Int.tmod x2 10))) + x3)) - (w32 (10 * 0)))))))) 3 (fun _ => rfl) (fun hc => ?_) (fun hc => ?_)
        · have h22a1a1 := h22a1a.1 hc
          refine ev_seg (σ1 := ((d + 1), 239, 93, [some (.inr (.inr 82)), some (.inl x1), some (.inl (w32 (Int.tdiv x2 10))), some (.inl 0), some (.inl 0), some (.inl x5), some (.inl (w32 ((w32 ((U 83 x5.toNat) + (Int.tmod x2 10))) + x3)))], [.inl (w32 (((am_upd U 83 x5.toNat (w32 ((w32 ((w32 ((U 83 x5.toNat) + (Int.tmod x2 10))) + x3)) - (w32 (10 * 0))))) 82 2) + 0)), .inr (.inr 82)], (am_sh, am_mm (am_upd U 83 x5.toNat (w32 ((w32 ((w32 ((U 83 x5.toNat) + (Int.tmod x2 10))) + x3)) - (w32 (10 * 0)))))))) 7 (fun _ => rfl) ?_
          refine eu_puti 82 (n := 4) rfl (by decide) rfl rfl ?_
          refine ev_seg (σ1 := ((d + 1), 239, 106, [some (.inr (.inr 82)), some (.inl x1), some (.inl (w32 (Int.tdiv x2 10))), some (.inl 0), some (.inl 0), some (.inl x5), some (.inl (w32 ((w32 ((U 83 x5.toNat) + (Int.tmod x2 10))) + x3)))], [.inl (if ((am_upd (am_upd U 83 x5.toNat (w32 ((w32 ((w32 ((U 83 x5.toNat) + (Int.tmod x2 10))) + x3)) - (w32 (10 * 0))))) 82 2 (w32 (((am_upd U 83 x5.toNat (w32 ((w32 ((w32 ((U 83 x5.toNat) + (Int.tmod x2 10))) + x3)) - (w32 (10 * 0))))) 82 2) + 0))) 82 3) < 0 then 0 else ((am_upd (am_upd U 83 x5.toNat (w32 ((w32 ((w32 ((U 83 x5.toNat) + (Int.tmod x2 10))) + x3)) - (w32 (10 * 0))))) 82 2 (w32 (((am_upd U 83 x5.toNat (w32 ((w32 ((w32 ((U 83 x5.toNat) + (Int.tmod x2 10))) + x3)) - (w32 (10 * 0))))) 82 2) + 0))) 82 3)), .inr (.inr 82)], (am_sh, am_mm (am_upd (am_upd U 83 x5.toNat (w32 ((w32 ((w32 ((U 83 x5.toNat) + (Int.tmod x2 10))) + x3)) - (w32 (10 * 0))))) 82 2 (w32 (((am_upd U 83 x5.toNat (w32 ((w32 ((w32 ((U 83 x5.toNat) + (Int.tmod x2 10))) + x3)) - (w32 (10 * 0))))) 82 2) + 0)))))) 5 (fun _ => rfl) ?_
          refine eu_puti 82 (n := 4) rfl (by decide) rfl rfl ?_
          refine ev_seg (σ1 := ((d + 1), 239, 121, [some (.inr (.inr 82)), some (.inl x1), some (.inl (w32 (Int.tdiv x2 10))), some (.inl 0), some (.inl 0), some (.inl x5), some (.inl (w32 ((w32 ((U 83 x5.toNat) + (Int.tmod x2 10))) + x3)))], [.inl (if ((am_upd (am_upd (am_upd U 83 x5.toNat (w32 ((w32 ((w32 ((U 83 x5.toNat) + (Int.tmod x2 10))) + x3)) - (w32 (10 * 0))))) 82 2 (w32 (((am_upd U 83 x5.toNat (w32 ((w32 ((w32 ((U 83 x5.toNat) + (Int.tmod x2 10))) + x3)) - (w32 (10 * 0))))) 82 2) + 0))) 82 3 (if ((am_upd (am_upd U 83 x5.toNat (w32 ((w32 ((w32 ((U 83 x5.toNat) + (Int.tmod x2 10))) + x3)) - (w32 (10 * 0))))) 82 2 (w32 (((am_upd U 83 x5.toNat (w32 ((w32 ((w32 ((U 83 x5.toNat) + (Int.tmod x2 10))) + x3)) - (w32 (10 * 0))))) 82 2) + 0))) 82 3) < 0 then 0 else ((am_upd (am_upd U 83 x5.toNat (w32 ((w32 ((w32 ((U 83 x5.toNat) + (Int.tmod x2 10))) + x3)) - (w32 (10 * 0))))) 82 2 (w32 (((am_upd U 83 x5.toNat (w32 ((w32 ((w32 ((U 83 x5.toNat) + (Int.tmod x2 10))) + x3)) - (w32 (10 * 0))))) 82 2) + 0))) 82 3))) 82 1) < (w32 (x5 + 1)) then (w32 (x5 + 1)) else ((am_upd (am_upd (am_upd U 83 x5.toNat (w32 ((w32 ((w32 ((U 83 x5.toNat) + (Int.tmod x2 10))) + x3)) - (w32 (10 * 0))))) 82 2 (w32 (((am_upd U 83 x5.toNat (w32 ((w32 ((w32 ((U 83 x5.toNat) + (Int.tmod x2 10))) + x3)) - (w32 (10 * 0))))) 82 2) + 0))) 82 3 (if ((am_upd (am_upd U 83 x5.toNat (w32 ((w32 ((w32 ((U 83 x5.toNat) + (Int.tmod x2 10))) + x3)) - (w32 (10 * 0))))) 82 2 (w32 (((am_upd U 83 x5.toNat (w32 ((w32 ((w32 ((U 83 x5.toNat) + (Int.tmod x2 10))) + x3)) - (w32 (10 * 0))))) 82 2) + 0))) 82 3) < 0 then 0 else ((am_upd (am_upd U 83 x5.toNat (w32 ((w32 ((w32 ((U 83 x5.toNat) + (Int.tmod x2 10))) + x3)) - (w32 (10 * 0))))) 82 2 (w32 (((am_upd U 83 x5.toNat (w32 ((w32 ((w32 ((U 83 x5.toNat) + (Int.tmod x2 10))) + x3)) - (w32 (10 * 0))))) 82 2) + 0))) 82 3))) 82 1)), .inr (.inr 82)], (am_sh, am_mm (am_upd (am_upd (am_upd U 83 x5.toNat (w32 ((w32 ((w32 ((U 83 x5.toNat) + (Int.tmod x2 10))) + x3)) - (w32 (10 * 0))))) 82 2 (w32 (((am_upd U 83 x5.toNat (w32 ((w32 ((w32 ((U 83 x5.toNat) + (Int.tmod x2 10))) + x3)) - (w32 (10 * 0))))) 82 2) + 0))) 82 3 (if ((am_upd (am_upd U 83 x5.toNat (w32 ((w32 ((w32 ((U 83 x5.toNat) + (Int.tmod x2 10))) + x3)) - (w32 (10 * 0))))) 82 2 (w32 (((am_upd U 83 x5.toNat (w32 ((w32 ((w32 ((U 83 x5.toNat) + (Int.tmod x2 10))) + x3)) - (w32 (10 * 0))))) 82 2) + 0))) 82 3) < 0 then 0 else ((am_upd (am_upd U 83 x5.toNat (w32 ((w32 ((w32 ((U 83 x5.toNat) + (Int.tmod x2 10))) + x3)) - (w32 (10 * 0))))) 82 2 (w32 (((am_upd U 83 x5.toNat (w32 ((w32 ((w32 ((U 83 x5.toNat) + (Int.tmod x2 10))) + x3)) - (w32 (10 * 0))))) 82 2) + 0))) 82 3)))))) 7 (fun _ => rfl) ?_
          refine eu_puti 82 (n := 4) rfl (by decide) rfl rfl ?_
          refine ev_seg (σ1 := ((d + 1), 239, 10, [some (.inr (.inr 82)), some (.inl x1), some (.inl (w32 (Int.tdiv x2 10))), some (.inl 0), some (.inl 0), some (.inl (w32 (x5 + 1))), some (.inl (w32 ((w32 ((U 83 x5.toNat) + (Int.tmod x2 10))) + x3)))], [], (am_sh, am_mm (am_upd (am_upd (am_upd (am_upd U 83 x5.toNat (w32 ((w32 ((w32 ((U 83 x5.toNat) + (Int.tmod x2 10))) + x3)) - (w32 (10 * 0))))) 82 2 (w32 (((am_upd U 83 x5.toNat (w32 ((w32 ((w32 ((U 83 x5.toNat) + (Int.tmod x2 10))) + x3)) - (w32 (10 * 0))))) 82 2) + 0))) 82 3 (if ((am_upd (am_upd U 83 x5.toNat (w32 ((w32 ((w32 ((U 83 x5.toNat) + (Int.tmod x2 10))) + x3)) - (w32 (10 * 0))))) 82 2 (w32 (((am_upd U 83 x5.toNat (w32 ((w32 ((w32 ((U 83 x5.toNat) + (Int.tmod x2 10))) + x3)) - (w32 (10 * 0))))) 82 2) + 0))) 82 3) < 0 then 0 else ((am_upd (am_upd U 83 x5.toNat (w32 ((w32 ((w32 ((U 83 x5.toNat) + (Int.tmod x2 10))) + x3)) - (w32 (10 * 0))))) 82 2 (w32 (((am_upd U 83 x5.toNat (w32 ((w32 ((w32 ((U 83 x5.toNat) + (Int.tmod x2 10))) + x3)) - (w32 (10 * 0))))) 82 2) + 0))) 82 3))) 82 1 (if ((am_upd (am_upd (am_upd U 83 x5.toNat (w32 ((w32 ((w32 ((U 83 x5.toNat) + (Int.tmod x2 10))) + x3)) - (w32 (10 * 0))))) 82 2 (w32 (((am_upd U 83 x5.toNat (w32 ((w32 ((w32 ((U 83 x5.toNat) + (Int.tmod x2 10))) + x3)) - (w32 (10 * 0))))) 82 2) + 0))) 82 3 (if ((am_upd (am_upd U 83 x5.toNat (w32 ((w32 ((w32 ((U 83 x5.toNat) + (Int.tmod x2 10))) + x3)) - (w32 (10 * 0))))) 82 2 (w32 (((am_upd U 83 x5.toNat (w32 ((w32 ((w32 ((U 83 x5.toNat) + (Int.tmod x2 10))) + x3)) - (w32 (10 * 0))))) 82 2) + 0))) 82 3) < 0 then 0 else ((am_upd (am_upd U 83 x5.toNat (w32 ((w32 ((w32 ((U 83 x5.toNat) + (Int.tmod x2 10))) + x3)) - (w32 (10 * 0))))) 82 2 (w32 (((am_upd U 83 x5.toNat (w32 ((w32 ((w32 ((U 83 x5.toNat) + (Int.tmod x2 10))) + x3)) - (w32 (10 * 0))))) 82 2) + 0))) 82 3))) 82 1) < (w32 (x5 + 1)) then (w32 (x5 + 1)) else ((am_upd (am_upd (am_upd U 83 x5.toNat (w32 ((w32 ((w32 ((U 83 x5.toNat) + (Int.tmod x2 10))) + x3)) - (w32 (10 * 0))))) 82 2 (w32 (((am_upd U 83 x5.toNat (w32 ((w32 ((w32 ((U 83 x5.toNat) + (Int.tmod x2 10))) + x3)) - (w32 (10 * 0))))) 82 2) + 0))) 82 3 (if ((am_upd (am_upd U 83 x5.toNat (w32 ((w32 ((w32 ((U 83 x5.toNat) + (Int.tmod x2 10))) + x3)) - (w32 (10 * 0))))) 82 2 (w32 (((am_upd U 83 x5.toNat (w32 ((w32 ((w32 ((U 83 x5.toNat) + (Int.tmod x2 10))) + x3)) - (w32 (10 * 0))))) 82 2) + 0))) 82 3) < 0 then 0 else ((am_upd (am_upd U 83 x5.toNat (w32 ((w32 ((w32 ((U 83 x5.toNat) + (Int.tmod x2 10))) + x3)) - (w32 (10 * 0))))) 82 2 (w32 (((am_upd U 83 x5.toNat (w32 ((w32 ((w32 ((U 83 x5.toNat) + (Int.tmod x2 10))) + x3)) - (w32 (10 * 0))))) 82 2) + 0))) 82 3))) 82 1)))))) 2 (fun _ => rfl) ?_
          exact h22a1a1
        · have h22a1a2 := h22a1a.2 hc
          refine ev_seg (σ1 := ((d + 1), 239, 93, [some (.inr (.inr 82)), some (.inl x1), some (.inl (w32 (Int.tdiv x2 10))), some (.inl 0), some (.inl (w32 (x4 + 1))), some (.inl x5), some (.inl (w32 ((w32 ((U 83 x5.toNat) + (Int.tmod x2 10))) + x3)))], [.inl (w32 (((am_upd U 83 x5.toNat (w32 ((w32 ((w32 ((U 83 x5.toNat) + (Int.tmod x2 10))) + x3)) - (w32 (10 * 0))))) 82 2) + 0)), .inr (.inr 82)], (am_sh, am_mm (am_upd U 83 x5.toNat (w32 ((w32 ((w32 ((U 83 x5.toNat) + (Int.tmod x2 10))) + x3)) - (w32 (10 * 0)))))))) 10 (fun _ => rfl) ?_
          refine eu_puti 82 (n := 4) rfl (by decide) rfl rfl ?_
          refine ev_seg (σ1 := ((d + 1), 239, 106, [some (.inr (.inr 82)), some (.inl x1), some (.inl (w32 (Int.tdiv x2 10))), some (.inl 0), some (.inl (w32 (x4 + 1))), some (.inl x5), some (.inl (w32 ((w32 ((U 83 x5.toNat) + (Int.tmod x2 10))) + x3)))], [.inl (if ((am_upd (am_upd U 83 x5.toNat (w32 ((w32 ((w32 ((U 83 x5.toNat) + (Int.tmod x2 10))) + x3)) - (w32 (10 * 0))))) 82 2 (w32 (((am_upd U 83 x5.toNat (w32 ((w32 ((w32 ((U 83 x5.toNat) + (Int.tmod x2 10))) + x3)) - (w32 (10 * 0))))) 82 2) + 0))) 82 3) < (w32 (x4 + 1)) then (w32 (x4 + 1)) else ((am_upd (am_upd U 83 x5.toNat (w32 ((w32 ((w32 ((U 83 x5.toNat) + (Int.tmod x2 10))) + x3)) - (w32 (10 * 0))))) 82 2 (w32 (((am_upd U 83 x5.toNat (w32 ((w32 ((w32 ((U 83 x5.toNat) + (Int.tmod x2 10))) + x3)) - (w32 (10 * 0))))) 82 2) + 0))) 82 3)), .inr (.inr 82)], (am_sh, am_mm (am_upd (am_upd U 83 x5.toNat (w32 ((w32 ((w32 ((U 83 x5.toNat) + (Int.tmod x2 10))) + x3)) - (w32 (10 * 0))))) 82 2 (w32 (((am_upd U 83 x5.toNat (w32 ((w32 ((w32 ((U 83 x5.toNat) + (Int.tmod x2 10))) + x3)) - (w32 (10 * 0))))) 82 2) + 0)))))) 5 (fun _ => rfl) ?_
          refine eu_puti 82 (n := 4) rfl (by decide) rfl rfl ?_
          refine ev_seg (σ1 := ((d + 1), 239, 121, [some (.inr (.inr 82)), some (.inl x1), some (.inl (w32 (Int.tdiv x2 10))), some (.inl 0), some (.inl (w32 (x4 + 1))), some (.inl x5), some (.inl (w32 ((w32 ((U 83 x5.toNat) + (Int.tmod x2 10))) + x3)))], [.inl (if ((am_upd (am_upd (am_upd U 83 x5.toNat (w32 ((w32 ((w32 ((U 83 x5.toNat) + (Int.tmod x2 10))) + x3)) - (w32 (10 * 0))))) 82 2 (w32 (((am_upd U 83 x5.toNat (w32 ((w32 ((w32 ((U 83 x5.toNat) + (Int.tmod x2 10))) + x3)) - (w32 (10 * 0))))) 82 2) + 0))) 82 3 (if ((am_upd (am_upd U 83 x5.toNat (w32 ((w32 ((w32 ((U 83 x5.toNat) + (Int.tmod x2 10))) + x3)) - (w32 (10 * 0))))) 82 2 (w32 (((am_upd U 83 x5.toNat (w32 ((w32 ((w32 ((U 83 x5.toNat) + (Int.tmod x2 10))) + x3)) - (w32 (10 * 0))))) 82 2) + 0))) 82 3) < (w32 (x4 + 1)) then (w32 (x4 + 1)) else ((am_upd (am_upd U 83 x5.toNat (w32 ((w32 ((w32 ((U 83 x5.toNat) + (Int.tmod x2 10))) + x3)) - (w32 (10 * 0))))) 82 2 (w32 (((am_upd U 83 x5.toNat (w32 ((w32 ((w32 ((U 83 x5.toNat) + (Int.tmod x2 10))) + x3)) - (w32 (10 * 0))))) 82 2) + 0))) 82 3))) 82 1) < (w32 (x5 + 1)) then (w32 (x5 + 1)) else ((am_upd (am_upd (am_upd U 83 x5.toNat (w32 ((w32 ((w32 ((U 83 x5.toNat) + (Int.tmod x2 10))) + x3)) - (w32 (10 * 0))))) 82 2 (w32 (((am_upd U 83 x5.toNat (w32 ((w32 ((w32 ((U 83 x5.toNat) + (Int.tmod x2 10))) + x3)) - (w32 (10 * 0))))) 82 2) + 0))) 82 3 (if ((am_upd (am_upd U 83 x5.toNat (w32 ((w32 ((w32 ((U 83 x5.toNat) + (Int.tmod x2 10))) + x3)) - (w32 (10 * 0))))) 82 2 (w32 (((am_upd U 83 x5.toNat (w32 ((w32 ((w32 ((U 83 x5.toNat) + (Int.tmod x2 10))) + x3)) - (w32 (10 * 0))))) 82 2) + 0))) 82 3) < (w32 (x4 + 1)) then (w32 (x4 + 1)) else ((am_upd (am_upd U 83 x5.toNat (w32 ((w32 ((w32 ((U 83 x5.toNat) + (Int.tmod x2 10))) + x3)) - (w32 (10 * 0))))) 82 2 (w32 (((am_upd U 83 x5.toNat (w32 ((w32 ((w32 ((U 83 x5.toNat) + (Int.tmod x2 10))) + x3)) - (w32 (10 * 0))))) 82 2) + 0))) 82 3))) 82 1)), .inr (.inr 82)], (am_sh, am_mm (am_upd (am_upd (am_upd U 83 x5.toNat (w32 ((w32 ((w32 ((U 83 x5.toNat) + (Int.tmod x2 10))) + x3)) - (w32 (10 * 0))))) 82 2 (w32 (((am_upd U 83 x5.toNat (w32 ((w32 ((w32 ((U 83 x5.toNat) + (Int.tmod x2 10))) + x3)) - (w32 (10 * 0))))) 82 2) + 0))) 82 3 (if ((am_upd (am_upd U 83 x5.toNat (w32 ((w32 ((w32 ((U 83 x5.toNat) + (Int.tmod x2 10))) + x3)) - (w32 (10 * 0))))) 82 2 (w32 (((am_upd U 83 x5.toNat (w32 ((w32 ((w32 ((U 83 x5.toNat) + (Int.tmod x2 10))) + x3)) - (w32 (10 * 0))))) 82 2) + 0))) 82 3) < (w32 (x4 + 1)) then (w32 (x4 + 1)) else ((am_upd (am_upd U 83 x5.toNat (w32 ((w32 ((w32 ((U 83 x5.toNat) + (Int.tmod x2 10))) + x3)) - (w32 (10 * 0))))) 82 2 (w32 (((am_upd U 83 x5.toNat (w32 ((w32 ((w32 ((U 83 x5.toNat) + (Int.tmod x2 10))) + x3)) - (w32 (10 * 0))))) 82 2) + 0))) 82 3)))))) 7 (fun _ => rfl) ?_
          refine eu_puti 82 (n := 4) rfl (by decide) rfl rfl ?_
          refine ev_seg (σ1 := ((d + 1), 239, 10, [some (.inr (.inr 82)), some (.inl x1), some (.inl (w32 (Int.tdiv x2 10))), some (.inl 0), some (.inl (w32 (x4 + 1))), some (.inl (w32 (x5 + 1))), some (.inl (w32 ((w32 ((U 83 x5.toNat) + (Int.tmod x2 10))) + x3)))], [], (am_sh, am_mm (am_upd (am_upd (am_upd (am_upd U 83 x5.toNat (w32 ((w32 ((w32 ((U 83 x5.toNat) + (Int.tmod x2 10))) + x3)) - (w32 (10 * 0))))) 82 2 (w32 (((am_upd U 83 x5.toNat (w32 ((w32 ((w32 ((U 83 x5.toNat) + (Int.tmod x2 10))) + x3)) - (w32 (10 * 0))))) 82 2) + 0))) 82 3 (if ((am_upd (am_upd U 83 x5.toNat (w32 ((w32 ((w32 ((U 83 x5.toNat) + (Int.tmod x2 10))) + x3)) - (w32 (10 * 0))))) 82 2 (w32 (((am_upd U 83 x5.toNat (w32 ((w32 ((w32 ((U 83 x5.toNat) + (Int.tmod x2 10))) + x3)) - (w32 (10 * 0))))) 82 2) + 0))) 82 3) < (w32 (x4 + 1)) then (w32 (x4 + 1)) else ((am_upd (am_upd U 83 x5.toNat (w32 ((w32 ((w32 ((U 83 x5.toNat) + (Int.tmod x2 10))) + x3)) - (w32 (10 * 0))))) 82 2 (w32 (((am_upd U 83 x5.toNat (w32 ((w32 ((w32 ((U 83 x5.toNat) + (Int.tmod x2 10))) + x3)) - (w32 (10 * 0))))) 82 2) + 0))) 82 3))) 82 1 (if ((am_upd (am_upd (am_upd U 83 x5.toNat (w32 ((w32 ((w32 ((U 83 x5.toNat) + (Int.tmod x2 10))) + x3)) - (w32 (10 * 0))))) 82 2 (w32 (((am_upd U 83 x5.toNat (w32 ((w32 ((w32 ((U 83 x5.toNat) + (Int.tmod x2 10))) + x3)) - (w32 (10 * 0))))) 82 2) + 0))) 82 3 (if ((am_upd (am_upd U 83 x5.toNat (w32 ((w32 ((w32 ((U 83 x5.toNat) + (Int.tmod x2 10))) + x3)) - (w32 (10 * 0))))) 82 2 (w32 (((am_upd U 83 x5.toNat (w32 ((w32 ((w32 ((U 83 x5.toNat) + (Int.tmod x2 10))) + x3)) - (w32 (10 * 0))))) 82 2) + 0))) 82 3) < (w32 (x4 + 1)) then (w32 (x4 + 1)) else ((am_upd (am_upd U 83 x5.toNat (w32 ((w32 ((w32 ((U 83 x5.toNat) + (Int.tmod x2 10))) + x3)) - (w32 (10 * 0))))) 82 2 (w32 (((am_upd U 83 x5.toNat (w32 ((w32 ((w32 ((U 83 x5.toNat) + (Int.tmod x2 10))) + x3)) - (w32 (10 * 0))))) 82 2) + 0))) 82 3))) 82 1) < (w32 (x5 + 1)) then (w32 (x5 + 1)) else ((am_upd (am_upd (am_upd U 83 x5.toNat (w32 ((w32 ((w32 ((U 83 x5.toNat) + (Int.tmod x2 10))) + x3)) - (w32 (10 * 0))))) 82 2 (w32 (((am_upd U 83 x5.toNat (w32 ((w32 ((w32 ((U 83 x5.toNat) + (Int.tmod x2 10))) + x3)) - (w32 (10 * 0))))) 82 2) + 0))) 82 3 (if ((am_upd (am_upd U 83 x5.toNat (w32 ((w32 ((w32 ((U 83 x5.toNat) + (Int.tmod x2 10))) + x3)) - (w32 (10 * 0))))) 82 2 (w32 (((am_upd U 83 x5.toNat (w32 ((w32 ((w32 ((U 83 x5.toNat) + (Int.tmod x2 10))) + x3)) - (w32 (10 * 0))))) 82 2) + 0))) 82 3) < (w32 (x4 + 1)) then (w32 (x4 + 1)) else ((am_upd (am_upd U 83 x5.toNat (w32 ((w32 ((w32 ((U 83 x5.toNat) + (Int.tmod x2 10))) + x3)) - (w32 (10 * 0))))) 82 2 (w32 (((am_upd U 83 x5.toNat (w32 ((w32 ((w32 ((U 83 x5.toNat) + (Int.tmod x2 10))) + x3)) - (w32 (10 * 0))))) 82 2) + 0))) 82 3))) 82 1)))))) 2 (fun _ => rfl) ?_
          exact h22a1a2
      · have h22a2 := h22a.2 hc
        refine ev_seg (σ1 := ((d + 1), 239, 70, [some (.inr (.inr 82)), some (.inl x1), some (.inl (w32 (Int.tdiv x2 10))), some (.inl 1), some (.inl x4), some (.inl x5), some (.inl (w32 ((w32 ((U 83 x5.toNat) + (Int.tmod x2 10))) + x3)))], [.inl (w32 ((w32 ((w32 ((U 83 x5.toNat) + (Int.tmod x2 10))) + x3)) - (w32 (10 * 1)))), .inl x5, .inr (.inr 83)], (am_sh, am_mm U))) 11 (fun _ => rfl) ?_
        refine eu_iast 83 (n := 64) rfl (by decide) rfl (fun _ => rfl) h22a2.1 ?_
        have h22a2a := h22a2.2
        refine ev_br (P := ¬ 1 = 1) (σ1 := ((d + 1), 239, 83, [some (.inr (.inr 82)), some (.inl x1), some (.inl (w32 (Int.tdiv x2 10))), some (.inl 1), some (.inl x4), some (.inl x5), some (.inl (w32 ((w32 ((U 83 x5.toNat) + (Int.tmod x2 10))) + x3)))], [], (am_sh, am_mm (am_upd U 83 x5.toNat (w32 ((w32 ((w32 ((U 83 x5.toNat) + (Int.tmod x2 10))) + x3)) - (w32 (10 * 1)))))))) (σ2 := ((d + 1), 239, 76, [some (.inr (.inr 82)), some (.inl x1), some (.inl (w32 (Int.tdiv x2 10))), some (.inl 1), some (.inl x4), some (.inl x5), some (.inl (w32 ((w32 ((U 83 x5.toNat) + (Int.tmod x2 10))) + x3)))], [], (am_sh, am_mm (am_upd U 83 x5.toNat (w32 ((w32 ((w32 ((U 83 x5.toNat) + (Int.tmod x2 10))) + x3)) - (w32 (10 * 1)))))))) 3 (fun _ => rfl) (fun hc => ?_) (fun hc => ?_)
        · have h22a2a1 := h22a2a.1 hc
          refine ev_seg (σ1 := ((d + 1), 239, 93, [some (.inr (.inr 82)), some (.inl x1), some (.inl (w32 (Int.tdiv x2 10))), some (.inl 1), some (.inl 0), some (.inl x5), some (.inl (w32 ((w32 ((U 83 x5.toNat) + (Int.tmod x2 10))) + x3)))], [.inl (w32 (((am_upd U 83 x5.toNat (w32 ((w32 ((w32 ((U 83 x5.toNat) + (Int.tmod x2 10))) + x3)) - (w32 (10 * 1))))) 82 2) + 1)), .inr (.inr 82)], (am_sh, am_mm (am_upd U 83 x5.toNat (w32 ((w32 ((w32 ((U 83 x5.toNat) + (Int.tmod x2 10))) + x3)) - (w32 (10 * 1)))))))) 7 (fun _ => rfl) ?_
          refine eu_puti 82 (n := 4) rfl (by decide) rfl rfl ?_
          refine ev_seg (σ1 := ((d + 1), 239, 106, [some (.inr (.inr 82)), some (.inl x1), some (.inl (w32 (Int.tdiv x2 10))), some (.inl 1), some (.inl 0), some (.inl x5), some (.inl (w32 ((w32 ((U 83 x5.toNat) + (Int.tmod x2 10))) + x3)))], [.inl (if ((am_upd (am_upd U 83 x5.toNat (w32 ((w32 ((w32 ((U 83 x5.toNat) + (Int.tmod x2 10))) + x3)) - (w32 (10 * 1))))) 82 2 (w32 (((am_upd U 83 x5.toNat (w32 ((w32 ((w32 ((U 83 x5.toNat) + (Int.tmod x2 10))) + x3)) - (w32 (10 * 1))))) 82 2) + 1))) 82 3) < 0 then 0 else ((am_upd (am_upd U 83 x5.toNat (w32 ((w32 ((w32 ((U 83 x5.toNat) + (Int.tmod x2 10))) + x3)) - (w32 (10 * 1))))) 82 2 (w32 (((am_upd U 83 x5.toNat (w32 ((w32 ((w32 ((U 83 x5.toNat) + (Int.tmod x2 10))) + x3)) - (w32 (10 * 1))))) 82 2) + 1))) 82 3)), .inr (.inr 82)], (am_sh, am_mm (am_upd (am_upd U 83 x5.toNat (w32 ((w32 ((w32 ((U 83 x5.toNat) + (Int.tmod x2 10))) + x3)) - (w32 (10 * 1))))) 82 2 (w32 (((am_upd U 83 x5.toNat (w32 ((w32 ((w32 ((U 83 x5.toNat) + (Int.tmod x2 10))) + x3)) - (w32 (10 * 1))))) 82 2) + 1)))))) 5 (fun _ => rfl) ?_
          refine eu_puti 82 (n := 4) rfl (by decide) rfl rfl ?_
          refine ev_seg (σ1 := ((d + 1), 239, 121, [some (.inr (.inr 82)), some (.inl x1), some (.inl (w32 (Int.tdiv x2 10))), some (.inl 1), some (.inl 0), some (.inl x5), some (.inl (w32 ((w32 ((U 83 x5.toNat) + (Int.tmod x2 10))) + x3)))], [.inl (if ((am_upd (am_upd (am_upd U 83 x5.toNat (w32 ((w32 ((w32 ((U 83 x5.toNat) + (Int.tmod x2 10))) + x3)) - (w32 (10 * 1))))) 82 2 (w32 (((am_upd U 83 x5.toNat (w32 ((w32 ((w32 ((U 83 x5.toNat) + (Int.tmod x2 10))) + x3)) - (w32 (10 * 1))))) 82 2) + 1))) 82 3 (if ((am_upd (am_upd U 83 x5.toNat (w32 ((w32 ((w32 ((U 83 x5.toNat) + (Int.tmod x2 10))) + x3)) - (w32 (10 * 1))))) 82 2 (w32 (((am_upd U 83 x5.toNat (w32 ((w32 ((w32 ((U 83 x5.toNat) + (Int.tmod x2 10))) + x3)) - (w32 (10 * 1))))) 82 2) + 1))) 82 3) < 0 then 0 else ((am_upd (am_upd U 83 x5.toNat (w32 ((w32 ((w32 ((U 83 x5.toNat) + (Int.tmod x2 10))) + x3)) - (w32 (10 * 1))))) 82 2 (w32 (((am_upd U 83 x5.toNat (w32 ((w32 ((w32 ((U 83 x5.toNat) + (Int.tmod x2 10))) + x3)) - (w32 (10 * 1))))) 82 2) + 1))) 82 3))) 82 1) < (w32 (x5 + 1)) then (w32 (x5 + 1)) else ((am_upd (am_upd (am_upd U 83 x5.toNat (w32 ((w32 ((w32 ((U 83 x5.toNat) + (Int.tmod x2 10))) + x3)) - (w32 (10 * 1))))) 82 2 (w32 (((am_upd U 83 x5.toNat (w32 ((w32 ((w32 ((U 83 x5.toNat) + (Int.tmod x2 10))) + x3)) - (w32 (10 * 1))))) 82 2) + 1))) 82 3 (if ((am_upd (am_upd U 83 x5.toNat (w32 ((w32 ((w32 ((U 83 x5.toNat) + (Int.tmod x2 10))) + x3)) - (w32 (10 * 1))))) 82 2 (w32 (((am_upd U 83 x5.toNat (w32 ((w32 ((w32 ((U 83 x5.toNat) + (Int.tmod x2 10))) + x3)) - (w32 (10 * 1))))) 82 2) + 1))) 82 3) < 0 then 0 else ((am_upd (am_upd U 83 x5.toNat (w32 ((w32 ((w32 ((U 83 x5.toNat) + (Int.tmod x2 10))) + x3)) - (w32 (10 * 1))))) 82 2 (w32 (((am_upd U 83 x5.toNat (w32 ((w32 ((w32 ((U 83 x5.toNat) + (Int.tmod x2 10))) + x3)) - (w32 (10 * 1))))) 82 2) + 1))) 82 3))) 82 1)), .inr (.inr 82)], (am_sh, am_mm (am_upd (am_upd (am_upd U 83 x5.toNat (w32 ((w32 ((w32 ((U 83 x5.toNat) + (Int.tmod x2 10))) + x3)) - (w32 (10 * 1))))) 82 2 (w32 (((am_upd U 83 x5.toNat (w32 ((w32 ((w32 ((U 83 x5.toNat) + (Int.tmod x2 10))) + x3)) - (w32 (10 * 1))))) 82 2) + 1))) 82 3 (if ((am_upd (am_upd U 83 x5.toNat (w32 ((w32 ((w32 ((U 83 x5.toNat) + (Int.tmod x2 10))) + x3)) - (w32 (10 * 1))))) 82 2 (w32 (((am_upd U 83 x5.toNat (w32 ((w32 ((w32 ((U 83 x5.toNat) + (Int.tmod x2 10))) + x3)) - (w32 (10 * 1))))) 82 2) + 1))) 82 3) < 0 then 0 else ((am_upd (am_upd U 83 x5.toNat (w32 ((w32 ((w32 ((U 83 x5.toNat) + (Int.tmod x2 10))) + x3)) - (w32 (10 * 1))))) 82 2 (w32 (((am_upd U 83 x5.toNat (w32 ((w32 ((w32 ((U 83 x5.toNat) + (Int.tmod x2 10))) + x3)) - (w32 (10 * 1))))) 82 2) + 1))) 82 3)))))) 7 (fun _ => rfl) ?_
          refine eu_puti 82 (n := 4) rfl (by decide) rfl rfl ?_
          refine ev_seg (σ1 := ((d + 1), 239, 10, [some (.inr (.inr 82)), some (.inl x1), some (.inl (w32 (Int.tdiv x2 10))), some (.inl 1), some (.inl 0), some (.inl (w32 (x5 + 1))), some (.inl (w32 ((w32 ((U 83 x5.toNat) + (Int.tmod x2 10))) + x3)))], [], (am_sh, am_mm (am_upd (am_upd (am_upd (am_upd U 83 x5.toNat (w32 ((w32 ((w32 ((U 83 x5.toNat) + (Int.tmod x2 10))) + x3)) - (w32 (10 * 1))))) 82 2 (w32 (((am_upd U 83 x5.toNat (w32 ((w32 ((w32 ((U 83 x5.toNat) + (Int.tmod x2 10))) + x3)) - (w32 (10 * 1))))) 82 2) + 1))) 82 3 (if ((am_upd (am_upd U 83 x5.toNat (w32 ((w32 ((w32 ((U 83 x5.toNat) + (Int.tmod x2 10))) + x3)) - (w32 (10 * 1))))) 82 2 (w32 (((am_upd U 83 x5.toNat (w32 ((w32 ((w32 ((U 83 x5.toNat) + (Int.tmod x2 10))) + x3)) - (w32 (10 * 1))))) 82 2) + 1))) 82 3) < 0 then 0 else ((am_upd (am_upd U 83 x5.toNat (w32 ((w32 ((w32 ((U 83 x5.toNat) + (Int.tmod x2 10))) + x3)) - (w32 (10 * 1))))) 82 2 (w32 (((am_upd U 83 x5.toNat (w32 ((w32 ((w32 ((U 83 x5.toNat) + (Int.tmod x2 10))) + x3)) - (w32 (10 * 1))))) 82 2) + 1))) 82 3))) 82 1 (if ((am_upd (am_upd (am_upd U 83 x5.toNat (w32 ((w32 ((w32 ((U 83 x5.toNat) + (Int.tmod x2 10))) + x3)) - (w32 (10 * 1))))) 82 2 (w32 (((am_upd U 83 x5.toNat (w32 ((w32 ((w32 ((U 83 x5.toNat) + (Int.tmod x2 10))) + x3)) - (w32 (10 * 1))))) 82 2) + 1))) 82 3 (if ((am_upd (am_upd U 83 x5.toNat (w32 ((w32 ((w32 ((U 83 x5.toNat) + (Int.tmod x2 10))) + x3)) - (w32 (10 * 1))))) 82 2 (w32 (((am_upd U 83 x5.toNat (w32 ((w32 ((w32 ((U 83 x5.toNat) + (Int.tmod x2 10))) + x3)) - (w32 (10 * 1))))) 82 2) + 1))) 82 3) < 0 then 0 else ((am_upd (am_upd U 83 x5.toNat (w32 ((w32 ((w32 ((U 83 x5.toNat) + (Int.tmod x2 10))) + x3)) - (w32 (10 * 1))))) 82 2 (w32 (((am_upd U 83 x5.toNat (w32 ((w32 ((w32 ((U 83 x5.toNat) + (Int.tmod x2 10))) + x3)) - (w32 (10 * 1))))) 82 2) + 1))) 82 3))) 82 1) < (w32 (x5 + 1)) then (w32 (x5 + 1)) else ((am_upd (am_upd (am_upd U 83 x5.toNat (w32 ((w32 ((w32 ((U 83 x5.toNat) + (Int.tmod x2 10))) + x3)) - (w32 (10 * 1))))) 82 2 (w32 (((am_upd U 83 x5.toNat (w32 ((w32 ((w32 ((U 83 x5.toNat) + (Int.tmod x2 10))) + x3)) - (w32 (10 * 1))))) 82 2) + 1))) 82 3 (if ((am_upd (am_upd U 83 x5.toNat (w32 ((w32 ((w32 ((U 83 x5.toNat) + (Int.tmod x2 10))) + x3)) - (w32 (10 * 1))))) 82 2 (w32 (((am_upd U 83 x5.toNat (w32 ((w32 ((w32 ((U 83 x5.toNat) + (Int.tmod x2 10))) + x3)) - (w32 (10 * 1))))) 82 2) + 1))) 82 3) < 0 then 0 else ((am_upd (am_upd U 83 x5.toNat (w32 ((w32 ((w32 ((U 83 x5.toNat) + (Int.tmod x2 10))) + x3)) - (w32 (10 * 1))))) 82 2 (w32 (((am_upd U 83 x5.toNat (w32 ((w32 ((w32 ((U 83 x5.toNat) + (Int.tmod x2 10))) + x3)) - (w32 (10 * 1))))) 82 2) + 1))) 82 3))) 82 1)))))) 2 (fun _ => rfl) ?_
          exact h22a2a1
        · have h22a2a2 := h22a2a.2 hc
          refine ev_seg (σ1 := ((d + 1), 239, 93, [some (.inr (.inr 82)), some (.inl x1), some (.inl (w32 (Int.tdiv x2 10))), some (.inl 1), some (.inl (w32 (x4 + 1))), some (.inl x5), some (.inl (w32 ((w32 ((U 83 x5.toNat) + (Int.tmod x2 10))) + x3)))], [.inl (w32 (((am_upd U 83 x5.toNat (w32 ((w32 ((w32 ((U 83 x5.toNat) + (Int.tmod x2 10))) + x3)) - (w32 (10 * 1))))) 82 2) + 1)), .inr (.inr 82)], (am_sh, am_mm (am_upd U 83 x5.toNat (w32 ((w32 ((w32 ((U 83 x5.toNat) + (Int.tmod x2 10))) + x3)) - (w32 (10 * 1)))))))) 10 (fun _ => rfl) ?_
          refine eu_puti 82 (n := 4) rfl (by decide) rfl rfl ?_
          refine ev_seg (σ1 := ((d + 1), 239, 106, [some (.inr (.inr 82)), some (.inl x1), some (.inl (w32 (Int.tdiv x2 10))), some (.inl 1), some (.inl (w32 (x4 + 1))), some (.inl x5), some (.inl (w32 ((w32 ((U 83 x5.toNat) + (Int.tmod x2 10))) + x3)))], [.inl (if ((am_upd (am_upd U 83 x5.toNat (w32 ((w32 ((w32 ((U 83 x5.toNat) + (Int.tmod x2 10))) + x3)) - (w32 (10 * 1))))) 82 2 (w32 (((am_upd U 83 x5.toNat (w32 ((w32 ((w32 ((U 83 x5.toNat) + (Int.tmod x2 10))) + x3)) - (w32 (10 * 1))))) 82 2) + 1))) 82 3) < (w32 (x4 + 1)) then (w32 (x4 + 1)) else ((am_upd (am_upd U 83 x5.toNat (w32 ((w32 ((w32 ((U 83 x5.toNat) + (Int.tmod x2 10))) + x3)) - (w32 (10 * 1))))) 82 2 (w32 (((am_upd U 83 x5.toNat (w32 ((w32 ((w32 ((U 83 x5.toNat) + (Int.tmod x2 10))) + x3)) - (w32 (10 * 1))))) 82 2) + 1))) 82 3)), .inr (.inr 82)], (am_sh, am_mm (am_upd (am_upd U 83 x5.toNat (w32 ((w32 ((w32 ((U 83 x5.toNat) + (Int.tmod x2 10))) + x3)) - (w32 (10 * 1))))) 82 2 (w32 (((am_upd U 83 x5.toNat (w32 ((w32 ((w32 ((U 83 x5.toNat) + (Int.tmod x2 10))) + x3)) - (w32 (10 * 1))))) 82 2) + 1)))))) 5 (fun _ => rfl) ?_
          refine eu_puti 82 (n := 4) rfl (by decide) rfl rfl ?_
          refine ev_seg (σ1 := ((d + 1), 239, 121, [some (.inr (.inr 82)), some (.inl x1), some (.inl (w32 (Int.tdiv x2 10))), some (.inl 1), some (.inl (w32 (x4 + 1))), some (.inl x5), some (.inl (w32 ((w32 ((U 83 x5.toNat) + (Int.tmod x2 10))) + x3)))], [.inl (if ((am_upd (am_upd (am_upd U 83 x5.toNat (w32 ((w32 ((w32 ((U 83 x5.toNat) + (Int.tmod x2 10))) + x3)) - (w32 (10 * 1))))) 82 2 (w32 (((am_upd U 83 x5.toNat (w32 ((w32 ((w32 ((U 83 x5.toNat) + (Int.tmod x2 10))) + x3)) - (w32 (10 * 1))))) 82 2) + 1))) 82 3 (if ((am_upd (am_upd U 83 x5.toNat (w32 ((w32 ((w32 ((U 83 x5.toNat) + (Int.tmod x2 10))) + x3)) - (w32 (10 * 1))))) 82 2 (w32 (((am_upd U 83 x5.toNat (w32 ((w32 ((w32 ((U 83 x5.toNat) + (Int.tmod x2 10))) + x3)) - (w32 (10 * 1))))) 82 2) + 1))) 82 3) < (w32 (x4 + 1)) then (w32 (x4 + 1)) else ((am_upd (am_upd U 83 x5.toNat (w32 ((w32 ((w32 ((U 83 x5.toNat) + (Int.tmod x2 10))) + x3)) - (w32 (10 * 1))))) 82 2 (w32 (((am_upd U 83 x5.toNat (w32 ((w32 ((w32 ((U 83 x5.toNat) + (Int.tmod x2 10))) + x3)) - (w32 (10 * 1))))) 82 2) + 1))) 82 3))) 82 1) < (w32 (x5 + 1)) then (w32 (x5 + 1)) else ((am_upd (am_upd (am_upd U 83 x5.toNat (w32 ((w32 ((w32 ((U 83 x5.toNat) + (Int.tmod x2 10))) + x3)) - (w32 (10 * 1))))) 82 2 (w32 (((am_upd U 83 x5.toNat (w32 ((w32 ((w32 ((U 83 x5.toNat) + (Int.tmod x2 10))) + x3)) - (w32 (10 * 1))))) 82 2) + 1))) 82 3 (if ((am_upd (am_upd U 83 x5.toNat (w32 ((w32 ((w32 ((U 83 x5.toNat) + (Int.tmod x2 10))) + x3)) - (w32 (10 * 1))))) 82 2 (w32 (((am_upd U 83 x5.toNat (w32 ((w32 ((w32 ((U 83 x5.toNat) + (Int.tmod x2 10))) + x3)) - (w32 (10 * 1))))) 82 2) + 1))) 82 3) < (w32 (x4 + 1)) then (w32 (x4 + 1)) else ((am_upd (am_upd U 83 x5.toNat (w32 ((w32 ((w32 ((U 83 x5.toNat) + (Int.tmod x2 10))) + x3)) - (w32 (10 * 1))))) 82 2 (w32 (((am_upd U 83 x5.toNat (w32 ((w32 ((w32 ((U 83 x5.toNat) + (Int.tmod x2 10))) + x3)) - (w32 (10 * 1))))) 82 2) + 1))) 82 3))) 82 1)), .inr (.inr 82)], (am_sh, am_mm (am_upd (am_upd (am_upd U 83 x5.toNat (w32 ((w32 ((w32 ((U 83 x5.toNat) + (Int.tmod x2 10))) + x3)) - (w32 (10 * 1))))) 82 2 (w32 (((am_upd U 83 x5.toNat (w32 ((w32 ((w32 ((U 83 x5.toNat) + (Int.tmod x2 10))) + x3)) - (w32 (10 * 1))))) 82 2) + 1))) 82 3 (if ((am_upd (am_upd U 83 x5.toNat (w32 ((w32 ((w32 ((U 83 x5.toNat) + (Int.tmod x2 10))) + x3)) - (w32 (10 * 1))))) 82 2 (w32 (((am_upd U 83 x5.toNat (w32 ((w32 ((w32 ((U 83 x5.toNat) + (Int.tmod x2 10))) + x3)) - (w32 (10 * 1))))) 82 2) + 1))) 82 3) < (w32 (x4 + 1)) then (w32 (x4 + 1)) else ((am_upd (am_upd U 83 x5.toNat (w32 ((w32 ((w32 ((U 83 x5.toNat) + (Int.tmod x2 10))) + x3)) - (w32 (10 * 1))))) 82 2 (w32 (((am_upd U 83 x5.toNat (w32 ((w32 ((w32 ((U 83 x5.toNat) + (Int.tmod x2 10))) + x3)) - (w32 (10 * 1))))) 82 2) + 1))) 82 3)))))) 7 (fun _ => rfl) ?_
          refine eu_puti 82 (n := 4) rfl (by decide) rfl rfl ?_
          refine ev_seg (σ1 := ((d + 1), 239, 10, [some (.inr (.inr 82)), some (.inl x1), some (.inl (w32 (Int.tdiv x2 10))), some (.inl 1), some (.inl (w32 (x4 + 1))), some (.inl (w32 (x5 + 1))), some (.inl (w32 ((w32 ((U 83 x5.toNat) + (Int.tmod x2 10))) + x3)))], [], (am_sh, am_mm (am_upd (am_upd (am_upd (am_upd U 83 x5.toNat (w32 ((w32 ((w32 ((U 83 x5.toNat) + (Int.tmod x2 10))) + x3)) - (w32 (10 * 1))))) 82 2 (w32 (((am_upd U 83 x5.toNat (w32 ((w32 ((w32 ((U 83 x5.toNat) + (Int.tmod x2 10))) + x3)) - (w32 (10 * 1))))) 82 2) + 1))) 82 3 (if ((am_upd (am_upd U 83 x5.toNat (w32 ((w32 ((w32 ((U 83 x5.toNat) + (Int.tmod x2 10))) + x3)) - (w32 (10 * 1))))) 82 2 (w32 (((am_upd U 83 x5.toNat (w32 ((w32 ((w32 ((U 83 x5.toNat) + (Int.tmod x2 10))) + x3)) - (w32 (10 * 1))))) 82 2) + 1))) 82 3) < (w32 (x4 + 1)) then (w32 (x4 + 1)) else ((am_upd (am_upd U 83 x5.toNat (w32 ((w32 ((w32 ((U 83 x5.toNat) + (Int.tmod x2 10))) + x3)) - (w32 (10 * 1))))) 82 2 (w32 (((am_upd U 83 x5.toNat (w32 ((w32 ((w32 ((U 83 x5.toNat) + (Int.tmod x2 10))) + x3)) - (w32 (10 * 1))))) 82 2) + 1))) 82 3))) 82 1 (if ((am_upd (am_upd (am_upd U 83 x5.toNat (w32 ((w32 ((w32 ((U 83 x5.toNat) + (Int.tmod x2 10))) + x3)) - (w32 (10 * 1))))) 82 2 (w32 (((am_upd U 83 x5.toNat (w32 ((w32 ((w32 ((U 83 x5.toNat) + (Int.tmod x2 10))) + x3)) - (w32 (10 * 1))))) 82 2) + 1))) 82 3 (if ((am_upd (am_upd U 83 x5.toNat (w32 ((w32 ((w32 ((U 83 x5.toNat) + (Int.tmod x2 10))) + x3)) - (w32 (10 * 1))))) 82 2 (w32 (((am_upd U 83 x5.toNat (w32 ((w32 ((w32 ((U 83 x5.toNat) + (Int.tmod x2 10))) + x3)) - (w32 (10 * 1))))) 82 2) + 1))) 82 3) < (w32 (x4 + 1)) then (w32 (x4 + 1)) else ((am_upd (am_upd U 83 x5.toNat (w32 ((w32 ((w32 ((U 83 x5.toNat) + (Int.tmod x2 10))) + x3)) - (w32 (10 * 1))))) 82 2 (w32 (((am_upd U 83 x5.toNat (w32 ((w32 ((w32 ((U 83 x5.toNat) + (Int.tmod x2 10))) + x3)) - (w32 (10 * 1))))) 82 2) + 1))) 82 3))) 82 1) < (w32 (x5 + 1)) then (w32 (x5 + 1)) else ((am_upd (am_upd (am_upd U 83 x5.toNat (w32 ((w32 ((w32 ((U 83 x5.toNat) + (Int.tmod x2 10))) + x3)) - (w32 (10 * 1))))) 82 2 (w32 (((am_upd U 83 x5.toNat (w32 ((w32 ((w32 ((U 83 x5.toNat) + (Int.tmod x2 10))) + x3)) - (w32 (10 * 1))))) 82 2) + 1))) 82 3 (if ((am_upd (am_upd U 83 x5.toNat (w32 ((w32 ((w32 ((U 83 x5.toNat) + (Int.tmod x2 10))) + x3)) - (w32 (10 * 1))))) 82 2 (w32 (((am_upd U 83 x5.toNat (w32 ((w32 ((w32 ((U 83 x5.toNat) + (Int.tmod x2 10))) + x3)) - (w32 (10 * 1))))) 82 2) + 1))) 82 3) < (w32 (x4 + 1)) then (w32 (x4 + 1)) else ((am_upd (am_upd U 83 x5.toNat (w32 ((w32 ((w32 ((U 83 x5.toNat) + (Int.tmod x2 10))) + x3)) - (w32 (10 * 1))))) 82 2 (w32 (((am_upd U 83 x5.toNat (w32 ((w32 ((w32 ((U 83 x5.toNat) + (Int.tmod x2 10))) + x3)) - (w32 (10 * 1))))) 82 2) + 1))) 82 3))) 82 1)))))) 2 (fun _ => rfl) ?_
          exact h22a2a2
set_option maxRecDepth 8000 in
theorem st240_3_44_0 (N : Nat) (X : Nat → Int) (d : Nat) (x2 x3 : Int) (U : Nat → Nat → Int) (R : Option am_V × am_M) (h : Ev (am_kz N X) ((d + 1), 240, 9, [some (.inr (.inr 3)), some (.inr (.inr 44)), some (.inl x2), some (.inl x3), some (.inl 0), some (.inl 0), some (.inl 0), none], [], (am_sh, am_mm U)) R) : Ev (am_kz N X) ((d + 1), 240, 0, [some (.inr (.inr 3)), some (.inr (.inr 44)), some (.inl x2), some (.inl x3), none, none, none, none], [], (am_sh, am_mm U)) R := by
  refine ev_seg (σ1 := ((d + 1), 240, 9, [some (.inr (.inr 3)), some (.inr (.inr 44)), some (.inl x2), some (.inl x3), some (.inl 0), some (.inl 0), some (.inl 0), none], [], (am_sh, am_mm U))) 6 (fun _ => rfl) ?_
  exact h
set_option maxRecDepth 8000 in
theorem st240_3_44_9 (N : Nat) (X : Nat → Int) (d : Nat) (x2 x3 x4 x5 x6 : Int) (U : Nat → Nat → Int) (R : Option am_V × am_M) (h : (((x3 ≤ x6 : Prop)) → (((¬ x5 = 0 : Prop)) → (0 ≤ x2 ∧ x2 < 4096) ∧ R = (none, (am_sh, am_mm (am_upd U 44 x2.toNat (w32 ((w32 (x5 * 16)) + x4)))))) ∧ (¬ (¬ x5 = 0) → (0 ≤ x2 ∧ x2 < 4096) ∧ R = (none, (am_sh, am_mm (am_upd U 44 x2.toNat (w32 ((w32 (x5 * 16)) + (w32 (x4 + 1))))))))) ∧ (¬ (x3 ≤ x6) → (((¬ (am_and (am_shr x2 x6) 1) = 1 : Prop)) → Ev (am_kz N X) ((d + 1), 240, 9, [some (.inr (.inr 3)), some (.inr (.inr 44)), some (.inl x2), some (.inl x3), some (.inl x4), some (.inl x5), some (.inl (w32 (x6 + 1))), none], [], (am_sh, am_mm U)) R) ∧ (¬ (¬ (am_and (am_shr x2 x6) 1) = 1) → (0 ≤ (am_and x2 (am_xor (am_shl 1 x6) (-1))) ∧ (am_and x2 (am_xor (am_shl 1 x6) (-1))) < 4096) ∧ (0 ≤ x6 ∧ x6 < 12) ∧ Ev (am_kz N X) ((d + 1), 240, 9, [some (.inr (.inr 3)), some (.inr (.inr 44)), some (.inl x2), some (.inl x3), some (.inl (if x4 < (am_and (U 44 (am_and x2 (am_xor (am_shl 1 x6) (-1))).toNat) 15) then (am_and (U 44 (am_and x2 (am_xor (am_shl 1 x6) (-1))).toNat) 15) else x4)), some (.inl (w32 ((am_shr (U 44 (am_and x2 (am_xor (am_shl 1 x6) (-1))).toNat) 4) + (U 11 x6.toNat)))), some (.inl (w32 (x6 + 1))), some (.inl (U 44 (am_and x2 (am_xor (am_shl 1 x6) (-1))).toNat))], [], (am_sh, am_mm U)) R))) : Ev (am_kz N X) ((d + 1), 240, 9, [some (.inr (.inr 3)), some (.inr (.inr 44)), some (.inl x2), some (.inl x3), some (.inl x4), some (.inl x5), some (.inl x6), none], [], (am_sh, am_mm U)) R := by
  refine ev_br (P := x3 ≤ x6) (σ1 := ((d + 1), 240, 69, [some (.inr (.inr 3)), some (.inr (.inr 44)), some (.inl x2), some (.inl x3), some (.inl x4), some (.inl x5), some (.inl x6), none], [], (am_sh, am_mm U))) (σ2 := ((d + 1), 240, 15, [some (.inr (.inr 3)), some (.inr (.inr 44)), some (.inl x2), some (.inl x3), some (.inl x4), some (.inl x5), some (.inl x6), none], [], (am_sh, am_mm U))) 3 (fun _ => rfl) (fun hc => ?_) (fun hc => ?_)
  · have h1 := h.1 hc
    refine ev_br (P := ¬ x5 = 0) (σ1 := ((d + 1), 240, 88, [some (.inr (.inr 3)), some (.inr (.inr 44)), some (.inl x2), some (.inl x3), some (.inl x4), some (.inl x5), some (.inl x6), none], [.inl (w32 (x5 * 16)), .inl x2, .inr (.inr 44)], (am_sh, am_mm U))) (σ2 := ((d + 1), 240, 81, [some (.inr (.inr 3)), some (.inr (.inr 44)), some (.inl x2), some (.inl x3), some (.inl x4), some (.inl x5), some (.inl x6), none], [.inl (w32 (x5 * 16)), .inl x2, .inr (.inr 44)], (am_sh, am_mm U))) 7 (fun _ => rfl) (fun hc => ?_) (fun hc => ?_)
    · have h11 := h1.1 hc
      refine ev_seg (σ1 := ((d + 1), 240, 91, [some (.inr (.inr 3)), some (.inr (.inr 44)), some (.inl x2), some (.inl x3), some (.inl x4), some (.inl x5), some (.inl x6), none], [.inl (w32 ((w32 (x5 * 16)) + x4)), .inl x2, .inr (.inr 44)], (am_sh, am_mm U))) 2 (fun _ => rfl) ?_
      refine eu_iast 44 (n := 4096) rfl (by decide) rfl (fun _ => rfl) h11.1 ?_
      have h11a := h11.2
      subst h11a
      exact ev_end 1 (fun _ => rfl)
    · have h12 := h1.2 hc
      refine ev_seg (σ1 := ((d + 1), 240, 91, [some (.inr (.inr 3)), some (.inr (.inr 44)), some (.inl x2), some (.inl x3), some (.inl x4), some (.inl x5), some (.inl x6), none], [.inl (w32 ((w32 (x5 * 16)) + (w32 (x4 + 1)))), .inl x2, .inr (.inr 44)], (am_sh, am_mm U))) 5 (fun _ => rfl) ?_
      refine eu_iast 44 (n := 4096) rfl (by decide) rfl (fun _ => rfl) h12.1 ?_
      have h12a := h12.2
      subst h12a
      exact ev_end 1 (fun _ => rfl)
  · have h2 := h.2 hc
    refine ev_br (P := ¬ (am_and (am_shr x2 x6) 1) = 1) (σ1 := ((d + 1), 240, 63, [some (.inr (.inr 3)), some (.inr (.inr 44)), some (.inl x2), some (.inl x3), some (.inl x4), some (.inl x5), some (.inl x6), none], [], (am_sh, am_mm U))) (σ2 := ((d + 1), 240, 25, [some (.inr (.inr 3)), some (.inr (.inr 44)), some (.inl x2), some (.inl x3), some (.inl x4), some (.inl x5), some (.inl x6), none], [], (am_sh, am_mm U))) 7 (fun _ => rfl) (fun hc => ?_) (fun hc => ?_)
    · have h21 := h2.1 hc
      refine ev_seg (σ1 := ((d + 1), 240, 9, [some (.inr (.inr 3)), some (.inr (.inr 44)), some (.inl x2), some (.inl x3), some (.inl x4), some (.inl x5), some (.inl (w32 (x6 + 1))), none], [], (am_sh, am_mm U))) 2 (fun _ => rfl) ?_
      exact h21
    · have h22 := h2.2 hc
      refine ev_seg (σ1 := ((d + 1), 240, 34, [some (.inr (.inr 3)), some (.inr (.inr 44)), some (.inl x2), some (.inl x3), some (.inl x4), some (.inl x5), some (.inl x6), none], [.inl (am_and x2 (am_xor (am_shl 1 x6) (-1))), .inr (.inr 44)], (am_sh, am_mm U))) 8 (fun _ => rfl) ?_
      refine eu_iald 44 (n := 4096) rfl (by decide) rfl (fun _ => rfl) h22.1 ?_
      have h22a := h22.2
      refine ev_seg (σ1 := ((d + 1), 240, 59, [some (.inr (.inr 3)), some (.inr (.inr 44)), some (.inl x2), some (.inl x3), some (.inl (if x4 < (am_and (U 44 (am_and x2 (am_xor (am_shl 1 x6) (-1))).toNat) 15) then (am_and (U 44 (am_and x2 (am_xor (am_shl 1 x6) (-1))).toNat) 15) else x4)), some (.inl x5), some (.inl x6), some (.inl (U 44 (am_and x2 (am_xor (am_shl 1 x6) (-1))).toNat))], [.inl x6, .inr (.inr 11), .inl (am_shr (U 44 (am_and x2 (am_xor (am_shl 1 x6) (-1))).toNat) 4)], (am_sh, am_mm U))) 13 (fun _ => rfl) ?_
      refine eu_iald 11 (n := 12) rfl (by decide) rfl (fun _ => rfl) h22a.1 ?_
      have h22aa := h22a.2
      refine ev_seg (σ1 := ((d + 1), 240, 9, [some (.inr (.inr 3)), some (.inr (.inr 44)), some (.inl x2), some (.inl x3), some (.inl (if x4 < (am_and (U 44 (am_and x2 (am_xor (am_shl 1 x6) (-1))).toNat) 15) then (am_and (U 44 (am_and x2 (am_xor (am_shl 1 x6) (-1))).toNat) 15) else x4)), some (.inl (w32 ((am_shr (U 44 (am_and x2 (am_xor (am_shl 1 x6) (-1))).toNat) 4) + (U 11 x6.toNat)))), some (.inl (w32 (x6 + 1))), some (.inl (U 44 (am_and x2 (am_xor (am_shl 1 x6) (-1))).toNat))], [], (am_sh, am_mm U))) 4 (fun _ => rfl) ?_
      exact h22aa
set_option maxRecDepth 8000 in
theorem st241_78_0 (N : Nat) (X : Nat → Int) (d : Nat) (U : Nat → Nat → Int) (R : Option am_V × am_M) (h : Ev (am_kz N X) ((d + 1), 241, 2, [some (.inr (.inr 78)), some (.inl 1), none], [], (am_sh, am_mm U)) R) : Ev (am_kz N X) ((d + 1), 241, 0, [some (.inr (.inr 78)), none, none], [], (am_sh, am_mm U)) R := by
  refine ev_seg (σ1 := ((d + 1), 241, 2, [some (.inr (.inr 78)), some (.inl 1), none], [], (am_sh, am_mm U))) 2 (fun _ => rfl) ?_
  exact h
set_option maxRecDepth 8000 in
theorem st241_78_2 (N : Nat) (X : Nat → Int) (d : Nat) (x1 : Int) (U : Nat → Nat → Int) (R : Option am_V × am_M) (h : (((24 < x1 : Prop)) → R = (none, (am_sh, am_mm U))) ∧ (¬ (24 < x1) → Ev (am_kz N X) ((d + 1), 241, 10, [some (.inr (.inr 78)), some (.inl x1), some (.inl 1)], [], (am_sh, am_mm U)) R)) : Ev (am_kz N X) ((d + 1), 241, 2, [some (.inr (.inr 78)), some (.inl x1), none], [], (am_sh, am_mm U)) R := by
  refine ev_br (P := 24 < x1) (σ1 := ((d + 1), 241, 53, [some (.inr (.inr 78)), some (.inl x1), none], [], (am_sh, am_mm U))) (σ2 := ((d + 1), 241, 8, [some (.inr (.inr 78)), some (.inl x1), none], [], (am_sh, am_mm U))) 3 (fun _ => rfl) (fun hc => ?_) (fun hc => ?_)
  · have h1 := h.1 hc
    subst h1
    exact ev_end 1 (fun _ => rfl)
  · have h2 := h.2 hc
    refine ev_seg (σ1 := ((d + 1), 241, 10, [some (.inr (.inr 78)), some (.inl x1), some (.inl 1)], [], (am_sh, am_mm U))) 2 (fun _ => rfl) ?_
    exact h2
set_option maxRecDepth 8000 in
theorem st241_78_10 (N : Nat) (X : Nat → Int) (d : Nat) (x1 x2 : Int) (U : Nat → Nat → Int) (R : Option am_V × am_M) (h : (((24 < x2 : Prop)) → Ev (am_kz N X) ((d + 1), 241, 2, [some (.inr (.inr 78)), some (.inl (w32 (x1 + 1))), some (.inl x2)], [], (am_sh, am_mm U)) R) ∧ (¬ (24 < x2) → (0 ≤ x1 ∧ x1 < 25) ∧ ∃ (r1 : Int) (U1 : Nat → Nat → Int), Ev (am_kz N X) (d, 153, 0, [some (.inl x1), some (.inl x2), none, none, none, none], [], (am_sh, am_mm U)) (some (.inl r1), (am_sh, am_mm U1)) ∧ (((r1 ≤ 1 : Prop)) → (0 ≤ x1 ∧ x1 < 25) ∧ Ev (am_kz N X) ((d + 1), 241, 10, [some (.inr (.inr 78)), some (.inl x1), some (.inl (w32 (x2 + 1)))], [], (am_sh, am_mm (am_upd U1 79 x1.toNat (am_or (U 79 x1.toNat) 0)))) R) ∧ (¬ (r1 ≤ 1) → (0 ≤ x1 ∧ x1 < 25) ∧ Ev (am_kz N X) ((d + 1), 241, 10, [some (.inr (.inr 78)), some (.inl x1), some (.inl (w32 (x2 + 1)))], [], (am_sh, am_mm (am_upd U1 79 x1.toNat (am_or (U 79 x1.toNat) (am_shl 1 x2))))) R))) : Ev (am_kz N X) ((d + 1), 241, 10, [some (.inr (.inr 78)), some (.inl x1), some (.inl x2)], [], (am_sh, am_mm U)) R := by
  refine ev_br (P := 24 < x2) (σ1 := ((d + 1), 241, 47, [some (.inr (.inr 78)), some (.inl x1), some (.inl x2)], [], (am_sh, am_mm U))) (σ2 := ((d + 1), 241, 16, [some (.inr (.inr 78)), some (.inl x1), some (.inl x2)], [], (am_sh, am_mm U))) 3 (fun _ => rfl) (fun hc => ?_) (fun hc => ?_)
  · have h1 := h.1 hc
    refine ev_seg (σ1 := ((d + 1), 241, 2, [some (.inr (.inr 78)), some (.inl (w32 (x1 + 1))), some (.inl x2)], [], (am_sh, am_mm U))) 2 (fun _ => rfl) ?_
    exact h1
  · have h2 := h.2 hc
    refine ev_seg (σ1 := ((d + 1), 241, 22, [some (.inr (.inr 78)), some (.inl x1), some (.inl x2)], [.inl x1, .inr (.inr 79), .inl x1, .inr (.inr 79)], (am_sh, am_mm U))) 4 (fun _ => rfl) ?_
    refine eu_iald 79 (n := 25) rfl (by decide) rfl (fun _ => rfl) h2.1 ?_
    have h2a := h2.2
    refine ev_seg (σ1 := ((d + 1), 241, 25, [some (.inr (.inr 78)), some (.inl x1), some (.inl x2)], [.inl x2, .inl x1, .inl (U 79 x1.toNat), .inl x1, .inr (.inr 79)], (am_sh, am_mm U))) 2 (fun _ => rfl) ?_
    obtain ⟨r1, U1, h2ac, h2aa⟩ := h2a
    refine ev_cal (σc := (d, 153, 0, [some (.inl x1), some (.inl x2), none, none, none, none], [], (am_sh, am_mm U))) (fun _ => rfl) h2ac ?_
    show Ev (am_kz N X) ((d + 1), 241, 28, [some (.inr (.inr 78)), some (.inl x1), some (.inl x2)], [.inl r1, .inl (U 79 x1.toNat), .inl x1, .inr (.inr 79)], (am_sh, am_mm U1)) R
    refine ev_br (P := r1 ≤ 1) (σ1 := ((d + 1), 241, 38, [some (.inr (.inr 78)), some (.inl x1), some (.inl x2)], [.inl (U 79 x1.toNat), .inl x1, .inr (.inr 79)], (am_sh, am_mm U1))) (σ2 := ((d + 1), 241, 32, [some (.inr (.inr 78)), some (.inl x1), some (.inl x2)], [.inl (U 79 x1.toNat), .inl x1, .inr (.inr 79)], (am_sh, am_mm U1))) 2 (fun _ => rfl) (fun hc => ?_) (fun hc => ?_)
    · have h2aa1 := h2aa.1 hc
      refine ev_seg (σ1 := ((d + 1), 241, 40, [some (.inr (.inr 78)), some (.inl x1), some (.inl x2)], [.inl (am_or (U 79 x1.toNat) 0), .inl x1, .inr (.inr 79)], (am_sh, am_mm U1))) 2 (fun _ => rfl) ?_
      refine eu_iast 79 (n := 25) rfl (by decide) rfl (fun _ => rfl) h2aa1.1 ?_
      have h2aa1a := h2aa1.2
      refine ev_seg (σ1 := ((d + 1), 241, 10, [some (.inr (.inr 78)), some (.inl x1), some (.inl (w32 (x2 + 1)))], [], (am_sh, am_mm (am_upd U1 79 x1.toNat (am_or (U 79 x1.toNat) 0))))) 2 (fun _ => rfl) ?_
      exact h2aa1a
    · have h2aa2 := h2aa.2 hc
      refine ev_seg (σ1 := ((d + 1), 241, 40, [some (.inr (.inr 78)), some (.inl x1), some (.inl x2)], [.inl (am_or (U 79 x1.toNat) (am_shl 1 x2)), .inl x1, .inr (.inr 79)], (am_sh, am_mm U1))) 5 (fun _ => rfl) ?_
      refine eu_iast 79 (n := 25) rfl (by decide) rfl (fun _ => rfl) h2aa2.1 ?_
      have h2aa2a := h2aa2.2
      refine ev_seg (σ1 := ((d + 1), 241, 10, [some (.inr (.inr 78)), some (.inl x1), some (.inl (w32 (x2 + 1)))], [], (am_sh, am_mm (am_upd U1 79 x1.toNat (am_or (U 79 x1.toNat) (am_shl 1 x2)))))) 2 (fun _ => rfl) ?_
      exact h2aa2a
set_option maxRecDepth 8000 in
theorem st242_78_2_0 (N : Nat) (X : Nat → Int) (d : Nat) (x1 : Int) (U : Nat → Nat → Int) (R : Option am_V × am_M) (h : Ev (am_kz N X) ((d + 1), 242, 8, [some (.inr (.inr 78)), some (.inl x1), some (.inr (.inr 2)), some (.inl (U 78 4)), some (.inl 0), none], [], (am_sh, am_mm U)) R) : Ev (am_kz N X) ((d + 1), 242, 0, [some (.inr (.inr 78)), some (.inl x1), some (.inr (.inr 2)), none, none, none], [], (am_sh, am_mm U)) R := by
  refine ev_seg (σ1 := ((d + 1), 242, 8, [some (.inr (.inr 78)), some (.inl x1), some (.inr (.inr 2)), some (.inl (U 78 4)), some (.inl 0), none], [], (am_sh, am_mm U))) 5 (fun _ => rfl) ?_
  exact h
set_option maxRecDepth 8000 in
theorem st242_78_2_8 (N : Nat) (X : Nat → Int) (d : Nat) (x1 x3 x4 : Int) (U : Nat → Nat → Int) (R : Option am_V × am_M) (h : (((x1 ≤ x4 : Prop)) → ((((U 78 3) ≤ (w32 (x1 + 1)) : Prop)) → ∃ U1 : Nat → Nat → Int, Ev (am_kz N X) (d, 286, 0, [some (.inr (.inr 78)), some (.inl x1), some (.inl x3)], [], (am_sh, am_mm U)) (none, (am_sh, am_mm U1)) ∧ ∃ (r2 : Int) (U2 : Nat → Nat → Int), Ev (am_kz N X) (d, 98, 0, [some (.inl x3)], [], (am_sh, am_mm U1)) (some (.inl r2), (am_sh, am_mm U2)) ∧ R = (none, (am_sh, am_mm (am_upd U2 78 5 (w32 ((U1 78 5) + r2)))))) ∧ (¬ ((U 78 3) ≤ (w32 (x1 + 1))) → ((((w32 (x1 + 1)) < 4 : Prop)) → Ev (am_kz N X) ((d + 1), 242, 119, [some (.inr (.inr 78)), some (.inl x1), some (.inr (.inr 2)), some (.inl x3), some (.inl 1), none], [], (am_sh, am_mm U)) R) ∧ (¬ ((w32 (x1 + 1)) < 4) → ∃ U3 : Nat → Nat → Int, Ev (am_kz N X) (d, 286, 0, [some (.inr (.inr 78)), some (.inl x1), some (.inl x3)], [], (am_sh, am_mm U)) (none, (am_sh, am_mm U3)) ∧ ∃ (r4 : Int) (U4 : Nat → Nat → Int), Ev (am_kz N X) (d, 98, 0, [some (.inl x3)], [], (am_sh, am_mm U3)) (some (.inl r4), (am_sh, am_mm U4)) ∧ R = (none, (am_sh, am_mm (am_upd U4 78 5 (w32 ((U3 78 5) + r4)))))))) ∧ (¬ (x1 ≤ x4) → ∃ (r5 : Int) (U5 : Nat → Nat → Int), Ev (am_kz N X) (d, 285, 0, [some (.inr (.inr 78)), some (.inl x4), some (.inl x1)], [], (am_sh, am_mm U)) (some (.inl r5), (am_sh, am_mm U5)) ∧ (0 ≤ (w32 (2 + r5)) ∧ (w32 (2 + r5)) < 1600) ∧ (((¬ (U5 2 (w32 (2 + r5)).toNat) = 1 : Prop)) → (((0 = 0 : Prop)) → (0 ≤ x4 ∧ x4 < 4) ∧ (0 ≤ (U5 80 x4.toNat) ∧ (U5 80 x4.toNat) < 25) ∧ Ev (am_kz N X) ((d + 1), 242, 8, [some (.inr (.inr 78)), some (.inl x1), some (.inr (.inr 2)), some (.inl (am_and x3 (am_xor (U5 79 (U5 80 x4.toNat).toNat) (-1)))), some (.inl (w32 (x4 + 1))), some (.inl 0)], [], (am_sh, am_mm U5)) R) ∧ (¬ (0 = 0) → (0 ≤ x4 ∧ x4 < 4) ∧ (0 ≤ (U5 80 x4.toNat) ∧ (U5 80 x4.toNat) < 25) ∧ Ev (am_kz N X) ((d + 1), 242, 8, [some (.inr (.inr 78)), some (.inl x1), some (.inr (.inr 2)), some (.inl (am_and x3 (U5 79 (U5 80 x4.toNat).toNat))), some (.inl (w32 (x4 + 1))), some (.inl 0)], [], (am_sh, am_mm U5)) R)) ∧ (¬ (¬ (U5 2 (w32 (2 + r5)).toNat) = 1) → (((1 = 0 : Prop)) → (0 ≤ x4 ∧ x4 < 4) ∧ (0 ≤ (U5 80 x4.toNat) ∧ (U5 80 x4.toNat) < 25) ∧ Ev (am_kz N X) ((d + 1), 242, 8, [some (.inr (.inr 78)), some (.inl x1), some (.inr (.inr 2)), some (.inl (am_and x3 (am_xor (U5 79 (U5 80 x4.toNat).toNat) (-1)))), some (.inl (w32 (x4 + 1))), some (.inl 1)], [], (am_sh, am_mm U5)) R) ∧ (¬ (1 = 0) → (0 ≤ x4 ∧ x4 < 4) ∧ (0 ≤ (U5 80 x4.toNat) ∧ (U5 80 x4.toNat) < 25) ∧ Ev (am_kz N X) ((d + 1), 242, 8, [some (.inr (.inr 78)), some (.inl x1), some (.inr (.inr 2)), some (.inl (am_and x3 (U5 79 (U5 80 x4.toNat).toNat))), some (.inl (w32 (x4 + 1))), some (.inl 1)], [], (am_sh, am_mm U5)) R)))) : Ev (am_kz N X) ((d + 1), 242, 8, [some (.inr (.inr 78)), some (.inl x1), some (.inr (.inr 2)), some (.inl x3), some (.inl x4), none], [], (am_sh, am_mm U)) R := by
  refine ev_br (P := x1 ≤ x4) (σ1 := ((d + 1), 242, 79, [some (.inr (.inr 78)), some (.inl x1), some (.inr (.inr 2)), some (.inl x3), some (.inl x4), none], [], (am_sh, am_mm U))) (σ2 := ((d + 1), 242, 14, [some (.inr (.inr 78)), some (.inl x1), some (.inr (.inr 2)), some (.inl x3), some (.inl x4), none], [], (am_sh, am_mm U))) 3 (fun _ => rfl) (fun hc => ?_) (fun hc => ?_)
  · have h1 := h.1 hc
    refine ev_br (P := (U 78 3) ≤ (w32 (x1 + 1))) (σ1 := ((d + 1), 242, 96, [some (.inr (.inr 78)), some (.inl x1), some (.inr (.inr 2)), some (.inl x3), some (.inl x4), none], [], (am_sh, am_mm U))) (σ2 := ((d + 1), 242, 89, [some (.inr (.inr 78)), some (.inl x1), some (.inr (.inr 2)), some (.inl x3), some (.inl x4), none], [], (am_sh, am_mm U))) 6 (fun _ => rfl) (fun hc => ?_) (fun hc => ?_)
    · have h11 := h1.1 hc
      refine ev_seg (σ1 := ((d + 1), 242, 99, [some (.inr (.inr 78)), some (.inl x1), some (.inr (.inr 2)), some (.inl x3), some (.inl x4), none], [.inl x3, .inl x1, .inr (.inr 78)], (am_sh, am_mm U))) 3 (fun _ => rfl) ?_
      obtain ⟨U1, h11c, h11a⟩ := h11
      refine ev_cal (σc := (d, 286, 0, [some (.inr (.inr 78)), some (.inl x1), some (.inl x3)], [], (am_sh, am_mm U))) (fun _ => rfl) h11c ?_
      show Ev (am_kz N X) ((d + 1), 242, 102, [some (.inr (.inr 78)), some (.inl x1), some (.inr (.inr 2)), some (.inl x3), some (.inl x4), none], [], (am_sh, am_mm U1)) R
      refine ev_seg (σ1 := ((d + 1), 242, 108, [some (.inr (.inr 78)), some (.inl x1), some (.inr (.inr 2)), some (.inl x3), some (.inl x4), none], [.inl x3, .inl (U1 78 5), .inr (.inr 78)], (am_sh, am_mm U1))) 4 (fun _ => rfl) ?_
      obtain ⟨r2, U2, h11ac, h11aa⟩ := h11a
      refine ev_cal (σc := (d, 98, 0, [some (.inl x3)], [], (am_sh, am_mm U1))) (fun _ => rfl) h11ac ?_
      show Ev (am_kz N X) ((d + 1), 242, 111, [some (.inr (.inr 78)), some (.inl x1), some (.inr (.inr 2)), some (.inl x3), some (.inl x4), none], [.inl r2, .inl (U1 78 5), .inr (.inr 78)], (am_sh, am_mm U2)) R
      refine ev_seg (σ1 := ((d + 1), 242, 112, [some (.inr (.inr 78)), some (.inl x1), some (.inr (.inr 2)), some (.inl x3), some (.inl x4), none], [.inl (w32 ((U1 78 5) + r2)), .inr (.inr 78)], (am_sh, am_mm U2))) 1 (fun _ => rfl) ?_
      refine eu_puti 78 (n := 6) rfl (by decide) rfl rfl ?_
      subst h11aa
      exact ev_end 1 (fun _ => rfl)
    · have h12 := h1.2 hc
      refine ev_br (P := (w32 (x1 + 1)) < 4) (σ1 := ((d + 1), 242, 116, [some (.inr (.inr 78)), some (.inl x1), some (.inr (.inr 2)), some (.inl x3), some (.inl x4), none], [], (am_sh, am_mm U))) (σ2 := ((d + 1), 242, 96, [some (.inr (.inr 78)), some (.inl x1), some (.inr (.inr 2)), some (.inl x3), some (.inl x4), none], [], (am_sh, am_mm U))) 5 (fun _ => rfl) (fun hc => ?_) (fun hc => ?_)
      · have h121 := h12.1 hc
        refine ev_seg (σ1 := ((d + 1), 242, 119, [some (.inr (.inr 78)), some (.inl x1), some (.inr (.inr 2)), some (.inl x3), some (.inl 1), none], [], (am_sh, am_mm U))) 2 (fun _ => rfl) ?_
        exact h121
      · have h122 := h12.2 hc
        refine ev_seg (σ1 := ((d + 1), 242, 99, [some (.inr (.inr 78)), some (.inl x1), some (.inr (.inr 2)), some (.inl x3), some (.inl x4), none], [.inl x3, .inl x1, .inr (.inr 78)], (am_sh, am_mm U))) 3 (fun _ => rfl) ?_
        obtain ⟨U3, h122c, h122a⟩ := h122
        refine ev_cal (σc := (d, 286, 0, [some (.inr (.inr 78)), some (.inl x1), some (.inl x3)], [], (am_sh, am_mm U))) (fun _ => rfl) h122c ?_
        show Ev (am_kz N X) ((d + 1), 242, 102, [some (.inr (.inr 78)), some (.inl x1), some (.inr (.inr 2)), some (.inl x3), some (.inl x4), none], [], (am_sh, am_mm U3)) R
        refine ev_seg (σ1 := ((d + 1), 242, 108, [some (.inr (.inr 78)), some (.inl x1), some (.inr (.inr 2)), some (.inl x3), some (.inl x4), none], [.inl x3, .inl (U3 78 5), .inr (.inr 78)], (am_sh, am_mm U3))) 4 (fun _ => rfl) ?_
        obtain ⟨r4, U4, h122ac, h122aa⟩ := h122a
        refine ev_cal (σc := (d, 98, 0, [some (.inl x3)], [], (am_sh, am_mm U3))) (fun _ => rfl) h122ac ?_
        show Ev (am_kz N X) ((d + 1), 242, 111, [some (.inr (.inr 78)), some (.inl x1), some (.inr (.inr 2)), some (.inl x3), some (.inl x4), none], [.inl r4, .inl (U3 78 5), .inr (.inr 78)], (am_sh, am_mm U4)) R
        refine ev_seg (σ1 := ((d + 1), 242, 112, [some (.inr (.inr 78)), some (.inl x1), some (.inr (.inr 2)), some (.inl x3), some (.inl x4), none], [.inl (w32 ((U3 78 5) + r4)), .inr (.inr 78)], (am_sh, am_mm U4))) 1 (fun _ => rfl) ?_
        refine eu_puti 78 (n := 6) rfl (by decide) rfl rfl ?_
        subst h122aa
        exact ev_end 1 (fun _ => rfl)
  · have h2 := h.2 hc
    refine ev_seg (σ1 := ((d + 1), 242, 20, [some (.inr (.inr 78)), some (.inl x1), some (.inr (.inr 2)), some (.inl x3), some (.inl x4), none], [.inl x1, .inl x4, .inr (.inr 78), .inl 2, .inr (.inr 2)], (am_sh, am_mm U))) 5 (fun _ => rfl) ?_
    obtain ⟨r5, U5, h2c, h2a⟩ := h2
    refine ev_cal (σc := (d, 285, 0, [some (.inr (.inr 78)), some (.inl x4), some (.inl x1)], [], (am_sh, am_mm U))) (fun _ => rfl) h2c ?_
    show Ev (am_kz N X) ((d + 1), 242, 23, [some (.inr (.inr 78)), some (.inl x1), some (.inr (.inr 2)), some (.inl x3), some (.inl x4), none], [.inl r5, .inl 2, .inr (.inr 2)], (am_sh, am_mm U5)) R
    refine ev_seg (σ1 := ((d + 1), 242, 24, [some (.inr (.inr 78)), some (.inl x1), some (.inr (.inr 2)), some (.inl x3), some (.inl x4), none], [.inl (w32 (2 + r5)), .inr (.inr 2)], (am_sh, am_mm U5))) 1 (fun _ => rfl) ?_
    refine eu_iald 2 (n := 1600) rfl (by decide) rfl (fun _ => rfl) h2a.1 ?_
    have h2aa := h2a.2
    refine ev_br (P := ¬ (U5 2 (w32 (2 + r5)).toNat) = 1) (σ1 := ((d + 1), 242, 33, [some (.inr (.inr 78)), some (.inl x1), some (.inr (.inr 2)), some (.inl x3), some (.inl x4), none], [], (am_sh, am_mm U5))) (σ2 := ((d + 1), 242, 29, [some (.inr (.inr 78)), some (.inl x1), some (.inr (.inr 2)), some (.inl x3), some (.inl x4), none], [], (am_sh, am_mm U5))) 2 (fun _ => rfl) (fun hc => ?_) (fun hc => ?_)
    · have h2aa1 := h2aa.1 hc
      refine ev_br (P := 0 = 0) (σ1 := ((d + 1), 242, 57, [some (.inr (.inr 78)), some (.inl x1), some (.inr (.inr 2)), some (.inl x3), some (.inl x4), some (.inl 0)], [.inl x3], (am_sh, am_mm U5))) (σ2 := ((d + 1), 242, 42, [some (.inr (.inr 78)), some (.inl x1), some (.inr (.inr 2)), some (.inl x3), some (.inl x4), some (.inl 0)], [.inl x3], (am_sh, am_mm U5))) 5 (fun _ => rfl) (fun hc => ?_) (fun hc => ?_)
      · have h2aa11 := h2aa1.1 hc
        refine ev_seg (σ1 := ((d + 1), 242, 67, [some (.inr (.inr 78)), some (.inl x1), some (.inr (.inr 2)), some (.inl x3), some (.inl x4), some (.inl 0)], [.inl x4, .inr (.inr 80), .inr (.inr 79), .inl x3], (am_sh, am_mm U5))) 5 (fun _ => rfl) ?_
        refine eu_iald 80 (n := 4) rfl (by decide) rfl (fun _ => rfl) h2aa11.1 ?_
        have h2aa11a := h2aa11.2
        refine eu_iald 79 (n := 25) rfl (by decide) rfl (fun _ => rfl) h2aa11a.1 ?_
        have h2aa11aa := h2aa11a.2
        refine ev_seg (σ1 := ((d + 1), 242, 8, [some (.inr (.inr 78)), some (.inl x1), some (.inr (.inr 2)), some (.inl (am_and x3 (am_xor (U5 79 (U5 80 x4.toNat).toNat) (-1)))), some (.inl (w32 (x4 + 1))), some (.inl 0)], [], (am_sh, am_mm U5))) 6 (fun _ => rfl) ?_
        exact h2aa11aa
      · have h2aa12 := h2aa1.2 hc
        refine ev_seg (σ1 := ((d + 1), 242, 52, [some (.inr (.inr 78)), some (.inl x1), some (.inr (.inr 2)), some (.inl x3), some (.inl x4), some (.inl 0)], [.inl x4, .inr (.inr 80), .inr (.inr 79), .inl x3], (am_sh, am_mm U5))) 5 (fun _ => rfl) ?_
        refine eu_iald 80 (n := 4) rfl (by decide) rfl (fun _ => rfl) h2aa12.1 ?_
        have h2aa12a := h2aa12.2
        refine eu_iald 79 (n := 25) rfl (by decide) rfl (fun _ => rfl) h2aa12a.1 ?_
        have h2aa12aa := h2aa12a.2
        refine ev_seg (σ1 := ((d + 1), 242, 8, [some (.inr (.inr 78)), some (.inl x1), some (.inr (.inr 2)), some (.inl (am_and x3 (U5 79 (U5 80 x4.toNat).toNat))), some (.inl (w32 (x4 + 1))), some (.inl 0)], [], (am_sh, am_mm U5))) 5 (fun _ => rfl) ?_
        exact h2aa12aa
    · have h2aa2 := h2aa.2 hc
      refine ev_br (P := 1 = 0) (σ1 := ((d + 1), 242, 57, [some (.inr (.inr 78)), some (.inl x1), some (.inr (.inr 2)), some (.inl x3), some (.inl x4), some (.inl 1)], [.inl x3], (am_sh, am_mm U5))) (σ2 := ((d + 1), 242, 42, [some (.inr (.inr 78)), some (.inl x1), some (.inr (.inr 2)), some (.inl x3), some (.inl x4), some (.inl 1)], [.inl x3], (am_sh, am_mm U5))) 6 (fun _ => rfl) (fun hc => ?_) (fun hc => ?_)
      · have h2aa21 := h2aa2.1 hc
        refine ev_seg (σ1 := ((d + 1), 242, 67, [some (.inr (.inr 78)), some (.inl x1), some (.inr (.inr 2)), some (.inl x3), some (.inl x4), some (.inl 1)], [.inl x4, .inr (.inr 80), .inr (.inr 79), .inl x3], (am_sh, am_mm U5))) 5 (fun _ => rfl) ?_
        refine eu_iald 80 (n := 4) rfl (by decide) rfl (fun _ => rfl) h2aa21.1 ?_
        have h2aa21a := h2aa21.2
        refine eu_iald 79 (n := 25) rfl (by decide) rfl (fun _ => rfl) h2aa21a.1 ?_
        have h2aa21aa := h2aa21a.2
        refine ev_seg (σ1 := ((d + 1), 242, 8, [some (.inr (.inr 78)), some (.inl x1), some (.inr (.inr 2)), some (.inl (am_and x3 (am_xor (U5 79 (U5 80 x4.toNat).toNat) (-1)))), some (.inl (w32 (x4 + 1))), some (.inl 1)], [], (am_sh, am_mm U5))) 6 (fun _ => rfl) ?_
        exact h2aa21aa
      · have h2aa22 := h2aa2.2 hc
        refine ev_seg (σ1 := ((d + 1), 242, 52, [some (.inr (.inr 78)), some (.inl x1), some (.inr (.inr 2)), some (.inl x3), some (.inl x4), some (.inl 1)], [.inl x4, .inr (.inr 80), .inr (.inr 79), .inl x3], (am_sh, am_mm U5))) 5 (fun _ => rfl) ?_
        refine eu_iald 80 (n := 4) rfl (by decide) rfl (fun _ => rfl) h2aa22.1 ?_
        have h2aa22a := h2aa22.2
        refine eu_iald 79 (n := 25) rfl (by decide) rfl (fun _ => rfl) h2aa22a.1 ?_
        have h2aa22aa := h2aa22a.2
        refine ev_seg (σ1 := ((d + 1), 242, 8, [some (.inr (.inr 78)), some (.inl x1), some (.inr (.inr 2)), some (.inl (am_and x3 (U5 79 (U5 80 x4.toNat).toNat))), some (.inl (w32 (x4 + 1))), some (.inl 1)], [], (am_sh, am_mm U5))) 5 (fun _ => rfl) ?_
        exact h2aa22aa
set_option maxRecDepth 8000 in
theorem st242_78_2_119 (N : Nat) (X : Nat → Int) (d : Nat) (x1 x3 x4 : Int) (U : Nat → Nat → Int) (R : Option am_V × am_M) (h : (((24 < x4 : Prop)) → R = (none, (am_sh, am_mm U))) ∧ (¬ (24 < x4) → (((¬ (am_and (am_shr x3 x4) 1) = 1 : Prop)) → Ev (am_kz N X) ((d + 1), 242, 119, [some (.inr (.inr 78)), some (.inl x1), some (.inr (.inr 2)), some (.inl x3), some (.inl (w32 (x4 + 1))), none], [], (am_sh, am_mm U)) R) ∧ (¬ (¬ (am_and (am_shr x3 x4) 1) = 1) → (0 ≤ x1 ∧ x1 < 4) ∧ ∃ U1 : Nat → Nat → Int, Ev (am_kz N X) (d, 242, 0, [some (.inr (.inr 78)), some (.inl (w32 (x1 + 1))), some (.inr (.inr 2)), none, none, none], [], (am_sh, am_mm (am_upd U 80 x1.toNat x4))) (none, (am_sh, am_mm U1)) ∧ Ev (am_kz N X) ((d + 1), 242, 119, [some (.inr (.inr 78)), some (.inl x1), some (.inr (.inr 2)), some (.inl x3), some (.inl (w32 (x4 + 1))), none], [], (am_sh, am_mm U1)) R))) : Ev (am_kz N X) ((d + 1), 242, 119, [some (.inr (.inr 78)), some (.inl x1), some (.inr (.inr 2)), some (.inl x3), some (.inl x4), none], [], (am_sh, am_mm U)) R := by
  refine ev_br (P := 24 < x4) (σ1 := ((d + 1), 242, 158, [some (.inr (.inr 78)), some (.inl x1), some (.inr (.inr 2)), some (.inl x3), some (.inl x4), none], [], (am_sh, am_mm U))) (σ2 := ((d + 1), 242, 126, [some (.inr (.inr 78)), some (.inl x1), some (.inr (.inr 2)), some (.inl x3), some (.inl x4), none], [], (am_sh, am_mm U))) 3 (fun _ => rfl) (fun hc => ?_) (fun hc => ?_)
  · have h1 := h.1 hc
    subst h1
    exact ev_end 1 (fun _ => rfl)
  · have h2 := h.2 hc
    refine ev_br (P := ¬ (am_and (am_shr x3 x4) 1) = 1) (σ1 := ((d + 1), 242, 152, [some (.inr (.inr 78)), some (.inl x1), some (.inr (.inr 2)), some (.inl x3), some (.inl x4), none], [], (am_sh, am_mm U))) (σ2 := ((d + 1), 242, 136, [some (.inr (.inr 78)), some (.inl x1), some (.inr (.inr 2)), some (.inl x3), some (.inl x4), none], [], (am_sh, am_mm U))) 7 (fun _ => rfl) (fun hc => ?_) (fun hc => ?_)
    · have h21 := h2.1 hc
      refine ev_seg (σ1 := ((d + 1), 242, 119, [some (.inr (.inr 78)), some (.inl x1), some (.inr (.inr 2)), some (.inl x3), some (.inl (w32 (x4 + 1))), none], [], (am_sh, am_mm U))) 2 (fun _ => rfl) ?_
      exact h21
    · have h22 := h2.2 hc
      refine ev_seg (σ1 := ((d + 1), 242, 143, [some (.inr (.inr 78)), some (.inl x1), some (.inr (.inr 2)), some (.inl x3), some (.inl x4), none], [.inl x4, .inl x1, .inr (.inr 80)], (am_sh, am_mm U))) 4 (fun _ => rfl) ?_
      refine eu_iast 80 (n := 4) rfl (by decide) rfl (fun _ => rfl) h22.1 ?_
      have h22a := h22.2
      refine ev_seg (σ1 := ((d + 1), 242, 149, [some (.inr (.inr 78)), some (.inl x1), some (.inr (.inr 2)), some (.inl x3), some (.inl x4), none], [.inr (.inr 2), .inl (w32 (x1 + 1)), .inr (.inr 78)], (am_sh, am_mm (am_upd U 80 x1.toNat x4)))) 5 (fun _ => rfl) ?_
      obtain ⟨U1, h22ac, h22aa⟩ := h22a
      refine ev_cal (σc := (d, 242, 0, [some (.inr (.inr 78)), some (.inl (w32 (x1 + 1))), some (.inr (.inr 2)), none, none, none], [], (am_sh, am_mm (am_upd U 80 x1.toNat x4)))) (fun _ => rfl) h22ac ?_
      show Ev (am_kz N X) ((d + 1), 242, 152, [some (.inr (.inr 78)), some (.inl x1), some (.inr (.inr 2)), some (.inl x3), some (.inl x4), none], [], (am_sh, am_mm U1)) R
      refine ev_seg (σ1 := ((d + 1), 242, 119, [some (.inr (.inr 78)), some (.inl x1), some (.inr (.inr 2)), some (.inl x3), some (.inl (w32 (x4 + 1))), none], [], (am_sh, am_mm U1))) 2 (fun _ => rfl) ?_
      exact h22aa
set_option maxRecDepth 8000 in
theorem st243_86_0 (N : Nat) (X : Nat → Int) (d : Nat) (U : Nat → Nat → Int) (R : Option am_V × am_M) (h : Ev (am_kz N X) ((d + 1), 243, 4, [some (.inr (.inr 86)), some (.inl 0), some (.inl 0), none], [], (am_sh, am_mm U)) R) : Ev (am_kz N X) ((d + 1), 243, 0, [some (.inr (.inr 86)), none, none, none], [], (am_sh, am_mm U)) R := by
  refine ev_seg (σ1 := ((d + 1), 243, 4, [some (.inr (.inr 86)), some (.inl 0), some (.inl 0), none], [], (am_sh, am_mm U))) 4 (fun _ => rfl) ?_
  exact h
set_option maxRecDepth 8000 in
theorem st243_86_4 (N : Nat) (X : Nat → Int) (d : Nat) (x1 x2 : Int) (U : Nat → Nat → Int) (R : Option am_V × am_M) (h : ((((U 86 82) ≤ x2 : Prop)) → R = (some (.inl 1), (am_sh, am_mm U))) ∧ (¬ ((U 86 82) ≤ x2) → Ev (am_kz N X) ((d + 1), 243, 16, [some (.inr (.inr 86)), some (.inl x1), some (.inl x2), some (.inl (w32 (x2 + 1)))], [], (am_sh, am_mm U)) R)) : Ev (am_kz N X) ((d + 1), 243, 4, [some (.inr (.inr 86)), some (.inl x1), some (.inl x2), none], [], (am_sh, am_mm U)) R := by
  refine ev_br (P := (U 86 82) ≤ x2) (σ1 := ((d + 1), 243, 77, [some (.inr (.inr 86)), some (.inl x1), some (.inl x2), none], [], (am_sh, am_mm U))) (σ2 := ((d + 1), 243, 12, [some (.inr (.inr 86)), some (.inl x1), some (.inl x2), none], [], (am_sh, am_mm U))) 4 (fun _ => rfl) (fun hc => ?_) (fun hc => ?_)
  · have h1 := h.1 hc
    subst h1
    exact ev_end 2 (fun _ => rfl)
  · have h2 := h.2 hc
    refine ev_seg (σ1 := ((d + 1), 243, 16, [some (.inr (.inr 86)), some (.inl x1), some (.inl x2), some (.inl (w32 (x2 + 1)))], [], (am_sh, am_mm U))) 4 (fun _ => rfl) ?_
    exact h2
set_option maxRecDepth 8000 in
theorem st243_86_16 (N : Nat) (X : Nat → Int) (d : Nat) (x1 x2 x3 : Int) (U : Nat → Nat → Int) (R : Option am_V × am_M) (h : ((((U 86 82) ≤ x3 : Prop)) → Ev (am_kz N X) ((d + 1), 243, 4, [some (.inr (.inr 86)), some (.inl x1), some (.inl (w32 (x2 + 1))), some (.inl x3)], [], (am_sh, am_mm U)) R) ∧ (¬ ((U 86 82) ≤ x3) → (0 ≤ x2 ∧ x2 < 4) ∧ (0 ≤ x3 ∧ x3 < 4) ∧ ∃ (r1 : Int) (U1 : Nat → Nat → Int), Ev (am_kz N X) (d, 154, 0, [some (.inr (.inl (U 136 x2.toNat))), none, some (.inr (.inl (U 136 x3.toNat))), none, none, none, none, none, none, none], [], (am_sh, am_mm U)) (some (.inr (.inl r1)), (am_sh, am_mm U1)) ∧ ((((am_lcmp r1 1) ≤ 0 : Prop)) → (0 ≤ x1 ∧ x1 < 6) ∧ (((0 = (U1 135 x1.toNat) : Prop)) → Ev (am_kz N X) ((d + 1), 243, 16, [some (.inr (.inr 86)), some (.inl (w32 (x1 + 1))), some (.inl x2), some (.inl (w32 (x3 + 1)))], [], (am_sh, am_mm U1)) R) ∧ (¬ (0 = (U1 135 x1.toNat)) → R = (some (.inl 0), (am_sh, am_mm U1)))) ∧ (¬ ((am_lcmp r1 1) ≤ 0) → (0 ≤ x1 ∧ x1 < 6) ∧ (((1 = (U1 135 x1.toNat) : Prop)) → Ev (am_kz N X) ((d + 1), 243, 16, [some (.inr (.inr 86)), some (.inl (w32 (x1 + 1))), some (.inl x2), some (.inl (w32 (x3 + 1)))], [], (am_sh, am_mm U1)) R) ∧ (¬ (1 = (U1 135 x1.toNat)) → R = (some (.inl 0), (am_sh, am_mm U1)))))) : Ev (am_kz N X) ((d + 1), 243, 16, [some (.inr (.inr 86)), some (.inl x1), some (.inl x2), some (.inl x3)], [], (am_sh, am_mm U)) R := by
  refine ev_br (P := (U 86 82) ≤ x3) (σ1 := ((d + 1), 243, 71, [some (.inr (.inr 86)), some (.inl x1), some (.inl x2), some (.inl x3)], [], (am_sh, am_mm U))) (σ2 := ((d + 1), 243, 24, [some (.inr (.inr 86)), some (.inl x1), some (.inl x2), some (.inl x3)], [], (am_sh, am_mm U))) 4 (fun _ => rfl) (fun hc => ?_) (fun hc => ?_)
  · have h1 := h.1 hc
    refine ev_seg (σ1 := ((d + 1), 243, 4, [some (.inr (.inr 86)), some (.inl x1), some (.inl (w32 (x2 + 1))), some (.inl x3)], [], (am_sh, am_mm U))) 2 (fun _ => rfl) ?_
    exact h1
  · have h2 := h.2 hc
    refine ev_seg (σ1 := ((d + 1), 243, 29, [some (.inr (.inr 86)), some (.inl x1), some (.inl x2), some (.inl x3)], [.inl x2, .inr (.inr 136)], (am_sh, am_mm U))) 3 (fun _ => rfl) ?_
    refine eu_iald 136 (n := 4) rfl (by decide) rfl (fun _ => rfl) h2.1 ?_
    have h2a := h2.2
    refine ev_seg (σ1 := ((d + 1), 243, 36, [some (.inr (.inr 86)), some (.inl x1), some (.inl x2), some (.inl x3)], [.inl x3, .inr (.inr 136), .inr (.inl (U 136 x2.toNat))], (am_sh, am_mm U))) 4 (fun _ => rfl) ?_
    refine eu_iald 136 (n := 4) rfl (by decide) rfl (fun _ => rfl) h2a.1 ?_
    have h2aa := h2a.2
    refine ev_seg (σ1 := ((d + 1), 243, 38, [some (.inr (.inr 86)), some (.inl x1), some (.inl x2), some (.inl x3)], [.inr (.inl (U 136 x3.toNat)), .inr (.inl (U 136 x2.toNat))], (am_sh, am_mm U))) 1 (fun _ => rfl) ?_
    obtain ⟨r1, U1, h2aac, h2aaa⟩ := h2aa
    refine ev_cal (σc := (d, 154, 0, [some (.inr (.inl (U 136 x2.toNat))), none, some (.inr (.inl (U 136 x3.toNat))), none, none, none, none, none, none, none], [], (am_sh, am_mm U))) (fun _ => rfl) h2aac ?_
    show Ev (am_kz N X) ((d + 1), 243, 41, [some (.inr (.inr 86)), some (.inl x1), some (.inl x2), some (.inl x3)], [.inr (.inl r1)], (am_sh, am_mm U1)) R
    refine ev_br (P := (am_lcmp r1 1) ≤ 0) (σ1 := ((d + 1), 243, 50, [some (.inr (.inr 86)), some (.inl x1), some (.inl x2), some (.inl x3)], [], (am_sh, am_mm U1))) (σ2 := ((d + 1), 243, 46, [some (.inr (.inr 86)), some (.inl x1), some (.inl x2), some (.inl x3)], [], (am_sh, am_mm U1))) 3 (fun _ => rfl) (fun hc => ?_) (fun hc => ?_)
    · have h2aaa1 := h2aaa.1 hc
      refine ev_seg (σ1 := ((d + 1), 243, 56, [some (.inr (.inr 86)), some (.inl x1), some (.inl x2), some (.inl x3)], [.inl x1, .inr (.inr 135), .inl 0], (am_sh, am_mm U1))) 4 (fun _ => rfl) ?_
      refine eu_iald 135 (n := 6) rfl (by decide) rfl (fun _ => rfl) h2aaa1.1 ?_
      have h2aaa1a := h2aaa1.2
      refine ev_br (P := 0 = (U1 135 x1.toNat)) (σ1 := ((d + 1), 243, 62, [some (.inr (.inr 86)), some (.inl x1), some (.inl x2), some (.inl x3)], [], (am_sh, am_mm U1))) (σ2 := ((d + 1), 243, 60, [some (.inr (.inr 86)), some (.inl x1), some (.inl x2), some (.inl x3)], [], (am_sh, am_mm U1))) 1 (fun _ => rfl) (fun hc => ?_) (fun hc => ?_)
      · have h2aaa1a1 := h2aaa1a.1 hc
        refine ev_seg (σ1 := ((d + 1), 243, 16, [some (.inr (.inr 86)), some (.inl (w32 (x1 + 1))), some (.inl x2), some (.inl (w32 (x3 + 1)))], [], (am_sh, am_mm U1))) 3 (fun _ => rfl) ?_
        exact h2aaa1a1
      · have h2aaa1a2 := h2aaa1a.2 hc
        subst h2aaa1a2
        exact ev_end 2 (fun _ => rfl)
    · have h2aaa2 := h2aaa.2 hc
      refine ev_seg (σ1 := ((d + 1), 243, 56, [some (.inr (.inr 86)), some (.inl x1), some (.inl x2), some (.inl x3)], [.inl x1, .inr (.inr 135), .inl 1], (am_sh, am_mm U1))) 5 (fun _ => rfl) ?_
      refine eu_iald 135 (n := 6) rfl (by decide) rfl (fun _ => rfl) h2aaa2.1 ?_
      have h2aaa2a := h2aaa2.2
      refine ev_br (P := 1 = (U1 135 x1.toNat)) (σ1 := ((d + 1), 243, 62, [some (.inr (.inr 86)), some (.inl x1), some (.inl x2), some (.inl x3)], [], (am_sh, am_mm U1))) (σ2 := ((d + 1), 243, 60, [some (.inr (.inr 86)), some (.inl x1), some (.inl x2), some (.inl x3)], [], (am_sh, am_mm U1))) 1 (fun _ => rfl) (fun hc => ?_) (fun hc => ?_)
      · have h2aaa2a1 := h2aaa2a.1 hc
        refine ev_seg (σ1 := ((d + 1), 243, 16, [some (.inr (.inr 86)), some (.inl (w32 (x1 + 1))), some (.inl x2), some (.inl (w32 (x3 + 1)))], [], (am_sh, am_mm U1))) 3 (fun _ => rfl) ?_
        exact h2aaa2a1
      · have h2aaa2a2 := h2aaa2a.2 hc
        subst h2aaa2a2
        exact ev_end 2 (fun _ => rfl)
