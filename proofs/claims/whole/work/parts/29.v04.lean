set_option maxRecDepth 8000 in
theorem st123_0 (kz : am_Z) (d : Nat) (x0 : Int) (U : Nat → Nat → Int) (R : Option am_V × am_M) (h : ((((am_lcmp x0 1) ≤ 0 : Prop)) → Ev kz (d, 123, 17, [some (.inr (.inl x0)), none, some (.inr (.inl 0)), none, some (.inr (.inl 2)), none], [], (am_sh, am_mm U)) R) ∧ (¬ ((am_lcmp x0 1) ≤ 0) → Ev kz (d, 123, 17, [some (.inr (.inl x0)), none, some (.inr (.inl 1)), none, some (.inr (.inl 2)), none], [], (am_sh, am_mm U)) R)) : Ev kz (d, 123, 0, [some (.inr (.inl x0)), none, none, none, none, none], [], (am_sh, am_mm U)) R := by
  refine ev_br (P := (am_lcmp x0 1) ≤ 0) (σ1 := (d, 123, 10, [some (.inr (.inl x0)), none, none, none, none, none], [], (am_sh, am_mm U))) (σ2 := (d, 123, 6, [some (.inr (.inl x0)), none, none, none, none, none], [], (am_sh, am_mm U))) 4 (fun _ => rfl) (fun hc => ?_) (fun hc => ?_)
  · have h1 := h.1 hc
    refine ev_seg (σ1 := (d, 123, 17, [some (.inr (.inl x0)), none, some (.inr (.inl 0)), none, some (.inr (.inl 2)), none], [], (am_sh, am_mm U))) 4 (fun _ => rfl) ?_
    exact h1
  · have h2 := h.2 hc
    refine ev_seg (σ1 := (d, 123, 17, [some (.inr (.inl x0)), none, some (.inr (.inl 1)), none, some (.inr (.inl 2)), none], [], (am_sh, am_mm U))) 5 (fun _ => rfl) ?_
    exact h2
set_option maxRecDepth 8000 in
theorem st123_17 (kz : am_Z) (d : Nat) (x0 x2 x4 : Int) (U : Nat → Nat → Int) (R : Option am_V × am_M) (h : (((0 < (am_lcmp (w64 (x4 * x4)) x0) : Prop)) → R = (some (.inr (.inl x2)), (am_sh, am_mm U))) ∧ (¬ (0 < (am_lcmp (w64 (x4 * x4)) x0)) → x4 ≠ 0 ∧ ((((am_lcmp (Int.tmod x0 x4) 0) = 0 : Prop)) → (((¬ (am_lcmp (w64 (x4 * x4)) x0) = 0 : Prop)) → x4 ≠ 0 ∧ Ev kz (d, 123, 17, [some (.inr (.inl x0)), none, some (.inr (.inl (w64 (x2 + (w64 (x4 + (w64 (Int.tdiv x0 x4)))))))), none, some (.inr (.inl (w64 (x4 + 1)))), none], [], (am_sh, am_mm U)) R) ∧ (¬ (¬ (am_lcmp (w64 (x4 * x4)) x0) = 0) → Ev kz (d, 123, 17, [some (.inr (.inl x0)), none, some (.inr (.inl (w64 (x2 + x4)))), none, some (.inr (.inl (w64 (x4 + 1)))), none], [], (am_sh, am_mm U)) R)) ∧ (¬ ((am_lcmp (Int.tmod x0 x4) 0) = 0) → Ev kz (d, 123, 17, [some (.inr (.inl x0)), none, some (.inr (.inl x2)), none, some (.inr (.inl (w64 (x4 + 1)))), none], [], (am_sh, am_mm U)) R))) : Ev kz (d, 123, 17, [some (.inr (.inl x0)), none, some (.inr (.inl x2)), none, some (.inr (.inl x4)), none], [], (am_sh, am_mm U)) R := by
  refine ev_br (P := 0 < (am_lcmp (w64 (x4 * x4)) x0)) (σ1 := (d, 123, 73, [some (.inr (.inl x0)), none, some (.inr (.inl x2)), none, some (.inr (.inl x4)), none], [], (am_sh, am_mm U))) (σ2 := (d, 123, 27, [some (.inr (.inl x0)), none, some (.inr (.inl x2)), none, some (.inr (.inl x4)), none], [], (am_sh, am_mm U))) 6 (fun _ => rfl) (fun hc => ?_) (fun hc => ?_)
  · have h1 := h.1 hc
    subst h1
    exact ev_end 2 (fun _ => rfl)
  · have h2 := h.2 hc
    refine ev_seg (σ1 := (d, 123, 30, [some (.inr (.inl x0)), none, some (.inr (.inl x2)), none, some (.inr (.inl x4)), none], [.inr (.inl x4), .inr (.inl x0)], (am_sh, am_mm U))) 2 (fun _ => rfl) ?_
    refine ev_lrem rfl h2.1 ?_
    have h2a := h2.2
    refine ev_br (P := (am_lcmp (Int.tmod x0 x4) 0) = 0) (σ1 := (d, 123, 39, [some (.inr (.inl x0)), none, some (.inr (.inl x2)), none, some (.inr (.inl x4)), none], [], (am_sh, am_mm U))) (σ2 := (d, 123, 36, [some (.inr (.inl x0)), none, some (.inr (.inl x2)), none, some (.inr (.inl x4)), none], [], (am_sh, am_mm U))) 3 (fun _ => rfl) (fun hc => ?_) (fun hc => ?_)
    · have h2a1 := h2a.1 hc
      refine ev_br (P := ¬ (am_lcmp (w64 (x4 * x4)) x0) = 0) (σ1 := (d, 123, 55, [some (.inr (.inl x0)), none, some (.inr (.inl x2)), none, some (.inr (.inl x4)), none], [.inr (.inl x2)], (am_sh, am_mm U))) (σ2 := (d, 123, 50, [some (.inr (.inl x0)), none, some (.inr (.inl x2)), none, some (.inr (.inl x4)), none], [.inr (.inl x2)], (am_sh, am_mm U))) 7 (fun _ => rfl) (fun hc => ?_) (fun hc => ?_)
      · have h2a11 := h2a1.1 hc
        refine ev_seg (σ1 := (d, 123, 60, [some (.inr (.inl x0)), none, some (.inr (.inl x2)), none, some (.inr (.inl x4)), none], [.inr (.inl x4), .inr (.inl x0), .inr (.inl x4), .inr (.inl x2)], (am_sh, am_mm U))) 3 (fun _ => rfl) ?_
        refine ev_ldiv rfl h2a11.1 ?_
        have h2a11a := h2a11.2
        refine ev_seg (σ1 := (d, 123, 17, [some (.inr (.inl x0)), none, some (.inr (.inl (w64 (x2 + (w64 (x4 + (w64 (Int.tdiv x0 x4)))))))), none, some (.inr (.inl (w64 (x4 + 1)))), none], [], (am_sh, am_mm U))) 8 (fun _ => rfl) ?_
        exact h2a11a
      · have h2a12 := h2a1.2 hc
        refine ev_seg (σ1 := (d, 123, 17, [some (.inr (.inl x0)), none, some (.inr (.inl (w64 (x2 + x4)))), none, some (.inr (.inl (w64 (x4 + 1)))), none], [], (am_sh, am_mm U))) 9 (fun _ => rfl) ?_
        exact h2a12
    · have h2a2 := h2a.2 hc
      refine ev_seg (σ1 := (d, 123, 17, [some (.inr (.inl x0)), none, some (.inr (.inl x2)), none, some (.inr (.inl (w64 (x4 + 1)))), none], [], (am_sh, am_mm U))) 6 (fun _ => rfl) ?_
      exact h2a2
set_option maxRecDepth 8000 in
theorem st121_86_0 (kz : am_Z) (d : Nat) (x1 : Int) (U : Nat → Nat → Int) (R : Option am_V × am_M) (h : (0 ≤ x1 ∧ x1 < 352) ∧ ∃ (r1 : Int) (U1 : Nat → Nat → Int), Ev kz (d, 208, 0, [some (.inr (.inl (U 123 x1.toNat))), none], [], (am_sh, am_mm U)) (some (.inr (.inl r1)), (am_sh, am_mm U1)) ∧ R = (some (.inr (.inl r1)), (am_sh, am_mm U1))) : Ev kz ((d + 1), 121, 0, [some (.inr (.inr 86)), some (.inl x1)], [], (am_sh, am_mm U)) R := by
  refine ev_seg (σ1 := ((d + 1), 121, 5, [some (.inr (.inr 86)), some (.inl x1)], [.inl x1, .inr (.inr 123)], (am_sh, am_mm U))) 3 (fun _ => rfl) ?_
  refine eu_iald 123 (n := 352) rfl (by decide) rfl (fun _ => rfl) h.1 ?_
  have ha := h.2
  refine ev_seg (σ1 := ((d + 1), 121, 7, [some (.inr (.inr 86)), some (.inl x1)], [.inr (.inl (U 123 x1.toNat))], (am_sh, am_mm U))) 1 (fun _ => rfl) ?_
  obtain ⟨r1, U1, hac, haa⟩ := ha
  refine ev_cal (σc := (d, 208, 0, [some (.inr (.inl (U 123 x1.toNat))), none], [], (am_sh, am_mm U))) (fun _ => rfl) hac ?_
  show Ev kz ((d + 1), 121, 10, [some (.inr (.inr 86)), some (.inl x1)], [.inr (.inl r1)], (am_sh, am_mm U1)) R
  subst haa
  exact ev_end 1 (fun _ => rfl)
set_option maxRecDepth 8000 in
theorem st151_1_0 (kz : am_Z) (d : Nat) (x1 x2 : Int) (U : Nat → Nat → Int) (R : Option am_V × am_M) (h : (0 ≤ x1 ∧ x1 < 16) ∧ (0 ≤ x2 ∧ x2 < 16) ∧ ((((if 0 ≤ (U 17 x1.toNat) then (U 17 x1.toNat) else w32 (-(U 17 x1.toNat))) = (if 0 ≤ (U 17 x2.toNat) then (U 17 x2.toNat) else w32 (-(U 17 x2.toNat))) : Prop)) → R = (some (.inl 0), (am_sh, am_mm U))) ∧ (¬ ((if 0 ≤ (U 17 x1.toNat) then (U 17 x1.toNat) else w32 (-(U 17 x1.toNat))) = (if 0 ≤ (U 17 x2.toNat) then (U 17 x2.toNat) else w32 (-(U 17 x2.toNat)))) → ∃ (r1 : Int) (U1 : Nat → Nat → Int), Ev kz (d, 119, 0, [some (.inr (.inr 16)), some (.inl x1)], [], (am_sh, am_mm U)) (some (.inr (.inl r1)), (am_sh, am_mm U1)) ∧ (((¬ (am_lcmp r1 (if 0 ≤ (U 17 x2.toNat) then (U 17 x2.toNat) else w32 (-(U 17 x2.toNat)))) = 0 : Prop)) → R = (some (.inl 0), (am_sh, am_mm U1))) ∧ (¬ (¬ (am_lcmp r1 (if 0 ≤ (U 17 x2.toNat) then (U 17 x2.toNat) else w32 (-(U 17 x2.toNat)))) = 0) → ∃ (r2 : Int) (U2 : Nat → Nat → Int), Ev kz (d, 119, 0, [some (.inr (.inr 16)), some (.inl x2)], [], (am_sh, am_mm U1)) (some (.inr (.inl r2)), (am_sh, am_mm U2)) ∧ (((¬ (am_lcmp r2 (if 0 ≤ (U 17 x1.toNat) then (U 17 x1.toNat) else w32 (-(U 17 x1.toNat)))) = 0 : Prop)) → R = (some (.inl 0), (am_sh, am_mm U2))) ∧ (¬ (¬ (am_lcmp r2 (if 0 ≤ (U 17 x1.toNat) then (U 17 x1.toNat) else w32 (-(U 17 x1.toNat)))) = 0) → R = (some (.inl 1), (am_sh, am_mm U2)))))) : Ev kz ((d + 1), 151, 0, [some (.inr (.inr 1)), some (.inl x1), some (.inl x2), none, none], [], (am_sh, am_mm U)) R := by
  refine ev_seg (σ1 := ((d + 1), 151, 8, [some (.inr (.inr 1)), some (.inl x1), some (.inl x2), none, none], [.inl x1, .inr (.inr 17)], (am_sh, am_mm U))) 4 (fun _ => rfl) ?_
  refine eu_iald 17 (n := 16) rfl (by decide) rfl (fun _ => rfl) h.1 ?_
  have ha := h.2
  refine ev_seg (σ1 := ((d + 1), 151, 21, [some (.inr (.inr 1)), some (.inl x1), some (.inl x2), some (.inl (if 0 ≤ (U 17 x1.toNat) then (U 17 x1.toNat) else w32 (-(U 17 x1.toNat)))), none], [.inl x2, .inr (.inr 17)], (am_sh, am_mm U))) 6 (fun _ => rfl) ?_
  refine eu_iald 17 (n := 16) rfl (by decide) rfl (fun _ => rfl) ha.1 ?_
  have haa := ha.2
  refine ev_br (P := (if 0 ≤ (U 17 x1.toNat) then (U 17 x1.toNat) else w32 (-(U 17 x1.toNat))) = (if 0 ≤ (U 17 x2.toNat) then (U 17 x2.toNat) else w32 (-(U 17 x2.toNat)))) (σ1 := ((d + 1), 151, 66, [some (.inr (.inr 1)), some (.inl x1), some (.inl x2), some (.inl (if 0 ≤ (U 17 x1.toNat) then (U 17 x1.toNat) else w32 (-(U 17 x1.toNat)))), some (.inl (if 0 ≤ (U 17 x2.toNat) then (U 17 x2.toNat) else w32 (-(U 17 x2.toNat))))], [], (am_sh, am_mm U))) (σ2 := ((d + 1), 151, 33, [some (.inr (.inr 1)), some (.inl x1), some (.inl x2), some (.inl (if 0 ≤ (U 17 x1.toNat) then (U 17 x1.toNat) else w32 (-(U 17 x1.toNat)))), some (.inl (if 0 ≤ (U 17 x2.toNat) then (U 17 x2.toNat) else w32 (-(U 17 x2.toNat))))], [], (am_sh, am_mm U))) 5 (fun _ => rfl) (fun hc => ?_) (fun hc => ?_)
  · have haa1 := haa.1 hc
    subst haa1
    exact ev_end 2 (fun _ => rfl)
  · have haa2 := haa.2 hc
    refine ev_seg (σ1 := ((d + 1), 151, 38, [some (.inr (.inr 1)), some (.inl x1), some (.inl x2), some (.inl (if 0 ≤ (U 17 x1.toNat) then (U 17 x1.toNat) else w32 (-(U 17 x1.toNat)))), some (.inl (if 0 ≤ (U 17 x2.toNat) then (U 17 x2.toNat) else w32 (-(U 17 x2.toNat))))], [.inl x1, .inr (.inr 16)], (am_sh, am_mm U))) 3 (fun _ => rfl) ?_
    obtain ⟨r1, U1, haa2c, haa2a⟩ := haa2
    refine ev_cal (σc := (d, 119, 0, [some (.inr (.inr 16)), some (.inl x1)], [], (am_sh, am_mm U))) (fun _ => rfl) haa2c ?_
    show Ev kz ((d + 1), 151, 41, [some (.inr (.inr 1)), some (.inl x1), some (.inl x2), some (.inl (if 0 ≤ (U 17 x1.toNat) then (U 17 x1.toNat) else w32 (-(U 17 x1.toNat)))), some (.inl (if 0 ≤ (U 17 x2.toNat) then (U 17 x2.toNat) else w32 (-(U 17 x2.toNat))))], [.inr (.inl r1)], (am_sh, am_mm U1)) R
    refine ev_br (P := ¬ (am_lcmp r1 (if 0 ≤ (U 17 x2.toNat) then (U 17 x2.toNat) else w32 (-(U 17 x2.toNat)))) = 0) (σ1 := ((d + 1), 151, 66, [some (.inr (.inr 1)), some (.inl x1), some (.inl x2), some (.inl (if 0 ≤ (U 17 x1.toNat) then (U 17 x1.toNat) else w32 (-(U 17 x1.toNat)))), some (.inl (if 0 ≤ (U 17 x2.toNat) then (U 17 x2.toNat) else w32 (-(U 17 x2.toNat))))], [], (am_sh, am_mm U1))) (σ2 := ((d + 1), 151, 48, [some (.inr (.inr 1)), some (.inl x1), some (.inl x2), some (.inl (if 0 ≤ (U 17 x1.toNat) then (U 17 x1.toNat) else w32 (-(U 17 x1.toNat)))), some (.inl (if 0 ≤ (U 17 x2.toNat) then (U 17 x2.toNat) else w32 (-(U 17 x2.toNat))))], [], (am_sh, am_mm U1))) 4 (fun _ => rfl) (fun hc => ?_) (fun hc => ?_)
    · have haa2a1 := haa2a.1 hc
      subst haa2a1
      exact ev_end 2 (fun _ => rfl)
    · have haa2a2 := haa2a.2 hc
      refine ev_seg (σ1 := ((d + 1), 151, 53, [some (.inr (.inr 1)), some (.inl x1), some (.inl x2), some (.inl (if 0 ≤ (U 17 x1.toNat) then (U 17 x1.toNat) else w32 (-(U 17 x1.toNat)))), some (.inl (if 0 ≤ (U 17 x2.toNat) then (U 17 x2.toNat) else w32 (-(U 17 x2.toNat))))], [.inl x2, .inr (.inr 16)], (am_sh, am_mm U1))) 3 (fun _ => rfl) ?_
      obtain ⟨r2, U2, haa2a2c, haa2a2a⟩ := haa2a2
      refine ev_cal (σc := (d, 119, 0, [some (.inr (.inr 16)), some (.inl x2)], [], (am_sh, am_mm U1))) (fun _ => rfl) haa2a2c ?_
      show Ev kz ((d + 1), 151, 56, [some (.inr (.inr 1)), some (.inl x1), some (.inl x2), some (.inl (if 0 ≤ (U 17 x1.toNat) then (U 17 x1.toNat) else w32 (-(U 17 x1.toNat)))), some (.inl (if 0 ≤ (U 17 x2.toNat) then (U 17 x2.toNat) else w32 (-(U 17 x2.toNat))))], [.inr (.inl r2)], (am_sh, am_mm U2)) R
      refine ev_br (P := ¬ (am_lcmp r2 (if 0 ≤ (U 17 x1.toNat) then (U 17 x1.toNat) else w32 (-(U 17 x1.toNat)))) = 0) (σ1 := ((d + 1), 151, 66, [some (.inr (.inr 1)), some (.inl x1), some (.inl x2), some (.inl (if 0 ≤ (U 17 x1.toNat) then (U 17 x1.toNat) else w32 (-(U 17 x1.toNat)))), some (.inl (if 0 ≤ (U 17 x2.toNat) then (U 17 x2.toNat) else w32 (-(U 17 x2.toNat))))], [], (am_sh, am_mm U2))) (σ2 := ((d + 1), 151, 62, [some (.inr (.inr 1)), some (.inl x1), some (.inl x2), some (.inl (if 0 ≤ (U 17 x1.toNat) then (U 17 x1.toNat) else w32 (-(U 17 x1.toNat)))), some (.inl (if 0 ≤ (U 17 x2.toNat) then (U 17 x2.toNat) else w32 (-(U 17 x2.toNat))))], [], (am_sh, am_mm U2))) 4 (fun _ => rfl) (fun hc => ?_) (fun hc => ?_)
      · have haa2a2a1 := haa2a2a.1 hc
        subst haa2a2a1
        exact ev_end 2 (fun _ => rfl)
      · have haa2a2a2 := haa2a2a.2 hc
        subst haa2a2a2
        exact ev_end 3 (fun _ => rfl)
set_option maxRecDepth 8000 in
theorem st152_86_0 (kz : am_Z) (d : Nat) (x1 x2 : Int) (U : Nat → Nat → Int) (R : Option am_V × am_M) (h : Ev kz ((d + 1), 152, 5, [some (.inr (.inr 86)), some (.inl x1), some (.inl x2), some (.inl 0), some (.inl 0), none], [], (am_sh, am_mm U)) R) : Ev kz ((d + 1), 152, 0, [some (.inr (.inr 86)), some (.inl x1), some (.inl x2), none, none, none], [], (am_sh, am_mm U)) R := by
  refine ev_seg (σ1 := ((d + 1), 152, 5, [some (.inr (.inr 86)), some (.inl x1), some (.inl x2), some (.inl 0), some (.inl 0), none], [], (am_sh, am_mm U))) 4 (fun _ => rfl) ?_
  exact h
set_option maxRecDepth 8000 in
theorem st152_86_5 (kz : am_Z) (d : Nat) (x1 x2 x3 x4 : Int) (U : Nat → Nat → Int) (R : Option am_V × am_M) (h : ((((U 122 0) ≤ x4 : Prop)) → R = (some (.inl (-1)), (am_sh, am_mm U))) ∧ (¬ ((U 122 0) ≤ x4) → Ev kz ((d + 1), 152, 22, [some (.inr (.inr 86)), some (.inl x1), some (.inl x2), some (.inl x3), some (.inl x4), some (.inl (w32 (x4 + 1)))], [], (am_sh, am_mm U)) R)) : Ev kz ((d + 1), 152, 5, [some (.inr (.inr 86)), some (.inl x1), some (.inl x2), some (.inl x3), some (.inl x4), none], [], (am_sh, am_mm U)) R := by
  refine ev_seg (σ1 := ((d + 1), 152, 12, [some (.inr (.inr 86)), some (.inl x1), some (.inl x2), some (.inl x3), some (.inl x4), none], [.inl 0, .inr (.inr 122), .inl x4], (am_sh, am_mm U))) 4 (fun _ => rfl) ?_
  refine eu_iald 122 (n := 22) rfl (by decide) rfl (fun _ => rfl) (by decide) ?_
  show Ev kz ((d + 1), 152, 13, [some (.inr (.inr 86)), some (.inl x1), some (.inl x2), some (.inl x3), some (.inl x4), none], [.inl (U 122 0), .inl x4], (am_sh, am_mm U)) R
  refine ev_br (P := (U 122 0) ≤ x4) (σ1 := ((d + 1), 152, 94, [some (.inr (.inr 86)), some (.inl x1), some (.inl x2), some (.inl x3), some (.inl x4), none], [], (am_sh, am_mm U))) (σ2 := ((d + 1), 152, 16, [some (.inr (.inr 86)), some (.inl x1), some (.inl x2), some (.inl x3), some (.inl x4), none], [], (am_sh, am_mm U))) 1 (fun _ => rfl) (fun hc => ?_) (fun hc => ?_)
  · have h1 := h.1 hc
    subst h1
    exact ev_end 2 (fun _ => rfl)
  · have h2 := h.2 hc
    refine ev_seg (σ1 := ((d + 1), 152, 22, [some (.inr (.inr 86)), some (.inl x1), some (.inl x2), some (.inl x3), some (.inl x4), some (.inl (w32 (x4 + 1)))], [], (am_sh, am_mm U))) 4 (fun _ => rfl) ?_
    exact h2
set_option maxRecDepth 8000 in
theorem st152_86_22 (kz : am_Z) (d : Nat) (x1 x2 x3 x4 x5 : Int) (U : Nat → Nat → Int) (R : Option am_V × am_M) (h : ((((U 122 0) ≤ x5 : Prop)) → Ev kz ((d + 1), 152, 5, [some (.inr (.inr 86)), some (.inl x1), some (.inl x2), some (.inl x3), some (.inl (w32 (x4 + 1))), some (.inl x5)], [], (am_sh, am_mm U)) R) ∧ (¬ ((U 122 0) ≤ x5) → (((x2 = 0 : Prop)) → ∃ (r1 : Int) (U1 : Nat → Nat → Int), Ev kz (d, 120, 0, [some (.inr (.inr 86)), some (.inl x4), some (.inl x5)], [], (am_sh, am_mm U)) (some (.inl r1), (am_sh, am_mm U1)) ∧ (((¬ r1 = 0 : Prop)) → (((¬ x3 = x1 : Prop)) → Ev kz ((d + 1), 152, 22, [some (.inr (.inr 86)), some (.inl x1), some (.inl x2), some (.inl (w32 (x3 + 1))), some (.inl x4), some (.inl (w32 (x5 + 1)))], [], (am_sh, am_mm U1)) R) ∧ (¬ (¬ x3 = x1) → R = (some (.inl (w32 ((w32 (100 * x4)) + x5))), (am_sh, am_mm U1)))) ∧ (¬ (¬ r1 = 0) → Ev kz ((d + 1), 152, 22, [some (.inr (.inr 86)), some (.inl x1), some (.inl x2), some (.inl x3), some (.inl x4), some (.inl (w32 (x5 + 1)))], [], (am_sh, am_mm U1)) R)) ∧ (¬ (x2 = 0) → ∃ (r2 : Int) (U2 : Nat → Nat → Int), Ev kz (d, 238, 0, [some (.inr (.inr 86)), some (.inl x4), some (.inl x5)], [], (am_sh, am_mm U)) (some (.inl r2), (am_sh, am_mm U2)) ∧ (((¬ r2 = 0 : Prop)) → (((¬ x3 = x1 : Prop)) → Ev kz ((d + 1), 152, 22, [some (.inr (.inr 86)), some (.inl x1), some (.inl x2), some (.inl (w32 (x3 + 1))), some (.inl x4), some (.inl (w32 (x5 + 1)))], [], (am_sh, am_mm U2)) R) ∧ (¬ (¬ x3 = x1) → R = (some (.inl (w32 ((w32 (100 * x4)) + x5))), (am_sh, am_mm U2)))) ∧ (¬ (¬ r2 = 0) → Ev kz ((d + 1), 152, 22, [some (.inr (.inr 86)), some (.inl x1), some (.inl x2), some (.inl x3), some (.inl x4), some (.inl (w32 (x5 + 1)))], [], (am_sh, am_mm U2)) R)))) : Ev kz ((d + 1), 152, 22, [some (.inr (.inr 86)), some (.inl x1), some (.inl x2), some (.inl x3), some (.inl x4), some (.inl x5)], [], (am_sh, am_mm U)) R := by
  refine ev_seg (σ1 := ((d + 1), 152, 29, [some (.inr (.inr 86)), some (.inl x1), some (.inl x2), some (.inl x3), some (.inl x4), some (.inl x5)], [.inl 0, .inr (.inr 122), .inl x5], (am_sh, am_mm U))) 4 (fun _ => rfl) ?_
  refine eu_iald 122 (n := 22) rfl (by decide) rfl (fun _ => rfl) (by decide) ?_
  show Ev kz ((d + 1), 152, 30, [some (.inr (.inr 86)), some (.inl x1), some (.inl x2), some (.inl x3), some (.inl x4), some (.inl x5)], [.inl (U 122 0), .inl x5], (am_sh, am_mm U)) R
  refine ev_br (P := (U 122 0) ≤ x5) (σ1 := ((d + 1), 152, 88, [some (.inr (.inr 86)), some (.inl x1), some (.inl x2), some (.inl x3), some (.inl x4), some (.inl x5)], [], (am_sh, am_mm U))) (σ2 := ((d + 1), 152, 33, [some (.inr (.inr 86)), some (.inl x1), some (.inl x2), some (.inl x3), some (.inl x4), some (.inl x5)], [], (am_sh, am_mm U))) 1 (fun _ => rfl) (fun hc => ?_) (fun hc => ?_)
  · have h1 := h.1 hc
    refine ev_seg (σ1 := ((d + 1), 152, 5, [some (.inr (.inr 86)), some (.inl x1), some (.inl x2), some (.inl x3), some (.inl (w32 (x4 + 1))), some (.inl x5)], [], (am_sh, am_mm U))) 2 (fun _ => rfl) ?_
    exact h1
  · have h2 := h.2 hc
    refine ev_br (P := x2 = 0) (σ1 := ((d + 1), 152, 51, [some (.inr (.inr 86)), some (.inl x1), some (.inl x2), some (.inl x3), some (.inl x4), some (.inl x5)], [], (am_sh, am_mm U))) (σ2 := ((d + 1), 152, 37, [some (.inr (.inr 86)), some (.inl x1), some (.inl x2), some (.inl x3), some (.inl x4), some (.inl x5)], [], (am_sh, am_mm U))) 2 (fun _ => rfl) (fun hc => ?_) (fun hc => ?_)
    · have h21 := h2.1 hc
      refine ev_seg (σ1 := ((d + 1), 152, 56, [some (.inr (.inr 86)), some (.inl x1), some (.inl x2), some (.inl x3), some (.inl x4), some (.inl x5)], [.inl x5, .inl x4, .inr (.inr 86)], (am_sh, am_mm U))) 3 (fun _ => rfl) ?_
      obtain ⟨r1, U1, h21c, h21a⟩ := h21
      refine ev_cal (σc := (d, 120, 0, [some (.inr (.inr 86)), some (.inl x4), some (.inl x5)], [], (am_sh, am_mm U))) (fun _ => rfl) h21c ?_
      show Ev kz ((d + 1), 152, 59, [some (.inr (.inr 86)), some (.inl x1), some (.inl x2), some (.inl x3), some (.inl x4), some (.inl x5)], [.inl r1], (am_sh, am_mm U1)) R
      refine ev_br (P := ¬ r1 = 0) (σ1 := ((d + 1), 152, 65, [some (.inr (.inr 86)), some (.inl x1), some (.inl x2), some (.inl x3), some (.inl x4), some (.inl x5)], [], (am_sh, am_mm U1))) (σ2 := ((d + 1), 152, 62, [some (.inr (.inr 86)), some (.inl x1), some (.inl x2), some (.inl x3), some (.inl x4), some (.inl x5)], [], (am_sh, am_mm U1))) 1 (fun _ => rfl) (fun hc => ?_) (fun hc => ?_)
      · have h21a1 := h21a.1 hc
        refine ev_br (P := ¬ x3 = x1) (σ1 := ((d + 1), 152, 79, [some (.inr (.inr 86)), some (.inl x1), some (.inl x2), some (.inl x3), some (.inl x4), some (.inl x5)], [], (am_sh, am_mm U1))) (σ2 := ((d + 1), 152, 70, [some (.inr (.inr 86)), some (.inl x1), some (.inl x2), some (.inl x3), some (.inl x4), some (.inl x5)], [], (am_sh, am_mm U1))) 3 (fun _ => rfl) (fun hc => ?_) (fun hc => ?_)
        · have h21a11 := h21a1.1 hc
          refine ev_seg (σ1 := ((d + 1), 152, 22, [some (.inr (.inr 86)), some (.inl x1), some (.inl x2), some (.inl (w32 (x3 + 1))), some (.inl x4), some (.inl (w32 (x5 + 1)))], [], (am_sh, am_mm U1))) 3 (fun _ => rfl) ?_
          exact h21a11
        · have h21a12 := h21a1.2 hc
          subst h21a12
          exact ev_end 6 (fun _ => rfl)
      · have h21a2 := h21a.2 hc
        refine ev_seg (σ1 := ((d + 1), 152, 22, [some (.inr (.inr 86)), some (.inl x1), some (.inl x2), some (.inl x3), some (.inl x4), some (.inl (w32 (x5 + 1)))], [], (am_sh, am_mm U1))) 3 (fun _ => rfl) ?_
        exact h21a2
    · have h22 := h2.2 hc
      refine ev_seg (σ1 := ((d + 1), 152, 42, [some (.inr (.inr 86)), some (.inl x1), some (.inl x2), some (.inl x3), some (.inl x4), some (.inl x5)], [.inl x5, .inl x4, .inr (.inr 86)], (am_sh, am_mm U))) 3 (fun _ => rfl) ?_
      obtain ⟨r2, U2, h22c, h22a⟩ := h22
      refine ev_cal (σc := (d, 238, 0, [some (.inr (.inr 86)), some (.inl x4), some (.inl x5)], [], (am_sh, am_mm U))) (fun _ => rfl) h22c ?_
      show Ev kz ((d + 1), 152, 45, [some (.inr (.inr 86)), some (.inl x1), some (.inl x2), some (.inl x3), some (.inl x4), some (.inl x5)], [.inl r2], (am_sh, am_mm U2)) R
      refine ev_br (P := ¬ r2 = 0) (σ1 := ((d + 1), 152, 65, [some (.inr (.inr 86)), some (.inl x1), some (.inl x2), some (.inl x3), some (.inl x4), some (.inl x5)], [], (am_sh, am_mm U2))) (σ2 := ((d + 1), 152, 48, [some (.inr (.inr 86)), some (.inl x1), some (.inl x2), some (.inl x3), some (.inl x4), some (.inl x5)], [], (am_sh, am_mm U2))) 1 (fun _ => rfl) (fun hc => ?_) (fun hc => ?_)
      · have h22a1 := h22a.1 hc
        refine ev_br (P := ¬ x3 = x1) (σ1 := ((d + 1), 152, 79, [some (.inr (.inr 86)), some (.inl x1), some (.inl x2), some (.inl x3), some (.inl x4), some (.inl x5)], [], (am_sh, am_mm U2))) (σ2 := ((d + 1), 152, 70, [some (.inr (.inr 86)), some (.inl x1), some (.inl x2), some (.inl x3), some (.inl x4), some (.inl x5)], [], (am_sh, am_mm U2))) 3 (fun _ => rfl) (fun hc => ?_) (fun hc => ?_)
        · have h22a11 := h22a1.1 hc
          refine ev_seg (σ1 := ((d + 1), 152, 22, [some (.inr (.inr 86)), some (.inl x1), some (.inl x2), some (.inl (w32 (x3 + 1))), some (.inl x4), some (.inl (w32 (x5 + 1)))], [], (am_sh, am_mm U2))) 3 (fun _ => rfl) ?_
          exact h22a11
        · have h22a12 := h22a1.2 hc
          subst h22a12
          exact ev_end 6 (fun _ => rfl)
      · have h22a2 := h22a.2 hc
        refine ev_seg (σ1 := ((d + 1), 152, 22, [some (.inr (.inr 86)), some (.inl x1), some (.inl x2), some (.inl x3), some (.inl x4), some (.inl (w32 (x5 + 1)))], [], (am_sh, am_mm U2))) 3 (fun _ => rfl) ?_
        exact h22a2
set_option maxRecDepth 8000 in
theorem st153_0 (kz : am_Z) (d : Nat) (x0 x1 : Int) (U : Nat → Nat → Int) (R : Option am_V × am_M) (h : (((0 ≤ x0 : Prop)) → (((0 ≤ x1 : Prop)) → Ev kz (d, 153, 25, [some (.inl x0), some (.inl x1), some (.inl x0), some (.inl x1), some (.inl 0), none], [], (am_sh, am_mm U)) R) ∧ (¬ (0 ≤ x1) → Ev kz (d, 153, 25, [some (.inl x0), some (.inl x1), some (.inl x0), some (.inl (w32 (-x1))), some (.inl 0), none], [], (am_sh, am_mm U)) R)) ∧ (¬ (0 ≤ x0) → (((0 ≤ x1 : Prop)) → Ev kz (d, 153, 25, [some (.inl x0), some (.inl x1), some (.inl (w32 (-x0))), some (.inl x1), some (.inl 0), none], [], (am_sh, am_mm U)) R) ∧ (¬ (0 ≤ x1) → Ev kz (d, 153, 25, [some (.inl x0), some (.inl x1), some (.inl (w32 (-x0))), some (.inl (w32 (-x1))), some (.inl 0), none], [], (am_sh, am_mm U)) R))) : Ev kz (d, 153, 0, [some (.inl x0), some (.inl x1), none, none, none, none], [], (am_sh, am_mm U)) R := by
  refine ev_br (P := 0 ≤ x0) (σ1 := (d, 153, 9, [some (.inl x0), some (.inl x1), none, none, none, none], [], (am_sh, am_mm U))) (σ2 := (d, 153, 4, [some (.inl x0), some (.inl x1), none, none, none, none], [], (am_sh, am_mm U))) 2 (fun _ => rfl) (fun hc => ?_) (fun hc => ?_)
  · have h1 := h.1 hc
    refine ev_br (P := 0 ≤ x1) (σ1 := (d, 153, 20, [some (.inl x0), some (.inl x1), some (.inl x0), none, none, none], [], (am_sh, am_mm U))) (σ2 := (d, 153, 15, [some (.inl x0), some (.inl x1), some (.inl x0), none, none, none], [], (am_sh, am_mm U))) 4 (fun _ => rfl) (fun hc => ?_) (fun hc => ?_)
    · have h11 := h1.1 hc
      refine ev_seg (σ1 := (d, 153, 25, [some (.inl x0), some (.inl x1), some (.inl x0), some (.inl x1), some (.inl 0), none], [], (am_sh, am_mm U))) 4 (fun _ => rfl) ?_
      exact h11
    · have h12 := h1.2 hc
      refine ev_seg (σ1 := (d, 153, 25, [some (.inl x0), some (.inl x1), some (.inl x0), some (.inl (w32 (-x1))), some (.inl 0), none], [], (am_sh, am_mm U))) 6 (fun _ => rfl) ?_
      exact h12
  · have h2 := h.2 hc
    refine ev_br (P := 0 ≤ x1) (σ1 := (d, 153, 20, [some (.inl x0), some (.inl x1), some (.inl (w32 (-x0))), none, none, none], [], (am_sh, am_mm U))) (σ2 := (d, 153, 15, [some (.inl x0), some (.inl x1), some (.inl (w32 (-x0))), none, none, none], [], (am_sh, am_mm U))) 6 (fun _ => rfl) (fun hc => ?_) (fun hc => ?_)
    · have h21 := h2.1 hc
      refine ev_seg (σ1 := (d, 153, 25, [some (.inl x0), some (.inl x1), some (.inl (w32 (-x0))), some (.inl x1), some (.inl 0), none], [], (am_sh, am_mm U))) 4 (fun _ => rfl) ?_
      exact h21
    · have h22 := h2.2 hc
      refine ev_seg (σ1 := (d, 153, 25, [some (.inl x0), some (.inl x1), some (.inl (w32 (-x0))), some (.inl (w32 (-x1))), some (.inl 0), none], [], (am_sh, am_mm U))) 6 (fun _ => rfl) ?_
      exact h22
set_option maxRecDepth 8000 in
theorem st153_25 (kz : am_Z) (d : Nat) (x0 x1 x2 x3 x4 : Int) (U : Nat → Nat → Int) (R : Option am_V × am_M) (h : (((64 ≤ x4 : Prop)) → R = (some (.inl x2), (am_sh, am_mm U))) ∧ (¬ (64 ≤ x4) → (((x3 = 0 : Prop)) → R = (some (.inl x2), (am_sh, am_mm U))) ∧ (¬ (x3 = 0) → x3 ≠ 0 ∧ Ev kz (d, 153, 25, [some (.inl x0), some (.inl x1), some (.inl x3), some (.inl (Int.tmod x2 x3)), some (.inl (w32 (x4 + 1))), some (.inl (Int.tmod x2 x3))], [], (am_sh, am_mm U)) R))) : Ev kz (d, 153, 25, [some (.inl x0), some (.inl x1), some (.inl x2), some (.inl x3), some (.inl x4), none], [], (am_sh, am_mm U)) R := by
  refine ev_br (P := 64 ≤ x4) (σ1 := (d, 153, 52, [some (.inl x0), some (.inl x1), some (.inl x2), some (.inl x3), some (.inl x4), none], [], (am_sh, am_mm U))) (σ2 := (d, 153, 32, [some (.inl x0), some (.inl x1), some (.inl x2), some (.inl x3), some (.inl x4), none], [], (am_sh, am_mm U))) 3 (fun _ => rfl) (fun hc => ?_) (fun hc => ?_)
  · have h1 := h.1 hc
    subst h1
    exact ev_end 2 (fun _ => rfl)
  · have h2 := h.2 hc
    refine ev_br (P := x3 = 0) (σ1 := (d, 153, 52, [some (.inl x0), some (.inl x1), some (.inl x2), some (.inl x3), some (.inl x4), none], [], (am_sh, am_mm U))) (σ2 := (d, 153, 36, [some (.inl x0), some (.inl x1), some (.inl x2), some (.inl x3), some (.inl x4), none], [], (am_sh, am_mm U))) 2 (fun _ => rfl) (fun hc => ?_) (fun hc => ?_)
    · have h21 := h2.1 hc
      subst h21
      exact ev_end 2 (fun _ => rfl)
    · have h22 := h2.2 hc
      refine ev_seg (σ1 := (d, 153, 38, [some (.inl x0), some (.inl x1), some (.inl x2), some (.inl x3), some (.inl x4), none], [.inl x3, .inl x2], (am_sh, am_mm U))) 2 (fun _ => rfl) ?_
      refine ev_irem rfl h22.1 ?_
      have h22a := h22.2
      refine ev_seg (σ1 := (d, 153, 25, [some (.inl x0), some (.inl x1), some (.inl x3), some (.inl (Int.tmod x2 x3)), some (.inl (w32 (x4 + 1))), some (.inl (Int.tmod x2 x3))], [], (am_sh, am_mm U))) 7 (fun _ => rfl) ?_
      exact h22a
set_option maxRecDepth 8000 in
theorem st154_0 (kz : am_Z) (d : Nat) (x0 x2 : Int) (U : Nat → Nat → Int) (R : Option am_V × am_M) (h : ∃ (r1 : Int) (U1 : Nat → Nat → Int), Ev kz (d, 208, 0, [some (.inr (.inl x0)), none], [], (am_sh, am_mm U)) (some (.inr (.inl r1)), (am_sh, am_mm U1)) ∧ ∃ (r2 : Int) (U2 : Nat → Nat → Int), Ev kz (d, 208, 0, [some (.inr (.inl x2)), none], [], (am_sh, am_mm U1)) (some (.inr (.inl r2)), (am_sh, am_mm U2)) ∧ Ev kz ((d + 1), 154, 12, [some (.inr (.inl x0)), none, some (.inr (.inl x2)), none, some (.inr (.inl r1)), none, some (.inr (.inl r2)), none, none, none], [], (am_sh, am_mm U2)) R) : Ev kz ((d + 1), 154, 0, [some (.inr (.inl x0)), none, some (.inr (.inl x2)), none, none, none, none, none, none, none], [], (am_sh, am_mm U)) R := by
  refine ev_seg (σ1 := ((d + 1), 154, 1, [some (.inr (.inl x0)), none, some (.inr (.inl x2)), none, none, none, none, none, none, none], [.inr (.inl x0)], (am_sh, am_mm U))) 1 (fun _ => rfl) ?_
  obtain ⟨r1, U1, hc, ha⟩ := h
  refine ev_cal (σc := (d, 208, 0, [some (.inr (.inl x0)), none], [], (am_sh, am_mm U))) (fun _ => rfl) hc ?_
  show Ev kz ((d + 1), 154, 4, [some (.inr (.inl x0)), none, some (.inr (.inl x2)), none, none, none, none, none, none, none], [.inr (.inl r1)], (am_sh, am_mm U1)) R
  refine ev_seg (σ1 := ((d + 1), 154, 7, [some (.inr (.inl x0)), none, some (.inr (.inl x2)), none, some (.inr (.inl r1)), none, none, none, none, none], [.inr (.inl x2)], (am_sh, am_mm U1))) 2 (fun _ => rfl) ?_
  obtain ⟨r2, U2, hac, haa⟩ := ha
  refine ev_cal (σc := (d, 208, 0, [some (.inr (.inl x2)), none], [], (am_sh, am_mm U1))) (fun _ => rfl) hac ?_
  show Ev kz ((d + 1), 154, 10, [some (.inr (.inl x0)), none, some (.inr (.inl x2)), none, some (.inr (.inl r1)), none, none, none, none, none], [.inr (.inl r2)], (am_sh, am_mm U2)) R
  refine ev_seg (σ1 := ((d + 1), 154, 12, [some (.inr (.inl x0)), none, some (.inr (.inl x2)), none, some (.inr (.inl r1)), none, some (.inr (.inl r2)), none, none, none], [], (am_sh, am_mm U2))) 1 (fun _ => rfl) ?_
  exact haa
set_option maxRecDepth 8000 in
theorem st154_12 (kz : am_Z) (d : Nat) (x0 x2 x4 x6 : Int) (U : Nat → Nat → Int) (R : Option am_V × am_M) (h : ((((am_lcmp x6 0) ≤ 0 : Prop)) → R = (some (.inr (.inl x4)), (am_sh, am_mm U))) ∧ (¬ ((am_lcmp x6 0) ≤ 0) → x6 ≠ 0 ∧ Ev kz ((d + 1), 154, 12, [some (.inr (.inl x0)), none, some (.inr (.inl x2)), none, some (.inr (.inl x6)), none, some (.inr (.inl (Int.tmod x4 x6))), none, some (.inr (.inl (Int.tmod x4 x6))), none], [], (am_sh, am_mm U)) R)) : Ev kz ((d + 1), 154, 12, [some (.inr (.inl x0)), none, some (.inr (.inl x2)), none, some (.inr (.inl x4)), none, some (.inr (.inl x6)), none, none, none], [], (am_sh, am_mm U)) R := by
  refine ev_br (P := (am_lcmp x6 0) ≤ 0) (σ1 := ((d + 1), 154, 37, [some (.inr (.inl x0)), none, some (.inr (.inl x2)), none, some (.inr (.inl x4)), none, some (.inr (.inl x6)), none, none, none], [], (am_sh, am_mm U))) (σ2 := ((d + 1), 154, 19, [some (.inr (.inl x0)), none, some (.inr (.inl x2)), none, some (.inr (.inl x4)), none, some (.inr (.inl x6)), none, none, none], [], (am_sh, am_mm U))) 4 (fun _ => rfl) (fun hc => ?_) (fun hc => ?_)
  · have h1 := h.1 hc
    subst h1
    exact ev_end 2 (fun _ => rfl)
  · have h2 := h.2 hc
    refine ev_seg (σ1 := ((d + 1), 154, 23, [some (.inr (.inl x0)), none, some (.inr (.inl x2)), none, some (.inr (.inl x4)), none, some (.inr (.inl x6)), none, none, none], [.inr (.inl x6), .inr (.inl x4)], (am_sh, am_mm U))) 2 (fun _ => rfl) ?_
    refine ev_lrem rfl h2.1 ?_
    have h2a := h2.2
    refine ev_seg (σ1 := ((d + 1), 154, 12, [some (.inr (.inl x0)), none, some (.inr (.inl x2)), none, some (.inr (.inl x6)), none, some (.inr (.inl (Int.tmod x4 x6))), none, some (.inr (.inl (Int.tmod x4 x6))), none], [], (am_sh, am_mm U))) 6 (fun _ => rfl) ?_
    exact h2a
set_option maxRecDepth 8000 in
theorem st107_0 (kz : am_Z) (d : Nat) (x0 x1 : Int) (U : Nat → Nat → Int) (R : Option am_V × am_M) (h : (((0 ≤ x1 : Prop)) → Ev kz (d, 107, 10, [some (.inl x0), some (.inl x1), some (.inl x1), some (.inl 0)], [], (am_sh, am_mm U)) R) ∧ (¬ (0 ≤ x1) → R = (some (.inl (-1)), (am_sh, am_mm U)))) : Ev kz (d, 107, 0, [some (.inl x0), some (.inl x1), none, none], [], (am_sh, am_mm U)) R := by
  refine ev_br (P := 0 ≤ x1) (σ1 := (d, 107, 6, [some (.inl x0), some (.inl x1), none, none], [], (am_sh, am_mm U))) (σ2 := (d, 107, 4, [some (.inl x0), some (.inl x1), none, none], [], (am_sh, am_mm U))) 2 (fun _ => rfl) (fun hc => ?_) (fun hc => ?_)
  · have h1 := h.1 hc
    refine ev_seg (σ1 := (d, 107, 10, [some (.inl x0), some (.inl x1), some (.inl x1), some (.inl 0)], [], (am_sh, am_mm U))) 4 (fun _ => rfl) ?_
    exact h1
  · have h2 := h.2 hc
    subst h2
    exact ev_end 2 (fun _ => rfl)
set_option maxRecDepth 8000 in
theorem st107_10 (kz : am_Z) (d : Nat) (x0 x1 x2 x3 : Int) (U : Nat → Nat → Int) (R : Option am_V × am_M) (h : (((32 ≤ x3 : Prop)) → R = (some (.inl (-1)), (am_sh, am_mm U))) ∧ (¬ (32 ≤ x3) → (((¬ (am_and (am_ushr x0 x3) 1) = 1 : Prop)) → Ev kz (d, 107, 10, [some (.inl x0), some (.inl x1), some (.inl x2), some (.inl (w32 (x3 + 1)))], [], (am_sh, am_mm U)) R) ∧ (¬ (¬ (am_and (am_ushr x0 x3) 1) = 1) → (((¬ x2 = 0 : Prop)) → Ev kz (d, 107, 10, [some (.inl x0), some (.inl x1), some (.inl (w32 (x2 + (-1)))), some (.inl (w32 (x3 + 1)))], [], (am_sh, am_mm U)) R) ∧ (¬ (¬ x2 = 0) → R = (some (.inl x3), (am_sh, am_mm U)))))) : Ev kz (d, 107, 10, [some (.inl x0), some (.inl x1), some (.inl x2), some (.inl x3)], [], (am_sh, am_mm U)) R := by
  refine ev_br (P := 32 ≤ x3) (σ1 := (d, 107, 40, [some (.inl x0), some (.inl x1), some (.inl x2), some (.inl x3)], [], (am_sh, am_mm U))) (σ2 := (d, 107, 16, [some (.inl x0), some (.inl x1), some (.inl x2), some (.inl x3)], [], (am_sh, am_mm U))) 3 (fun _ => rfl) (fun hc => ?_) (fun hc => ?_)
  · have h1 := h.1 hc
    subst h1
    exact ev_end 2 (fun _ => rfl)
  · have h2 := h.2 hc
    refine ev_br (P := ¬ (am_and (am_ushr x0 x3) 1) = 1) (σ1 := (d, 107, 34, [some (.inl x0), some (.inl x1), some (.inl x2), some (.inl x3)], [], (am_sh, am_mm U))) (σ2 := (d, 107, 25, [some (.inl x0), some (.inl x1), some (.inl x2), some (.inl x3)], [], (am_sh, am_mm U))) 7 (fun _ => rfl) (fun hc => ?_) (fun hc => ?_)
    · have h21 := h2.1 hc
      refine ev_seg (σ1 := (d, 107, 10, [some (.inl x0), some (.inl x1), some (.inl x2), some (.inl (w32 (x3 + 1)))], [], (am_sh, am_mm U))) 2 (fun _ => rfl) ?_
      exact h21
    · have h22 := h2.2 hc
      refine ev_br (P := ¬ x2 = 0) (σ1 := (d, 107, 31, [some (.inl x0), some (.inl x1), some (.inl x2), some (.inl x3)], [], (am_sh, am_mm U))) (σ2 := (d, 107, 29, [some (.inl x0), some (.inl x1), some (.inl x2), some (.inl x3)], [], (am_sh, am_mm U))) 2 (fun _ => rfl) (fun hc => ?_) (fun hc => ?_)
      · have h221 := h22.1 hc
        refine ev_seg (σ1 := (d, 107, 10, [some (.inl x0), some (.inl x1), some (.inl (w32 (x2 + (-1)))), some (.inl (w32 (x3 + 1)))], [], (am_sh, am_mm U))) 3 (fun _ => rfl) ?_
        exact h221
      · have h222 := h22.2 hc
        subst h222
        exact ev_end 2 (fun _ => rfl)
set_option maxRecDepth 8000 in
theorem st98_0 (kz : am_Z) (d : Nat) (x0 : Int) (U : Nat → Nat → Int) (R : Option am_V × am_M) (h : R = (some (.inl (am_and (w32 ((w32 ((am_and (w32 ((w32 ((am_and (w32 (x0 - (am_and (am_ushr x0 1) 1431655765))) 858993459) + (am_and (am_ushr (w32 (x0 - (am_and (am_ushr x0 1) 1431655765))) 2) 858993459))) + (am_ushr (w32 ((am_and (w32 (x0 - (am_and (am_ushr x0 1) 1431655765))) 858993459) + (am_and (am_ushr (w32 (x0 - (am_and (am_ushr x0 1) 1431655765))) 2) 858993459))) 4))) 252645135) + (am_ushr (am_and (w32 ((w32 ((am_and (w32 (x0 - (am_and (am_ushr x0 1) 1431655765))) 858993459) + (am_and (am_ushr (w32 (x0 - (am_and (am_ushr x0 1) 1431655765))) 2) 858993459))) + (am_ushr (w32 ((am_and (w32 (x0 - (am_and (am_ushr x0 1) 1431655765))) 858993459) + (am_and (am_ushr (w32 (x0 - (am_and (am_ushr x0 1) 1431655765))) 2) 858993459))) 4))) 252645135) 8))) + (am_ushr (w32 ((am_and (w32 ((w32 ((am_and (w32 (x0 - (am_and (am_ushr x0 1) 1431655765))) 858993459) + (am_and (am_ushr (w32 (x0 - (am_and (am_ushr x0 1) 1431655765))) 2) 858993459))) + (am_ushr (w32 ((am_and (w32 (x0 - (am_and (am_ushr x0 1) 1431655765))) 858993459) + (am_and (am_ushr (w32 (x0 - (am_and (am_ushr x0 1) 1431655765))) 2) 858993459))) 4))) 252645135) + (am_ushr (am_and (w32 ((w32 ((am_and (w32 (x0 - (am_and (am_ushr x0 1) 1431655765))) 858993459) + (am_and (am_ushr (w32 (x0 - (am_and (am_ushr x0 1) 1431655765))) 2) 858993459))) + (am_ushr (w32 ((am_and (w32 (x0 - (am_and (am_ushr x0 1) 1431655765))) 858993459) + (am_and (am_ushr (w32 (x0 - (am_and (am_ushr x0 1) 1431655765))) 2) 858993459))) 4))) 252645135) 8))) 16))) 63)), (am_sh, am_mm U))) : Ev kz (d, 98, 0, [some (.inl x0)], [], (am_sh, am_mm U)) R := by
  subst h
  exact ev_end 42 (fun _ => rfl)
set_option maxRecDepth 8000 in
theorem st117_1_0 (kz : am_Z) (d : Nat) (x1 : Int) (U : Nat → Nat → Int) (R : Option am_V × am_M) (h : ∃ (r1 : Int) (U1 : Nat → Nat → Int), Ev kz (d, 204, 0, [some (.inr (.inr 45)), some (.inl x1), none], [], (am_sh, am_mm U)) (some (.inl r1), (am_sh, am_mm U1)) ∧ ∃ (r2 : Int) (U2 : Nat → Nat → Int), Ev kz (d, 205, 0, [some (.inr (.inr 45)), some (.inl x1), none, none, none], [], (am_sh, am_mm U1)) (some (.inl r2), (am_sh, am_mm U2)) ∧ Ev kz ((d + 1), 117, 23, [some (.inr (.inr 1)), some (.inl x1), some (.inl (am_or r1 r2)), some (.inl 0), some (.inl 0)], [], (am_sh, am_mm U2)) R) : Ev kz ((d + 1), 117, 0, [some (.inr (.inr 1)), some (.inl x1), none, none, none], [], (am_sh, am_mm U)) R := by
  refine ev_seg (σ1 := ((d + 1), 117, 5, [some (.inr (.inr 1)), some (.inl x1), none, none, none], [.inl x1, .inr (.inr 45)], (am_sh, am_mm U))) 3 (fun _ => rfl) ?_
  obtain ⟨r1, U1, hc, ha⟩ := h
  refine ev_cal (σc := (d, 204, 0, [some (.inr (.inr 45)), some (.inl x1), none], [], (am_sh, am_mm U))) (fun _ => rfl) hc ?_
  show Ev kz ((d + 1), 117, 8, [some (.inr (.inr 1)), some (.inl x1), none, none, none], [.inl r1], (am_sh, am_mm U1)) R
  refine ev_seg (σ1 := ((d + 1), 117, 13, [some (.inr (.inr 1)), some (.inl x1), none, none, none], [.inl x1, .inr (.inr 45), .inl r1], (am_sh, am_mm U1))) 3 (fun _ => rfl) ?_
  obtain ⟨r2, U2, hac, haa⟩ := ha
  refine ev_cal (σc := (d, 205, 0, [some (.inr (.inr 45)), some (.inl x1), none, none, none], [], (am_sh, am_mm U1))) (fun _ => rfl) hac ?_
  show Ev kz ((d + 1), 117, 16, [some (.inr (.inr 1)), some (.inl x1), none, none, none], [.inl r2, .inl r1], (am_sh, am_mm U2)) R
  refine ev_seg (σ1 := ((d + 1), 117, 23, [some (.inr (.inr 1)), some (.inl x1), some (.inl (am_or r1 r2)), some (.inl 0), some (.inl 0)], [], (am_sh, am_mm U2))) 6 (fun _ => rfl) ?_
  exact haa
set_option maxRecDepth 8000 in
theorem st117_1_23 (kz : am_Z) (d : Nat) (x1 x2 x3 x4 : Int) (U : Nat → Nat → Int) (R : Option am_V × am_M) (h : ((((U 16 0) ≤ x4 : Prop)) → R = (some (.inl x3), (am_sh, am_mm U))) ∧ (¬ ((U 16 0) ≤ x4) → (((¬ (am_and (am_shr x2 x4) 1) = 1 : Prop)) → Ev kz ((d + 1), 117, 23, [some (.inr (.inr 1)), some (.inl x1), some (.inl x2), some (.inl x3), some (.inl (w32 (x4 + 1)))], [], (am_sh, am_mm U)) R) ∧ (¬ (¬ (am_and (am_shr x2 x4) 1) = 1) → (0 ≤ x1 ∧ x1 < 16) ∧ (0 ≤ x4 ∧ x4 < 16) ∧ ∃ (r1 : Int) (U1 : Nat → Nat → Int), Ev kz (d, 153, 0, [some (.inl (U 17 x1.toNat)), some (.inl (U 17 x4.toNat)), none, none, none, none], [], (am_sh, am_mm U)) (some (.inl r1), (am_sh, am_mm U1)) ∧ (((r1 ≤ 1 : Prop)) → Ev kz ((d + 1), 117, 23, [some (.inr (.inr 1)), some (.inl x1), some (.inl x2), some (.inl x3), some (.inl (w32 (x4 + 1)))], [], (am_sh, am_mm U1)) R) ∧ (¬ (r1 ≤ 1) → Ev kz ((d + 1), 117, 23, [some (.inr (.inr 1)), some (.inl x1), some (.inl x2), some (.inl (am_or x3 (am_shl 1 x4))), some (.inl (w32 (x4 + 1)))], [], (am_sh, am_mm U1)) R)))) : Ev kz ((d + 1), 117, 23, [some (.inr (.inr 1)), some (.inl x1), some (.inl x2), some (.inl x3), some (.inl x4)], [], (am_sh, am_mm U)) R := by
  refine ev_br (P := (U 16 0) ≤ x4) (σ1 := ((d + 1), 117, 84, [some (.inr (.inr 1)), some (.inl x1), some (.inl x2), some (.inl x3), some (.inl x4)], [], (am_sh, am_mm U))) (σ2 := ((d + 1), 117, 35, [some (.inr (.inr 1)), some (.inl x1), some (.inl x2), some (.inl x3), some (.inl x4)], [], (am_sh, am_mm U))) 5 (fun _ => rfl) (fun hc => ?_) (fun hc => ?_)
  · have h1 := h.1 hc
    subst h1
    exact ev_end 2 (fun _ => rfl)
  · have h2 := h.2 hc
    refine ev_br (P := ¬ (am_and (am_shr x2 x4) 1) = 1) (σ1 := ((d + 1), 117, 78, [some (.inr (.inr 1)), some (.inl x1), some (.inl x2), some (.inl x3), some (.inl x4)], [], (am_sh, am_mm U))) (σ2 := ((d + 1), 117, 45, [some (.inr (.inr 1)), some (.inl x1), some (.inl x2), some (.inl x3), some (.inl x4)], [], (am_sh, am_mm U))) 7 (fun _ => rfl) (fun hc => ?_) (fun hc => ?_)
    · have h21 := h2.1 hc
      refine ev_seg (σ1 := ((d + 1), 117, 23, [some (.inr (.inr 1)), some (.inl x1), some (.inl x2), some (.inl x3), some (.inl (w32 (x4 + 1)))], [], (am_sh, am_mm U))) 2 (fun _ => rfl) ?_
      exact h21
    · have h22 := h2.2 hc
      refine ev_seg (σ1 := ((d + 1), 117, 53, [some (.inr (.inr 1)), some (.inl x1), some (.inl x2), some (.inl x3), some (.inl x4)], [.inl x1, .inr (.inr 17)], (am_sh, am_mm U))) 4 (fun _ => rfl) ?_
      refine eu_iald 17 (n := 16) rfl (by decide) rfl (fun _ => rfl) h22.1 ?_
      have h22a := h22.2
      refine ev_seg (σ1 := ((d + 1), 117, 63, [some (.inr (.inr 1)), some (.inl x1), some (.inl x2), some (.inl x3), some (.inl x4)], [.inl x4, .inr (.inr 17), .inl (U 17 x1.toNat)], (am_sh, am_mm U))) 4 (fun _ => rfl) ?_
      refine eu_iald 17 (n := 16) rfl (by decide) rfl (fun _ => rfl) h22a.1 ?_
      have h22aa := h22a.2
      obtain ⟨r1, U1, h22aac, h22aaa⟩ := h22aa
      refine ev_cal (σc := (d, 153, 0, [some (.inl (U 17 x1.toNat)), some (.inl (U 17 x4.toNat)), none, none, none, none], [], (am_sh, am_mm U))) (fun _ => rfl) h22aac ?_
      show Ev kz ((d + 1), 117, 67, [some (.inr (.inr 1)), some (.inl x1), some (.inl x2), some (.inl x3), some (.inl x4)], [.inl r1], (am_sh, am_mm U1)) R
      refine ev_br (P := r1 ≤ 1) (σ1 := ((d + 1), 117, 78, [some (.inr (.inr 1)), some (.inl x1), some (.inl x2), some (.inl x3), some (.inl x4)], [], (am_sh, am_mm U1))) (σ2 := ((d + 1), 117, 71, [some (.inr (.inr 1)), some (.inl x1), some (.inl x2), some (.inl x3), some (.inl x4)], [], (am_sh, am_mm U1))) 2 (fun _ => rfl) (fun hc => ?_) (fun hc => ?_)
      · have h22aaa1 := h22aaa.1 hc
        refine ev_seg (σ1 := ((d + 1), 117, 23, [some (.inr (.inr 1)), some (.inl x1), some (.inl x2), some (.inl x3), some (.inl (w32 (x4 + 1)))], [], (am_sh, am_mm U1))) 2 (fun _ => rfl) ?_
        exact h22aaa1
      · have h22aaa2 := h22aaa.2 hc
        refine ev_seg (σ1 := ((d + 1), 117, 23, [some (.inr (.inr 1)), some (.inl x1), some (.inl x2), some (.inl (am_or x3 (am_shl 1 x4))), some (.inl (w32 (x4 + 1)))], [], (am_sh, am_mm U1))) 8 (fun _ => rfl) ?_
        exact h22aaa2
set_option maxRecDepth 8000 in
theorem st156_1_0 (kz : am_Z) (d : Nat) (x1 x2 x3 : Int) (U : Nat → Nat → Int) (R : Option am_V × am_M) (h : Ev kz ((d + 1), 156, 6, [some (.inr (.inr 1)), some (.inl x1), some (.inl x2), some (.inl x3), some (.inl 0), some (.inl 0)], [], (am_sh, am_mm U)) R) : Ev kz ((d + 1), 156, 0, [some (.inr (.inr 1)), some (.inl x1), some (.inl x2), some (.inl x3), none, none], [], (am_sh, am_mm U)) R := by
  refine ev_seg (σ1 := ((d + 1), 156, 6, [some (.inr (.inr 1)), some (.inl x1), some (.inl x2), some (.inl x3), some (.inl 0), some (.inl 0)], [], (am_sh, am_mm U))) 4 (fun _ => rfl) ?_
  exact h
set_option maxRecDepth 8000 in
theorem st156_1_6 (kz : am_Z) (d : Nat) (x1 x2 x3 x4 x5 : Int) (U : Nat → Nat → Int) (R : Option am_V × am_M) (h : (((x3 ≤ x5 : Prop)) → R = (some (.inl x4), (am_sh, am_mm U))) ∧ (¬ (x3 ≤ x5) → (((x1 = 0 : Prop)) → R = (some (.inl x4), (am_sh, am_mm U))) ∧ (¬ (x1 = 0) → (0 ≤ x5 ∧ x5 < 16) ∧ x1 ≠ 0 ∧ (0 ≤ x2 ∧ x2 < 16) ∧ x1 ≠ 0 ∧ (((¬ (Int.fmod (U 17 x5.toNat) x1) = (Int.fmod (U 17 x2.toNat) x1) : Prop)) → Ev kz ((d + 1), 156, 6, [some (.inr (.inr 1)), some (.inl x1), some (.inl x2), some (.inl x3), some (.inl x4), some (.inl (w32 (x5 + 1)))], [], (am_sh, am_mm U)) R) ∧ (¬ (¬ (Int.fmod (U 17 x5.toNat) x1) = (Int.fmod (U 17 x2.toNat) x1)) → Ev kz ((d + 1), 156, 6, [some (.inr (.inr 1)), some (.inl x1), some (.inl x2), some (.inl x3), some (.inl (w32 (x4 + 1))), some (.inl (w32 (x5 + 1)))], [], (am_sh, am_mm U)) R)))) : Ev kz ((d + 1), 156, 6, [some (.inr (.inr 1)), some (.inl x1), some (.inl x2), some (.inl x3), some (.inl x4), some (.inl x5)], [], (am_sh, am_mm U)) R := by
  refine ev_br (P := x3 ≤ x5) (σ1 := ((d + 1), 156, 55, [some (.inr (.inr 1)), some (.inl x1), some (.inl x2), some (.inl x3), some (.inl x4), some (.inl x5)], [], (am_sh, am_mm U))) (σ2 := ((d + 1), 156, 12, [some (.inr (.inr 1)), some (.inl x1), some (.inl x2), some (.inl x3), some (.inl x4), some (.inl x5)], [], (am_sh, am_mm U))) 3 (fun _ => rfl) (fun hc => ?_) (fun hc => ?_)
  · have h1 := h.1 hc
    subst h1
    exact ev_end 2 (fun _ => rfl)
  · have h2 := h.2 hc
    refine ev_br (P := x1 = 0) (σ1 := ((d + 1), 156, 55, [some (.inr (.inr 1)), some (.inl x1), some (.inl x2), some (.inl x3), some (.inl x4), some (.inl x5)], [], (am_sh, am_mm U))) (σ2 := ((d + 1), 156, 16, [some (.inr (.inr 1)), some (.inl x1), some (.inl x2), some (.inl x3), some (.inl x4), some (.inl x5)], [], (am_sh, am_mm U))) 2 (fun _ => rfl) (fun hc => ?_) (fun hc => ?_)
    · have h21 := h2.1 hc
      subst h21
      exact ev_end 2 (fun _ => rfl)
    · have h22 := h2.2 hc
      refine ev_seg (σ1 := ((d + 1), 156, 25, [some (.inr (.inr 1)), some (.inl x1), some (.inl x2), some (.inl x3), some (.inl x4), some (.inl x5)], [.inl x5, .inr (.inr 17)], (am_sh, am_mm U))) 4 (fun _ => rfl) ?_
      refine eu_iald 17 (n := 16) rfl (by decide) rfl (fun _ => rfl) h22.1 ?_
      have h22a := h22.2
      refine ev_seg (σ1 := ((d + 1), 156, 27, [some (.inr (.inr 1)), some (.inl x1), some (.inl x2), some (.inl x3), some (.inl x4), some (.inl x5)], [.inl x1, .inl (U 17 x5.toNat)], (am_sh, am_mm U))) 1 (fun _ => rfl) ?_
      refine ev_flm rfl (by omega) (by simp [am_cat]) h22a.1 ?_
      have h22aa := h22a.2
      refine ev_seg (σ1 := ((d + 1), 156, 38, [some (.inr (.inr 1)), some (.inl x1), some (.inl x2), some (.inl x3), some (.inl x4), some (.inl x5)], [.inl x2, .inr (.inr 17), .inl (Int.fmod (U 17 x5.toNat) x1)], (am_sh, am_mm U))) 4 (fun _ => rfl) ?_
      refine eu_iald 17 (n := 16) rfl (by decide) rfl (fun _ => rfl) h22aa.1 ?_
      have h22aaa := h22aa.2
      refine ev_seg (σ1 := ((d + 1), 156, 40, [some (.inr (.inr 1)), some (.inl x1), some (.inl x2), some (.inl x3), some (.inl x4), some (.inl x5)], [.inl x1, .inl (U 17 x2.toNat), .inl (Int.fmod (U 17 x5.toNat) x1)], (am_sh, am_mm U))) 1 (fun _ => rfl) ?_
      refine ev_flm rfl (by omega) (by simp [am_cat]) h22aaa.1 ?_
      have h22aaaa := h22aaa.2
      refine ev_br (P := ¬ (Int.fmod (U 17 x5.toNat) x1) = (Int.fmod (U 17 x2.toNat) x1)) (σ1 := ((d + 1), 156, 49, [some (.inr (.inr 1)), some (.inl x1), some (.inl x2), some (.inl x3), some (.inl x4), some (.inl x5)], [], (am_sh, am_mm U))) (σ2 := ((d + 1), 156, 46, [some (.inr (.inr 1)), some (.inl x1), some (.inl x2), some (.inl x3), some (.inl x4), some (.inl x5)], [], (am_sh, am_mm U))) 1 (fun _ => rfl) (fun hc => ?_) (fun hc => ?_)
      · have h22aaaa1 := h22aaaa.1 hc
        refine ev_seg (σ1 := ((d + 1), 156, 6, [some (.inr (.inr 1)), some (.inl x1), some (.inl x2), some (.inl x3), some (.inl x4), some (.inl (w32 (x5 + 1)))], [], (am_sh, am_mm U))) 2 (fun _ => rfl) ?_
        exact h22aaaa1
      · have h22aaaa2 := h22aaaa.2 hc
        refine ev_seg (σ1 := ((d + 1), 156, 6, [some (.inr (.inr 1)), some (.inl x1), some (.inl x2), some (.inl x3), some (.inl (w32 (x4 + 1))), some (.inl (w32 (x5 + 1)))], [], (am_sh, am_mm U))) 3 (fun _ => rfl) ?_
        exact h22aaaa2
set_option maxRecDepth 8000 in
theorem st155_1_0 (kz : am_Z) (d : Nat) (x1 : Int) (U : Nat → Nat → Int) (R : Option am_V × am_M) (h : Ev kz ((d + 1), 155, 4, [some (.inr (.inr 1)), some (.inl x1), some (.inl 0), some (.inl 0)], [], (am_sh, am_mm U)) R) : Ev kz ((d + 1), 155, 0, [some (.inr (.inr 1)), some (.inl x1), none, none], [], (am_sh, am_mm U)) R := by
  refine ev_seg (σ1 := ((d + 1), 155, 4, [some (.inr (.inr 1)), some (.inl x1), some (.inl 0), some (.inl 0)], [], (am_sh, am_mm U))) 4 (fun _ => rfl) ?_
  exact h
set_option maxRecDepth 8000 in
theorem st155_1_4 (kz : am_Z) (d : Nat) (x1 x2 x3 : Int) (U : Nat → Nat → Int) (R : Option am_V × am_M) (h : ((((U 16 0) ≤ x3 : Prop)) → R = (some (.inl x2), (am_sh, am_mm U))) ∧ (¬ ((U 16 0) ≤ x3) → ∃ (r1 : Int) (U1 : Nat → Nat → Int), Ev kz (d, 156, 0, [some (.inr (.inr 1)), some (.inl x1), some (.inl x3), some (.inl x3), none, none], [], (am_sh, am_mm U)) (some (.inl r1), (am_sh, am_mm U1)) ∧ (((¬ r1 = 0 : Prop)) → Ev kz ((d + 1), 155, 4, [some (.inr (.inr 1)), some (.inl x1), some (.inl x2), some (.inl (w32 (x3 + 1)))], [], (am_sh, am_mm U1)) R) ∧ (¬ (¬ r1 = 0) → Ev kz ((d + 1), 155, 4, [some (.inr (.inr 1)), some (.inl x1), some (.inl (w32 (x2 + 1))), some (.inl (w32 (x3 + 1)))], [], (am_sh, am_mm U1)) R))) : Ev kz ((d + 1), 155, 4, [some (.inr (.inr 1)), some (.inl x1), some (.inl x2), some (.inl x3)], [], (am_sh, am_mm U)) R := by
  refine ev_br (P := (U 16 0) ≤ x3) (σ1 := ((d + 1), 155, 34, [some (.inr (.inr 1)), some (.inl x1), some (.inl x2), some (.inl x3)], [], (am_sh, am_mm U))) (σ2 := ((d + 1), 155, 15, [some (.inr (.inr 1)), some (.inl x1), some (.inl x2), some (.inl x3)], [], (am_sh, am_mm U))) 5 (fun _ => rfl) (fun hc => ?_) (fun hc => ?_)
  · have h1 := h.1 hc
    subst h1
    exact ev_end 2 (fun _ => rfl)
  · have h2 := h.2 hc
    refine ev_seg (σ1 := ((d + 1), 155, 19, [some (.inr (.inr 1)), some (.inl x1), some (.inl x2), some (.inl x3)], [.inl x3, .inl x3, .inl x1, .inr (.inr 1)], (am_sh, am_mm U))) 4 (fun _ => rfl) ?_
    obtain ⟨r1, U1, h2c, h2a⟩ := h2
    refine ev_cal (σc := (d, 156, 0, [some (.inr (.inr 1)), some (.inl x1), some (.inl x3), some (.inl x3), none, none], [], (am_sh, am_mm U))) (fun _ => rfl) h2c ?_
    show Ev kz ((d + 1), 155, 22, [some (.inr (.inr 1)), some (.inl x1), some (.inl x2), some (.inl x3)], [.inl r1], (am_sh, am_mm U1)) R
    refine ev_br (P := ¬ r1 = 0) (σ1 := ((d + 1), 155, 28, [some (.inr (.inr 1)), some (.inl x1), some (.inl x2), some (.inl x3)], [], (am_sh, am_mm U1))) (σ2 := ((d + 1), 155, 25, [some (.inr (.inr 1)), some (.inl x1), some (.inl x2), some (.inl x3)], [], (am_sh, am_mm U1))) 1 (fun _ => rfl) (fun hc => ?_) (fun hc => ?_)
    · have h2a1 := h2a.1 hc
      refine ev_seg (σ1 := ((d + 1), 155, 4, [some (.inr (.inr 1)), some (.inl x1), some (.inl x2), some (.inl (w32 (x3 + 1)))], [], (am_sh, am_mm U1))) 2 (fun _ => rfl) ?_
      exact h2a1
    · have h2a2 := h2a.2 hc
      refine ev_seg (σ1 := ((d + 1), 155, 4, [some (.inr (.inr 1)), some (.inl x1), some (.inl (w32 (x2 + 1))), some (.inl (w32 (x3 + 1)))], [], (am_sh, am_mm U1))) 3 (fun _ => rfl) ?_
      exact h2a2
set_option maxRecDepth 8000 in
theorem st157_86_0 (kz : am_Z) (d : Nat) (x1 x2 x3 : Int) (U : Nat → Nat → Int) (R : Option am_V × am_M) (h : (0 ≤ x2 ∧ x2 < 352) ∧ (0 ≤ x3 ∧ x3 < 352) ∧ x1 ≠ 0 ∧ (((¬ (Int.tmod (w32 ((U 123 x2.toNat) - (U 123 x3.toNat))) x1) = 0 : Prop)) → R = (some (.inl 0), (am_sh, am_mm U))) ∧ (¬ (¬ (Int.tmod (w32 ((U 123 x2.toNat) - (U 123 x3.toNat))) x1) = 0) → R = (some (.inl 1), (am_sh, am_mm U)))) : Ev kz (d, 157, 0, [some (.inr (.inr 86)), some (.inl x1), some (.inl x2), some (.inl x3)], [], (am_sh, am_mm U)) R := by
  refine ev_seg (σ1 := (d, 157, 5, [some (.inr (.inr 86)), some (.inl x1), some (.inl x2), some (.inl x3)], [.inl x2, .inr (.inr 123)], (am_sh, am_mm U))) 3 (fun _ => rfl) ?_
  refine eu_iald 123 (n := 352) rfl (by decide) rfl (fun _ => rfl) h.1 ?_
  have ha := h.2
  refine ev_seg (σ1 := (d, 157, 11, [some (.inr (.inr 86)), some (.inl x1), some (.inl x2), some (.inl x3)], [.inl x3, .inr (.inr 123), .inl (U 123 x2.toNat)], (am_sh, am_mm U))) 3 (fun _ => rfl) ?_
  refine eu_iald 123 (n := 352) rfl (by decide) rfl (fun _ => rfl) ha.1 ?_
  have haa := ha.2
  refine ev_seg (σ1 := (d, 157, 14, [some (.inr (.inr 86)), some (.inl x1), some (.inl x2), some (.inl x3)], [.inl x1, .inl (w32 ((U 123 x2.toNat) - (U 123 x3.toNat)))], (am_sh, am_mm U))) 2 (fun _ => rfl) ?_
  refine ev_irem rfl haa.1 ?_
  have haaa := haa.2
  refine ev_br (P := ¬ (Int.tmod (w32 ((U 123 x2.toNat) - (U 123 x3.toNat))) x1) = 0) (σ1 := (d, 157, 22, [some (.inr (.inr 86)), some (.inl x1), some (.inl x2), some (.inl x3)], [], (am_sh, am_mm U))) (σ2 := (d, 157, 18, [some (.inr (.inr 86)), some (.inl x1), some (.inl x2), some (.inl x3)], [], (am_sh, am_mm U))) 1 (fun _ => rfl) (fun hc => ?_) (fun hc => ?_)
  · have haaa1 := haaa.1 hc
    subst haaa1
    exact ev_end 2 (fun _ => rfl)
  · have haaa2 := haaa.2 hc
    subst haaa2
    exact ev_end 3 (fun _ => rfl)
set_option maxRecDepth 8000 in
theorem st158_1_0 (kz : am_Z) (d : Nat) (x1 : Int) (U : Nat → Nat → Int) (R : Option am_V × am_M) (h : Ev kz ((d + 1), 158, 2, [some (.inr (.inr 1)), some (.inl x1), some (.inl 0)], [], (am_sh, am_mm U)) R) : Ev kz ((d + 1), 158, 0, [some (.inr (.inr 1)), some (.inl x1), none], [], (am_sh, am_mm U)) R := by
  refine ev_seg (σ1 := ((d + 1), 158, 2, [some (.inr (.inr 1)), some (.inl x1), some (.inl 0)], [], (am_sh, am_mm U))) 2 (fun _ => rfl) ?_
  exact h
set_option maxRecDepth 8000 in
theorem st158_1_2 (kz : am_Z) (d : Nat) (x1 x2 : Int) (U : Nat → Nat → Int) (R : Option am_V × am_M) (h : ((((U 16 0) ≤ x2 : Prop)) → R = (none, (am_sh, am_mm U))) ∧ (¬ ((U 16 0) ≤ x2) → (0 ≤ x2 ∧ x2 < 16) ∧ (((¬ (U 18 x2.toNat) = x1 : Prop)) → Ev kz ((d + 1), 158, 2, [some (.inr (.inr 1)), some (.inl x1), some (.inl (w32 (x2 + 1)))], [], (am_sh, am_mm U)) R) ∧ (¬ (¬ (U 18 x2.toNat) = x1) → (0 ≤ x2 ∧ x2 < 16) ∧ ∃ U1 : Nat → Nat → Int, Ev kz (d, 239, 0, [some (.inr (.inr 82)), some (.inl (if 0 ≤ (U 17 x2.toNat) then (U 17 x2.toNat) else w32 (-(U 17 x2.toNat)))), none, none, none, none, none], [], (am_sh, am_mm U)) (none, (am_sh, am_mm U1)) ∧ Ev kz ((d + 1), 158, 2, [some (.inr (.inr 1)), some (.inl x1), some (.inl (w32 (x2 + 1)))], [], (am_sh, am_mm U1)) R))) : Ev kz ((d + 1), 158, 2, [some (.inr (.inr 1)), some (.inl x1), some (.inl x2)], [], (am_sh, am_mm U)) R := by
  refine ev_br (P := (U 16 0) ≤ x2) (σ1 := ((d + 1), 158, 51, [some (.inr (.inr 1)), some (.inl x1), some (.inl x2)], [], (am_sh, am_mm U))) (σ2 := ((d + 1), 158, 13, [some (.inr (.inr 1)), some (.inl x1), some (.inl x2)], [], (am_sh, am_mm U))) 5 (fun _ => rfl) (fun hc => ?_) (fun hc => ?_)
  · have h1 := h.1 hc
    subst h1
    exact ev_end 1 (fun _ => rfl)
  · have h2 := h.2 hc
    refine ev_seg (σ1 := ((d + 1), 158, 21, [some (.inr (.inr 1)), some (.inl x1), some (.inl x2)], [.inl x2, .inr (.inr 18)], (am_sh, am_mm U))) 4 (fun _ => rfl) ?_
    refine eu_iald 18 (n := 16) rfl (by decide) rfl (fun _ => rfl) h2.1 ?_
    have h2a := h2.2
    refine ev_br (P := ¬ (U 18 x2.toNat) = x1) (σ1 := ((d + 1), 158, 45, [some (.inr (.inr 1)), some (.inl x1), some (.inl x2)], [], (am_sh, am_mm U))) (σ2 := ((d + 1), 158, 26, [some (.inr (.inr 1)), some (.inl x1), some (.inl x2)], [], (am_sh, am_mm U))) 2 (fun _ => rfl) (fun hc => ?_) (fun hc => ?_)
    · have h2a1 := h2a.1 hc
      refine ev_seg (σ1 := ((d + 1), 158, 2, [some (.inr (.inr 1)), some (.inl x1), some (.inl (w32 (x2 + 1)))], [], (am_sh, am_mm U))) 2 (fun _ => rfl) ?_
      exact h2a1
    · have h2a2 := h2a.2 hc
      refine ev_seg (σ1 := ((d + 1), 158, 38, [some (.inr (.inr 1)), some (.inl x1), some (.inl x2)], [.inl x2, .inr (.inr 17), .inr (.inr 82)], (am_sh, am_mm U))) 6 (fun _ => rfl) ?_
      refine eu_iald 17 (n := 16) rfl (by decide) rfl (fun _ => rfl) h2a2.1 ?_
      have h2a2a := h2a2.2
      refine ev_seg (σ1 := ((d + 1), 158, 42, [some (.inr (.inr 1)), some (.inl x1), some (.inl x2)], [.inl (if 0 ≤ (U 17 x2.toNat) then (U 17 x2.toNat) else w32 (-(U 17 x2.toNat))), .inr (.inr 82)], (am_sh, am_mm U))) 1 (fun _ => rfl) ?_
      obtain ⟨U1, h2a2ac, h2a2aa⟩ := h2a2a
      refine ev_cal (σc := (d, 239, 0, [some (.inr (.inr 82)), some (.inl (if 0 ≤ (U 17 x2.toNat) then (U 17 x2.toNat) else w32 (-(U 17 x2.toNat)))), none, none, none, none, none], [], (am_sh, am_mm U))) (fun _ => rfl) h2a2ac ?_
      show Ev kz ((d + 1), 158, 45, [some (.inr (.inr 1)), some (.inl x1), some (.inl x2)], [], (am_sh, am_mm U1)) R
      refine ev_seg (σ1 := ((d + 1), 158, 2, [some (.inr (.inr 1)), some (.inl x1), some (.inl (w32 (x2 + 1)))], [], (am_sh, am_mm U1))) 2 (fun _ => rfl) ?_
      exact h2a2aa
set_option maxRecDepth 8000 in
theorem st109_86_0 (kz : am_Z) (d : Nat) (x1 : Int) (U : Nat → Nat → Int) (R : Option am_V × am_M) (h : (0 ≤ (w32 ((w32 (12 * (U 86 13))) + x1)) ∧ (w32 ((w32 (12 * (U 86 13))) + x1)) < 24) ∧ R = (some (.inl (U 92 (w32 ((w32 (12 * (U 86 13))) + x1)).toNat)), (am_sh, am_mm U))) : Ev kz (d, 109, 0, [some (.inr (.inr 86)), some (.inl x1)], [], (am_sh, am_mm U)) R := by
  refine ev_seg (σ1 := (d, 109, 13, [some (.inr (.inr 86)), some (.inl x1)], [.inl (w32 ((w32 (12 * (U 86 13))) + x1)), .inr (.inr 92)], (am_sh, am_mm U))) 8 (fun _ => rfl) ?_
  refine eu_iald 92 (n := 24) rfl (by decide) rfl (fun _ => rfl) h.1 ?_
  have ha := h.2
  subst ha
  exact ev_end 1 (fun _ => rfl)
set_option maxRecDepth 8000 in
theorem st160_86_0 (kz : am_Z) (d : Nat) (x1 : Int) (U : Nat → Nat → Int) (R : Option am_V × am_M) (h : Ev kz (d, 160, 14, [some (.inr (.inr 86)), some (.inr (.inl x1)), none, some (.inr (.inl (U 86 76))), none, some (.inr (.inl x1)), none, some (.inl 0), some (.inl 0)], [], (am_sh, am_mm U)) R) : Ev kz (d, 160, 0, [some (.inr (.inr 86)), some (.inr (.inl x1)), none, none, none, none, none, none, none], [], (am_sh, am_mm U)) R := by
  refine ev_seg (σ1 := (d, 160, 14, [some (.inr (.inr 86)), some (.inr (.inl x1)), none, some (.inr (.inl (U 86 76))), none, some (.inr (.inl x1)), none, some (.inl 0), some (.inl 0)], [], (am_sh, am_mm U))) 9 (fun _ => rfl) ?_
  exact h
set_option maxRecDepth 8000 in
theorem st160_86_14 (kz : am_Z) (d : Nat) (x1 x3 x5 x7 x8 : Int) (U : Nat → Nat → Int) (R : Option am_V × am_M) (h : (((0 < (am_lcmp x3 0) : Prop)) → ((((w32 ((w32 (w64 ((Int.tmod x3 10) + (Int.tmod x5 10)))) + x7)) ≤ 9 : Prop)) → (((¬ 0 = 1 : Prop)) → (((0 ≤ ((am_upd U 86 77 (w32 ((U 86 77) + 0))) 86 78) : Prop)) → Ev kz (d, 160, 14, [some (.inr (.inr 86)), some (.inr (.inl x1)), none, some (.inr (.inl (w64 (Int.tdiv x3 10)))), none, some (.inr (.inl (w64 (Int.tdiv x5 10)))), none, some (.inl 0), some (.inl 0)], [], (am_sh, am_mm (am_upd (am_upd U 86 77 (w32 ((U 86 77) + 0))) 86 78 ((am_upd U 86 77 (w32 ((U 86 77) + 0))) 86 78)))) R) ∧ (¬ (0 ≤ ((am_upd U 86 77 (w32 ((U 86 77) + 0))) 86 78)) → Ev kz (d, 160, 14, [some (.inr (.inr 86)), some (.inr (.inl x1)), none, some (.inr (.inl (w64 (Int.tdiv x3 10)))), none, some (.inr (.inl (w64 (Int.tdiv x5 10)))), none, some (.inl 0), some (.inl 0)], [], (am_sh, am_mm (am_upd (am_upd U 86 77 (w32 ((U 86 77) + 0))) 86 78 0))) R)) ∧ (¬ (¬ 0 = 1) → ((((w32 (x8 + 1)) ≤ ((am_upd U 86 77 (w32 ((U 86 77) + 0))) 86 78) : Prop)) → Ev kz (d, 160, 14, [some (.inr (.inr 86)), some (.inr (.inl x1)), none, some (.inr (.inl (w64 (Int.tdiv x3 10)))), none, some (.inr (.inl (w64 (Int.tdiv x5 10)))), none, some (.inl 0), some (.inl (w32 (x8 + 1)))], [], (am_sh, am_mm (am_upd (am_upd U 86 77 (w32 ((U 86 77) + 0))) 86 78 ((am_upd U 86 77 (w32 ((U 86 77) + 0))) 86 78)))) R) ∧ (¬ ((w32 (x8 + 1)) ≤ ((am_upd U 86 77 (w32 ((U 86 77) + 0))) 86 78)) → Ev kz (d, 160, 14, [some (.inr (.inr 86)), some (.inr (.inl x1)), none, some (.inr (.inl (w64 (Int.tdiv x3 10)))), none, some (.inr (.inl (w64 (Int.tdiv x5 10)))), none, some (.inl 0), some (.inl (w32 (x8 + 1)))], [], (am_sh, am_mm (am_upd (am_upd U 86 77 (w32 ((U 86 77) + 0))) 86 78 (w32 (x8 + 1))))) R))) ∧ (¬ ((w32 ((w32 (w64 ((Int.tmod x3 10) + (Int.tmod x5 10)))) + x7)) ≤ 9) → (((¬ 1 = 1 : Prop)) → (((0 ≤ ((am_upd U 86 77 (w32 ((U 86 77) + 1))) 86 78) : Prop)) → Ev kz (d, 160, 14, [some (.inr (.inr 86)), some (.inr (.inl x1)), none, some (.inr (.inl (w64 (Int.tdiv x3 10)))), none, some (.inr (.inl (w64 (Int.tdiv x5 10)))), none, some (.inl 1), some (.inl 0)], [], (am_sh, am_mm (am_upd (am_upd U 86 77 (w32 ((U 86 77) + 1))) 86 78 ((am_upd U 86 77 (w32 ((U 86 77) + 1))) 86 78)))) R) ∧ (¬ (0 ≤ ((am_upd U 86 77 (w32 ((U 86 77) + 1))) 86 78)) → Ev kz (d, 160, 14, [some (.inr (.inr 86)), some (.inr (.inl x1)), none, some (.inr (.inl (w64 (Int.tdiv x3 10)))), none, some (.inr (.inl (w64 (Int.tdiv x5 10)))), none, some (.inl 1), some (.inl 0)], [], (am_sh, am_mm (am_upd (am_upd U 86 77 (w32 ((U 86 77) + 1))) 86 78 0))) R)) ∧ (¬ (¬ 1 = 1) → ((((w32 (x8 + 1)) ≤ ((am_upd U 86 77 (w32 ((U 86 77) + 1))) 86 78) : Prop)) → Ev kz (d, 160, 14, [some (.inr (.inr 86)), some (.inr (.inl x1)), none, some (.inr (.inl (w64 (Int.tdiv x3 10)))), none, some (.inr (.inl (w64 (Int.tdiv x5 10)))), none, some (.inl 1), some (.inl (w32 (x8 + 1)))], [], (am_sh, am_mm (am_upd (am_upd U 86 77 (w32 ((U 86 77) + 1))) 86 78 ((am_upd U 86 77 (w32 ((U 86 77) + 1))) 86 78)))) R) ∧ (¬ ((w32 (x8 + 1)) ≤ ((am_upd U 86 77 (w32 ((U 86 77) + 1))) 86 78)) → Ev kz (d, 160, 14, [some (.inr (.inr 86)), some (.inr (.inl x1)), none, some (.inr (.inl (w64 (Int.tdiv x3 10)))), none, some (.inr (.inl (w64 (Int.tdiv x5 10)))), none, some (.inl 1), some (.inl (w32 (x8 + 1)))], [], (am_sh, am_mm (am_upd (am_upd U 86 77 (w32 ((U 86 77) + 1))) 86 78 (w32 (x8 + 1))))) R)))) ∧ (¬ (0 < (am_lcmp x3 0)) → ((((am_lcmp x5 0) ≤ 0 : Prop)) → R = (none, (am_sh, am_mm (am_upd U 86 76 (w64 ((U 86 76) + x1)))))) ∧ (¬ ((am_lcmp x5 0) ≤ 0) → ((((w32 ((w32 (w64 ((Int.tmod x3 10) + (Int.tmod x5 10)))) + x7)) ≤ 9 : Prop)) → (((¬ 0 = 1 : Prop)) → (((0 ≤ ((am_upd U 86 77 (w32 ((U 86 77) + 0))) 86 78) : Prop)) → Ev kz (d, 160, 14, [some (.inr (.inr 86)), some (.inr (.inl x1)), none, some (.inr (.inl (w64 (Int.tdiv x3 10)))), none, some (.inr (.inl (w64 (Int.tdiv x5 10)))), none, some (.inl 0), some (.inl 0)], [], (am_sh, am_mm (am_upd (am_upd U 86 77 (w32 ((U 86 77) + 0))) 86 78 ((am_upd U 86 77 (w32 ((U 86 77) + 0))) 86 78)))) R) ∧ (¬ (0 ≤ ((am_upd U 86 77 (w32 ((U 86 77) + 0))) 86 78)) → Ev kz (d, 160, 14, [some (.inr (.inr 86)), some (.inr (.inl x1)), none, some (.inr (.inl (w64 (Int.tdiv x3 10)))), none, some (.inr (.inl (w64 (Int.tdiv x5 10)))), none, some (.inl 0), some (.inl 0)], [], (am_sh, am_mm (am_upd (am_upd U 86 77 (w32 ((U 86 77) + 0))) 86 78 0))) R)) ∧ (¬ (¬ 0 = 1) → ((((w32 (x8 + 1)) ≤ ((am_upd U 86 77 (w32 ((U 86 77) + 0))) 86 78) : Prop)) → Ev kz (d, 160, 14, [some (.inr (.inr 86)), some (.inr (.inl x1)), none, some (.inr (.inl (w64 (Int.tdiv x3 10)))), none, some (.inr (.inl (w64 (Int.tdiv x5 10)))), none, some (.inl 0), some (.inl (w32 (x8 + 1)))], [], (am_sh, am_mm (am_upd (am_upd U 86 77 (w32 ((U 86 77) + 0))) 86 78 ((am_upd U 86 77 (w32 ((U 86 77) + 0))) 86 78)))) R) ∧ (¬ ((w32 (x8 + 1)) ≤ ((am_upd U 86 77 (w32 ((U 86 77) + 0))) 86 78)) → Ev kz (d, 160, 14, [some (.inr (.inr 86)), some (.inr (.inl x1)), none, some (.inr (.inl (w64 (Int.tdiv x3 10)))), none, some (.inr (.inl (w64 (Int.tdiv x5 10)))), none, some (.inl 0), some (.inl (w32 (x8 + 1)))], [], (am_sh, am_mm (am_upd (am_upd U 86 77 (w32 ((U 86 77) + 0))) 86 78 (w32 (x8 + 1))))) R))) ∧ (¬ ((w32 ((w32 (w64 ((Int.tmod x3 10) + (Int.tmod x5 10)))) + x7)) ≤ 9) → (((¬ 1 = 1 : Prop)) → (((0 ≤ ((am_upd U 86 77 (w32 ((U 86 77) + 1))) 86 78) : Prop)) → Ev kz (d, 160, 14, [some (.inr (.inr 86)), some (.inr (.inl x1)), none, some (.inr (.inl (w64 (Int.tdiv x3 10)))), none, some (.inr (.inl (w64 (Int.tdiv x5 10)))), none, some (.inl 1), some (.inl 0)], [], (am_sh, am_mm (am_upd (am_upd U 86 77 (w32 ((U 86 77) + 1))) 86 78 ((am_upd U 86 77 (w32 ((U 86 77) + 1))) 86 78)))) R) ∧ (¬ (0 ≤ ((am_upd U 86 77 (w32 ((U 86 77) + 1))) 86 78)) → Ev kz (d, 160, 14, [some (.inr (.inr 86)), some (.inr (.inl x1)), none, some (.inr (.inl (w64 (Int.tdiv x3 10)))), none, some (.inr (.inl (w64 (Int.tdiv x5 10)))), none, some (.inl 1), some (.inl 0)], [], (am_sh, am_mm (am_upd (am_upd U 86 77 (w32 ((U 86 77) + 1))) 86 78 0))) R)) ∧ (¬ (¬ 1 = 1) → ((((w32 (x8 + 1)) ≤ ((am_upd U 86 77 (w32 ((U 86 77) + 1))) 86 78) : Prop)) → Ev kz (d, 160, 14, [some (.inr (.inr 86)), some (.inr (.inl x1)), none, some (.inr (.inl (w64 (Int.tdiv x3 10)))), none, some (.inr (.inl (w64 (Int.tdiv x5 10)))), none, some (.inl 1), some (.inl (w32 (x8 + 1)))], [], (am_sh, am_mm (am_upd (am_upd U 86 77 (w32 ((U 86 77) + 1))) 86 78 ((am_upd U 86 77 (w32 ((U 86 77) + 1))) 86 78)))) R) ∧ (¬ ((w32 (x8 + 1)) ≤ ((am_upd U 86 77 (w32 ((U 86 77) + 1))) 86 78)) → Ev kz (d, 160, 14, [some (.inr (.inr 86)), some (.inr (.inl x1)), none, some (.inr (.inl (w64 (Int.tdiv x3 10)))), none, some (.inr (.inl (w64 (Int.tdiv x5 10)))), none, some (.inl 1), some (.inl (w32 (x8 + 1)))], [], (am_sh, am_mm (am_upd (am_upd U 86 77 (w32 ((U 86 77) + 1))) 86 78 (w32 (x8 + 1))))) R)))))) : Ev kz (d, 160, 14, [some (.inr (.inr 86)), some (.inr (.inl x1)), none, some (.inr (.inl x3)), none, some (.inr (.inl x5)), none, some (.inl x7), some (.inl x8)], [], (am_sh, am_mm U)) R := by
  refine ev_br (P := 0 < (am_lcmp x3 0)) (σ1 := (d, 160, 27, [some (.inr (.inr 86)), some (.inr (.inl x1)), none, some (.inr (.inl x3)), none, some (.inr (.inl x5)), none, some (.inl x7), some (.inl x8)], [], (am_sh, am_mm U))) (σ2 := (d, 160, 20, [some (.inr (.inr 86)), some (.inr (.inl x1)), none, some (.inr (.inl x3)), none, some (.inr (.inl x5)), none, some (.inl x7), some (.inl x8)], [], (am_sh, am_mm U))) 4 (fun _ => rfl) (fun hc => ?_) (fun hc => ?_)
  · have h1 := h.1 hc
    refine ev_seg (σ1 := (d, 160, 31, [some (.inr (.inr 86)), some (.inr (.inl x1)), none, some (.inr (.inl x3)), none, some (.inr (.inl x5)), none, some (.inl x7), some (.inl x8)], [.inr (.inl 10), .inr (.inl x3)], (am_sh, am_mm U))) 2 (fun _ => rfl) ?_
    refine ev_lrem rfl (by decide) ?_
    refine ev_seg (σ1 := (d, 160, 37, [some (.inr (.inr 86)), some (.inr (.inl x1)), none, some (.inr (.inl x3)), none, some (.inr (.inl x5)), none, some (.inl x7), some (.inl x8)], [.inr (.inl 10), .inr (.inl x5), .inr (.inl (Int.tmod x3 10))], (am_sh, am_mm U))) 2 (fun _ => rfl) ?_
    refine ev_lrem rfl (by decide) ?_
    refine ev_br (P := (w32 ((w32 (w64 ((Int.tmod x3 10) + (Int.tmod x5 10)))) + x7)) ≤ 9) (σ1 := (d, 160, 52, [some (.inr (.inr 86)), some (.inr (.inl x1)), none, some (.inr (.inl x3)), none, some (.inr (.inl x5)), none, some (.inl x7), some (.inl x8)], [], (am_sh, am_mm U))) (σ2 := (d, 160, 48, [some (.inr (.inr 86)), some (.inr (.inl x1)), none, some (.inr (.inl x3)), none, some (.inr (.inl x5)), none, some (.inl x7), some (.inl x8)], [], (am_sh, am_mm U))) 6 (fun _ => rfl) (fun hc => ?_) (fun hc => ?_)
    · have h11 := h1.1 hc
      refine ev_seg (σ1 := (d, 160, 63, [some (.inr (.inr 86)), some (.inr (.inl x1)), none, some (.inr (.inl x3)), none, some (.inr (.inl x5)), none, some (.inl 0), some (.inl x8)], [.inl (w32 ((U 86 77) + 0)), .inr (.inr 86)], (am_sh, am_mm U))) 7 (fun _ => rfl) ?_
      refine eu_puti 86 (n := 90) rfl (by decide) rfl rfl ?_
      refine ev_br (P := ¬ 0 = 1) (σ1 := (d, 160, 79, [some (.inr (.inr 86)), some (.inr (.inl x1)), none, some (.inr (.inl x3)), none, some (.inr (.inl x5)), none, some (.inl 0), some (.inl x8)], [], (am_sh, am_mm (am_upd U 86 77 (w32 ((U 86 77) + 0)))))) (σ2 := (d, 160, 72, [some (.inr (.inr 86)), some (.inr (.inl x1)), none, some (.inr (.inl x3)), none, some (.inr (.inl x5)), none, some (.inl 0), some (.inl x8)], [], (am_sh, am_mm (am_upd U 86 77 (w32 ((U 86 77) + 0)))))) 3 (fun _ => rfl) (fun hc => ?_) (fun hc => ?_)
      · have h111 := h11.1 hc
        refine ev_br (P := 0 ≤ ((am_upd U 86 77 (w32 ((U 86 77) + 0))) 86 78)) (σ1 := (d, 160, 97, [some (.inr (.inr 86)), some (.inr (.inl x1)), none, some (.inr (.inl x3)), none, some (.inr (.inl x5)), none, some (.inl 0), some (.inl 0)], [.inr (.inr 86)], (am_sh, am_mm (am_upd U 86 77 (w32 ((U 86 77) + 0)))))) (σ2 := (d, 160, 92, [some (.inr (.inr 86)), some (.inr (.inl x1)), none, some (.inr (.inl x3)), none, some (.inr (.inl x5)), none, some (.inl 0), some (.inl 0)], [.inr (.inr 86)], (am_sh, am_mm (am_upd U 86 77 (w32 ((U 86 77) + 0)))))) 7 (fun _ => rfl) (fun hc => ?_) (fun hc => ?_)
        · have h1111 := h111.1 hc
          refine ev_seg (σ1 := (d, 160, 101, [some (.inr (.inr 86)), some (.inr (.inl x1)), none, some (.inr (.inl x3)), none, some (.inr (.inl x5)), none, some (.inl 0), some (.inl 0)], [.inl ((am_upd U 86 77 (w32 ((U 86 77) + 0))) 86 78), .inr (.inr 86)], (am_sh, am_mm (am_upd U 86 77 (w32 ((U 86 77) + 0)))))) 2 (fun _ => rfl) ?_
          refine eu_puti 86 (n := 90) rfl (by decide) rfl rfl ?_
          refine ev_seg (σ1 := (d, 160, 108, [some (.inr (.inr 86)), some (.inr (.inl x1)), none, some (.inr (.inl x3)), none, some (.inr (.inl x5)), none, some (.inl 0), some (.inl 0)], [.inr (.inl 10), .inr (.inl x3)], (am_sh, am_mm (am_upd (am_upd U 86 77 (w32 ((U 86 77) + 0))) 86 78 ((am_upd U 86 77 (w32 ((U 86 77) + 0))) 86 78))))) 2 (fun _ => rfl) ?_
          refine ev_ldiv rfl (by decide) ?_
          refine ev_seg (σ1 := (d, 160, 115, [some (.inr (.inr 86)), some (.inr (.inl x1)), none, some (.inr (.inl (w64 (Int.tdiv x3 10)))), none, some (.inr (.inl x5)), none, some (.inl 0), some (.inl 0)], [.inr (.inl 10), .inr (.inl x5)], (am_sh, am_mm (am_upd (am_upd U 86 77 (w32 ((U 86 77) + 0))) 86 78 ((am_upd U 86 77 (w32 ((U 86 77) + 0))) 86 78))))) 3 (fun _ => rfl) ?_
          refine ev_ldiv rfl (by decide) ?_
          refine ev_seg (σ1 := (d, 160, 14, [some (.inr (.inr 86)), some (.inr (.inl x1)), none, some (.inr (.inl (w64 (Int.tdiv x3 10)))), none, some (.inr (.inl (w64 (Int.tdiv x5 10)))), none, some (.inl 0), some (.inl 0)], [], (am_sh, am_mm (am_upd (am_upd U 86 77 (w32 ((U 86 77) + 0))) 86 78 ((am_upd U 86 77 (w32 ((U 86 77) + 0))) 86 78))))) 2 (fun _ => rfl) ?_
          exact h1111
        · have h1112 := h111.2 hc
          refine ev_seg (σ1 := (d, 160, 101, [some (.inr (.inr 86)), some (.inr (.inl x1)), none, some (.inr (.inl x3)), none, some (.inr (.inl x5)), none, some (.inl 0), some (.inl 0)], [.inl 0, .inr (.inr 86)], (am_sh, am_mm (am_upd U 86 77 (w32 ((U 86 77) + 0)))))) 2 (fun _ => rfl) ?_
          refine eu_puti 86 (n := 90) rfl (by decide) rfl rfl ?_
          refine ev_seg (σ1 := (d, 160, 108, [some (.inr (.inr 86)), some (.inr (.inl x1)), none, some (.inr (.inl x3)), none, some (.inr (.inl x5)), none, some (.inl 0), some (.inl 0)], [.inr (.inl 10), .inr (.inl x3)], (am_sh, am_mm (am_upd (am_upd U 86 77 (w32 ((U 86 77) + 0))) 86 78 0)))) 2 (fun _ => rfl) ?_
          refine ev_ldiv rfl (by decide) ?_
          refine ev_seg (σ1 := (d, 160, 115, [some (.inr (.inr 86)), some (.inr (.inl x1)), none, some (.inr (.inl (w64 (Int.tdiv x3 10)))), none, some (.inr (.inl x5)), none, some (.inl 0), some (.inl 0)], [.inr (.inl 10), .inr (.inl x5)], (am_sh, am_mm (am_upd (am_upd U 86 77 (w32 ((U 86 77) + 0))) 86 78 0)))) 3 (fun _ => rfl) ?_
          refine ev_ldiv rfl (by decide) ?_
          refine ev_seg (σ1 := (d, 160, 14, [some (.inr (.inr 86)), some (.inr (.inl x1)), none, some (.inr (.inl (w64 (Int.tdiv x3 10)))), none, some (.inr (.inl (w64 (Int.tdiv x5 10)))), none, some (.inl 0), some (.inl 0)], [], (am_sh, am_mm (am_upd (am_upd U 86 77 (w32 ((U 86 77) + 0))) 86 78 0)))) 2 (fun _ => rfl) ?_
          exact h1112
      · have h112 := h11.2 hc
        refine ev_br (P := (w32 (x8 + 1)) ≤ ((am_upd U 86 77 (w32 ((U 86 77) + 0))) 86 78)) (σ1 := (d, 160, 97, [some (.inr (.inr 86)), some (.inr (.inl x1)), none, some (.inr (.inl x3)), none, some (.inr (.inl x5)), none, some (.inl 0), some (.inl (w32 (x8 + 1)))], [.inr (.inr 86)], (am_sh, am_mm (am_upd U 86 77 (w32 ((U 86 77) + 0)))))) (σ2 := (d, 160, 92, [some (.inr (.inr 86)), some (.inr (.inl x1)), none, some (.inr (.inl x3)), none, some (.inr (.inl x5)), none, some (.inl 0), some (.inl (w32 (x8 + 1)))], [.inr (.inr 86)], (am_sh, am_mm (am_upd U 86 77 (w32 ((U 86 77) + 0)))))) 10 (fun _ => rfl) (fun hc => ?_) (fun hc => ?_)
        · have h1121 := h112.1 hc
          refine ev_seg (σ1 := (d, 160, 101, [some (.inr (.inr 86)), some (.inr (.inl x1)), none, some (.inr (.inl x3)), none, some (.inr (.inl x5)), none, some (.inl 0), some (.inl (w32 (x8 + 1)))], [.inl ((am_upd U 86 77 (w32 ((U 86 77) + 0))) 86 78), .inr (.inr 86)], (am_sh, am_mm (am_upd U 86 77 (w32 ((U 86 77) + 0)))))) 2 (fun _ => rfl) ?_
          refine eu_puti 86 (n := 90) rfl (by decide) rfl rfl ?_
          refine ev_seg (σ1 := (d, 160, 108, [some (.inr (.inr 86)), some (.inr (.inl x1)), none, some (.inr (.inl x3)), none, some (.inr (.inl x5)), none, some (.inl 0), some (.inl (w32 (x8 + 1)))], [.inr (.inl 10), .inr (.inl x3)], (am_sh, am_mm (am_upd (am_upd U 86 77 (w32 ((U 86 77) + 0))) 86 78 ((am_upd U 86 77 (w32 ((U 86 77) + 0))) 86 78))))) 2 (fun _ => rfl) ?_
          refine ev_ldiv rfl (by decide) ?_
          refine ev_seg (σ1 := (d, 160, 115, [some (.inr (.inr 86)), some (.inr (.inl x1)), none, some (.inr (.inl (w64 (Int.tdiv x3 10)))), none, some (.inr (.inl x5)), none, some (.inl 0), some (.inl (w32 (x8 + 1)))], [.inr (.inl 10), .inr (.inl x5)], (am_sh, am_mm (am_upd (am_upd U 86 77 (w32 ((U 86 77) + 0))) 86 78 ((am_upd U 86 77 (w32 ((U 86 77) + 0))) 86 78))))) 3 (fun _ => rfl) ?_
          refine ev_ldiv rfl (by decide) ?_
          refine ev_seg (σ1 := (d, 160, 14, [some (.inr (.inr 86)), some (.inr (.inl x1)), none, some (.inr (.inl (w64 (Int.tdiv x3 10)))), none, some (.inr (.inl (w64 (Int.tdiv x5 10)))), none, some (.inl 0), some (.inl (w32 (x8 + 1)))], [], (am_sh, am_mm (am_upd (am_upd U 86 77 (w32 ((U 86 77) + 0))) 86 78 ((am_upd U 86 77 (w32 ((U 86 77) + 0))) 86 78))))) 2 (fun _ => rfl) ?_
          exact h1121
        · have h1122 := h112.2 hc
          refine ev_seg (σ1 := (d, 160, 101, [some (.inr (.inr 86)), some (.inr (.inl x1)), none, some (.inr (.inl x3)), none, some (.inr (.inl x5)), none, some (.inl 0), some (.inl (w32 (x8 + 1)))], [.inl (w32 (x8 + 1)), .inr (.inr 86)], (am_sh, am_mm (am_upd U 86 77 (w32 ((U 86 77) + 0)))))) 2 (fun _ => rfl) ?_
          refine eu_puti 86 (n := 90) rfl (by decide) rfl rfl ?_
          refine ev_seg (σ1 := (d, 160, 108, [some (.inr (.inr 86)), some (.inr (.inl x1)), none, some (.inr (.inl x3)), none, some (.inr (.inl x5)), none, some (.inl 0), some (.inl (w32 (x8 + 1)))], [.inr (.inl 10), .inr (.inl x3)], (am_sh, am_mm (am_upd (am_upd U 86 77 (w32 ((U 86 77) + 0))) 86 78 (w32 (x8 + 1)))))) 2 (fun _ => rfl) ?_
          refine ev_ldiv rfl (by decide) ?_
          refine ev_seg (σ1 := (d, 160, 115, [some (.inr (.inr 86)), some (.inr (.inl x1)), none, some (.inr (.inl (w64 (Int.tdiv x3 10)))), none, some (.inr (.inl x5)), none, some (.inl 0), some (.inl (w32 (x8 + 1)))], [.inr (.inl 10), .inr (.inl x5)], (am_sh, am_mm (am_upd (am_upd U 86 77 (w32 ((U 86 77) + 0))) 86 78 (w32 (x8 + 1)))))) 3 (fun _ => rfl) ?_
          refine ev_ldiv rfl (by decide) ?_
          refine ev_seg (σ1 := (d, 160, 14, [some (.inr (.inr 86)), some (.inr (.inl x1)), none, some (.inr (.inl (w64 (Int.tdiv x3 10)))), none, some (.inr (.inl (w64 (Int.tdiv x5 10)))), none, some (.inl 0), some (.inl (w32 (x8 + 1)))], [], (am_sh, am_mm (am_upd (am_upd U 86 77 (w32 ((U 86 77) + 0))) 86 78 (w32 (x8 + 1)))))) 2 (fun _ => rfl) ?_
          exact h1122
    · have h12 := h1.2 hc
      refine ev_seg (σ1 := (d, 160, 63, [some (.inr (.inr 86)), some (.inr (.inl x1)), none, some (.inr (.inl x3)), none, some (.inr (.inl x5)), none, some (.inl 1), some (.inl x8)], [.inl (w32 ((U 86 77) + 1)), .inr (.inr 86)], (am_sh, am_mm U))) 8 (fun _ => rfl) ?_
      refine eu_puti 86 (n := 90) rfl (by decide) rfl rfl ?_
      refine ev_br (P := ¬ 1 = 1) (σ1 := (d, 160, 79, [some (.inr (.inr 86)), some (.inr (.inl x1)), none, some (.inr (.inl x3)), none, some (.inr (.inl x5)), none, some (.inl 1), some (.inl x8)], [], (am_sh, am_mm (am_upd U 86 77 (w32 ((U 86 77) + 1)))))) (σ2 := (d, 160, 72, [some (.inr (.inr 86)), some (.inr (.inl x1)), none, some (.inr (.inl x3)), none, some (.inr (.inl x5)), none, some (.inl 1), some (.inl x8)], [], (am_sh, am_mm (am_upd U 86 77 (w32 ((U 86 77) + 1)))))) 3 (fun _ => rfl) (fun hc => ?_) (fun hc => ?_)
      · have h121 := h12.1 hc
        refine ev_br (P := 0 ≤ ((am_upd U 86 77 (w32 ((U 86 77) + 1))) 86 78)) (σ1 := (d, 160, 97, [some (.inr (.inr 86)), some (.inr (.inl x1)), none, some (.inr (.inl x3)), none, some (.inr (.inl x5)), none, some (.inl 1), some (.inl 0)], [.inr (.inr 86)], (am_sh, am_mm (am_upd U 86 77 (w32 ((U 86 77) + 1)))))) (σ2 := (d, 160, 92, [some (.inr (.inr 86)), some (.inr (.inl x1)), none, some (.inr (.inl x3)), none, some (.inr (.inl x5)), none, some (.inl 1), some (.inl 0)], [.inr (.inr 86)], (am_sh, am_mm (am_upd U 86 77 (w32 ((U 86 77) + 1)))))) 7 (fun _ => rfl) (fun hc => ?_) (fun hc => ?_)
        · have h1211 := h121.1 hc
          refine ev_seg (σ1 := (d, 160, 101, [some (.inr (.inr 86)), some (.inr (.inl x1)), none, some (.inr (.inl x3)), none, some (.inr (.inl x5)), none, some (.inl 1), some (.inl 0)], [.inl ((am_upd U 86 77 (w32 ((U 86 77) + 1))) 86 78), .inr (.inr 86)], (am_sh, am_mm (am_upd U 86 77 (w32 ((U 86 77) + 1)))))) 2 (fun _ => rfl) ?_
          refine eu_puti 86 (n := 90) rfl (by decide) rfl rfl ?_
          refine ev_seg (σ1 := (d, 160, 108, [some (.inr (.inr 86)), some (.inr (.inl x1)), none, some (.inr (.inl x3)), none, some (.inr (.inl x5)), none, some (.inl 1), some (.inl 0)], [.inr (.inl 10), .inr (.inl x3)], (am_sh, am_mm (am_upd (am_upd U 86 77 (w32 ((U 86 77) + 1))) 86 78 ((am_upd U 86 77 (w32 ((U 86 77) + 1))) 86 78))))) 2 (fun _ => rfl) ?_
          refine ev_ldiv rfl (by decide) ?_
          refine ev_seg (σ1 := (d, 160, 115, [some (.inr (.inr 86)), some (.inr (.inl x1)), none, some (.inr (.inl (w64 (Int.tdiv x3 10)))), none, some (.inr (.inl x5)), none, some (.inl 1), some (.inl 0)], [.inr (.inl 10), .inr (.inl x5)], (am_sh, am_mm (am_upd (am_upd U 86 77 (w32 ((U 86 77) + 1))) 86 78 ((am_upd U 86 77 (w32 ((U 86 77) + 1))) 86 78))))) 3 (fun _ => rfl) ?_
          refine ev_ldiv rfl (by decide) ?_
          refine ev_seg (σ1 := (d, 160, 14, [some (.inr (.inr 86)), some (.inr (.inl x1)), none, some (.inr (.inl (w64 (Int.tdiv x3 10)))), none, some (.inr (.inl (w64 (Int.tdiv x5 10)))), none, some (.inl 1), some (.inl 0)], [], (am_sh, am_mm (am_upd (am_upd U 86 77 (w32 ((U 86 77) + 1))) 86 78 ((am_upd U 86 77 (w32 ((U 86 77) + 1))) 86 78))))) 2 (fun _ => rfl) ?_
          exact h1211
        · have h1212 := h121.2 hc
          refine ev_seg (σ1 := (d, 160, 101, [some (.inr (.inr 86)), some (.inr (.inl x1)), none, some (.inr (.inl x3)), none, some (.inr (.inl x5)), none, some (.inl 1), some (.inl 0)], [.inl 0, .inr (.inr 86)], (am_sh, am_mm (am_upd U 86 77 (w32 ((U 86 77) + 1)))))) 2 (fun _ => rfl) ?_
          refine eu_puti 86 (n := 90) rfl (by decide) rfl rfl ?_
          refine ev_seg (σ1 := (d, 160, 108, [some (.inr (.inr 86)), some (.inr (.inl x1)), none, some (.inr (.inl x3)), none, some (.inr (.inl x5)), none, some (.inl 1), some (.inl 0)], [.inr (.inl 10), .inr (.inl x3)], (am_sh, am_mm (am_upd (am_upd U 86 77 (w32 ((U 86 77) + 1))) 86 78 0)))) 2 (fun _ => rfl) ?_
          refine ev_ldiv rfl (by decide) ?_
          refine ev_seg (σ1 := (d, 160, 115, [some (.inr (.inr 86)), some (.inr (.inl x1)), none, some (.inr (.inl (w64 (Int.tdiv x3 10)))), none, some (.inr (.inl x5)), none, some (.inl 1), some (.inl 0)], [.inr (.inl 10), .inr (.inl x5)], (am_sh, am_mm (am_upd (am_upd U 86 77 (w32 ((U 86 77) + 1))) 86 78 0)))) 3 (fun _ => rfl) ?_
          refine ev_ldiv rfl (by decide) ?_
          refine ev_seg (σ1 := (d, 160, 14, [some (.inr (.inr 86)), some (.inr (.inl x1)), none, some (.inr (.inl (w64 (Int.tdiv x3 10)))), none, some (.inr (.inl (w64 (Int.tdiv x5 10)))), none, some (.inl 1), some (.inl 0)], [], (am_sh, am_mm (am_upd (am_upd U 86 77 (w32 ((U 86 77) + 1))) 86 78 0)))) 2 (fun _ => rfl) ?_
          exact h1212
      · have h122 := h12.2 hc
        refine ev_br (P := (w32 (x8 + 1)) ≤ ((am_upd U 86 77 (w32 ((U 86 77) + 1))) 86 78)) (σ1 := (d, 160, 97, [some (.inr (.inr 86)), some (.inr (.inl x1)), none, some (.inr (.inl x3)), none, some (.inr (.inl x5)), none, some (.inl 1), some (.inl (w32 (x8 + 1)))], [.inr (.inr 86)], (am_sh, am_mm (am_upd U 86 77 (w32 ((U 86 77) + 1)))))) (σ2 := (d, 160, 92, [some (.inr (.inr 86)), some (.inr (.inl x1)), none, some (.inr (.inl x3)), none, some (.inr (.inl x5)), none, some (.inl 1), some (.inl (w32 (x8 + 1)))], [.inr (.inr 86)], (am_sh, am_mm (am_upd U 86 77 (w32 ((U 86 77) + 1)))))) 10 (fun _ => rfl) (fun hc => ?_) (fun hc => ?_)
        · have h1221 := h122.1 hc
          refine ev_seg (σ1 := (d, 160, 101, [some (.inr (.inr 86)), some (.inr (.inl x1)), none, some (.inr (.inl x3)), none, some (.inr (.inl x5)), none, some (.inl 1), some (.inl (w32 (x8 + 1)))], [.inl ((am_upd U 86 77 (w32 ((U 86 77) + 1))) 86 78), .inr (.inr 86)], (am_sh, am_mm (am_upd U 86 77 (w32 ((U 86 77) + 1)))))) 2 (fun _ => rfl) ?_
          refine eu_puti 86 (n := 90) rfl (by decide) rfl rfl ?_
          refine ev_seg (σ1 := (d, 160, 108, [some (.inr (.inr 86)), some (.inr (.inl x1)), none, some (.inr (.inl x3)), none, some (.inr (.inl x5)), none, some (.inl 1), some (.inl (w32 (x8 + 1)))], [.inr (.inl 10), .inr (.inl x3)], (am_sh, am_mm (am_upd (am_upd U 86 77 (w32 ((U 86 77) + 1))) 86 78 ((am_upd U 86 77 (w32 ((U 86 77) + 1))) 86 78))))) 2 (fun _ => rfl) ?_
          refine ev_ldiv rfl (by decide) ?_
          refine ev_seg (σ1 := (d, 160, 115, [some (.inr (.inr 86)), some (.inr (.inl x1)), none, some (.inr (.inl (w64 (Int.tdiv x3 10)))), none, some (.inr (.inl x5)), none, some (.inl 1), some (.inl (w32 (x8 + 1)))], [.inr (.inl 10), .inr (.inl x5)], (am_sh, am_mm (am_upd (am_upd U 86 77 (w32 ((U 86 77) + 1))) 86 78 ((am_upd U 86 77 (w32 ((U 86 77) + 1))) 86 78))))) 3 (fun _ => rfl) ?_
          refine ev_ldiv rfl (by decide) ?_
          refine ev_seg (σ1 := (d, 160, 14, [some (.inr (.inr 86)), some (.inr (.inl x1)), none, some (.inr (.inl (w64 (Int.tdiv x3 10)))), none, some (.inr (.inl (w64 (Int.tdiv x5 10)))), none, some (.inl 1), some (.inl (w32 (x8 + 1)))], [], (am_sh, am_mm (am_upd (am_upd U 86 77 (w32 ((U 86 77) + 1))) 86 78 ((am_upd U 86 77 (w32 ((U 86 77) + 1))) 86 78))))) 2 (fun _ => rfl) ?_
          exact h1221
        · have h1222 := h122.2 hc
          refine ev_seg (σ1 := (d, 160, 101, [some (.inr (.inr 86)), some (.inr (.inl x1)), none, some (.inr (.inl x3)), none, some (.inr (.inl x5)), none, some (.inl 1), some (.inl (w32 (x8 + 1)))], [.inl (w32 (x8 + 1)), .inr (.inr 86)], (am_sh, am_mm (am_upd U 86 77 (w32 ((U 86 77) + 1)))))) 2 (fun _ => rfl) ?_
          refine eu_puti 86 (n := 90) rfl (by decide) rfl rfl ?_
          refine ev_seg (σ1 := (d, 160, 108, [some (.inr (.inr 86)), some (.inr (.inl x1)), none, some (.inr (.inl x3)), none, some (.inr (.inl x5)), none, some (.inl 1), some (.inl (w32 (x8 + 1)))], [.inr (.inl 10), .inr (.inl x3)], (am_sh, am_mm (am_upd (am_upd U 86 77 (w32 ((U 86 77) + 1))) 86 78 (w32 (x8 + 1)))))) 2 (fun _ => rfl) ?_
          refine ev_ldiv rfl (by decide) ?_
          refine ev_seg (σ1 := (d, 160, 115, [some (.inr (.inr 86)), some (.inr (.inl x1)), none, some (.inr (.inl (w64 (Int.tdiv x3 10)))), none, some (.inr (.inl x5)), none, some (.inl 1), some (.inl (w32 (x8 + 1)))], [.inr (.inl 10), .inr (.inl x5)], (am_sh, am_mm (am_upd (am_upd U 86 77 (w32 ((U 86 77) + 1))) 86 78 (w32 (x8 + 1)))))) 3 (fun _ => rfl) ?_
          refine ev_ldiv rfl (by decide) ?_
          refine ev_seg (σ1 := (d, 160, 14, [some (.inr (.inr 86)), some (.inr (.inl x1)), none, some (.inr (.inl (w64 (Int.tdiv x3 10)))), none, some (.inr (.inl (w64 (Int.tdiv x5 10)))), none, some (.inl 1), some (.inl (w32 (x8 + 1)))], [], (am_sh, am_mm (am_upd (am_upd U 86 77 (w32 ((U 86 77) + 1))) 86 78 (w32 (x8 + 1)))))) 2 (fun _ => rfl) ?_
          exact h1222
  · have h2 := h.2 hc
    refine ev_br (P := (am_lcmp x5 0) ≤ 0) (σ1 := (d, 160, 121, [some (.inr (.inr 86)), some (.inr (.inl x1)), none, some (.inr (.inl x3)), none, some (.inr (.inl x5)), none, some (.inl x7), some (.inl x8)], [], (am_sh, am_mm U))) (σ2 := (d, 160, 27, [some (.inr (.inr 86)), some (.inr (.inl x1)), none, some (.inr (.inl x3)), none, some (.inr (.inl x5)), none, some (.inl x7), some (.inl x8)], [], (am_sh, am_mm U))) 4 (fun _ => rfl) (fun hc => ?_) (fun hc => ?_)
    · have h21 := h2.1 hc
      refine ev_seg (σ1 := (d, 160, 128, [some (.inr (.inr 86)), some (.inr (.inl x1)), none, some (.inr (.inl x3)), none, some (.inr (.inl x5)), none, some (.inl x7), some (.inl x8)], [.inr (.inl (w64 ((U 86 76) + x1))), .inr (.inr 86)], (am_sh, am_mm U))) 5 (fun _ => rfl) ?_
      refine eu_putj 86 (n := 90) rfl (by decide) rfl rfl ?_
      subst h21
      exact ev_end 1 (fun _ => rfl)
    · have h22 := h2.2 hc
      refine ev_seg (σ1 := (d, 160, 31, [some (.inr (.inr 86)), some (.inr (.inl x1)), none, some (.inr (.inl x3)), none, some (.inr (.inl x5)), none, some (.inl x7), some (.inl x8)], [.inr (.inl 10), .inr (.inl x3)], (am_sh, am_mm U))) 2 (fun _ => rfl) ?_
      refine ev_lrem rfl (by decide) ?_
      refine ev_seg (σ1 := (d, 160, 37, [some (.inr (.inr 86)), some (.inr (.inl x1)), none, some (.inr (.inl x3)), none, some (.inr (.inl x5)), none, some (.inl x7), some (.inl x8)], [.inr (.inl 10), .inr (.inl x5), .inr (.inl (Int.tmod x3 10))], (am_sh, am_mm U))) 2 (fun _ => rfl) ?_
      refine ev_lrem rfl (by decide) ?_
      refine ev_br (P := (w32 ((w32 (w64 ((Int.tmod x3 10) + (Int.tmod x5 10)))) + x7)) ≤ 9) (σ1 := (d, 160, 52, [some (.inr (.inr 86)), some (.inr (.inl x1)), none, some (.inr (.inl x3)), none, some (.inr (.inl x5)), none, some (.inl x7), some (.inl x8)], [], (am_sh, am_mm U))) (σ2 := (d, 160, 48, [some (.inr (.inr 86)), some (.inr (.inl x1)), none, some (.inr (.inl x3)), none, some (.inr (.inl x5)), none, some (.inl x7), some (.inl x8)], [], (am_sh, am_mm U))) 6 (fun _ => rfl) (fun hc => ?_) (fun hc => ?_)
      · have h221 := h22.1 hc
        refine ev_seg (σ1 := (d, 160, 63, [some (.inr (.inr 86)), some (.inr (.inl x1)), none, some (.inr (.inl x3)), none, some (.inr (.inl x5)), none, some (.inl 0), some (.inl x8)], [.inl (w32 ((U 86 77) + 0)), .inr (.inr 86)], (am_sh, am_mm U))) 7 (fun _ => rfl) ?_
        refine eu_puti 86 (n := 90) rfl (by decide) rfl rfl ?_
        refine ev_br (P := ¬ 0 = 1) (σ1 := (d, 160, 79, [some (.inr (.inr 86)), some (.inr (.inl x1)), none, some (.inr (.inl x3)), none, some (.inr (.inl x5)), none, some (.inl 0), some (.inl x8)], [], (am_sh, am_mm (am_upd U 86 77 (w32 ((U 86 77) + 0)))))) (σ2 := (d, 160, 72, [some (.inr (.inr 86)), some (.inr (.inl x1)), none, some (.inr (.inl x3)), none, some (.inr (.inl x5)), none, some (.inl 0), some (.inl x8)], [], (am_sh, am_mm (am_upd U 86 77 (w32 ((U 86 77) + 0)))))) 3 (fun _ => rfl) (fun hc => ?_) (fun hc => ?_)
        · have h2211 := h221.1 hc
          refine ev_br (P := 0 ≤ ((am_upd U 86 77 (w32 ((U 86 77) + 0))) 86 78)) (σ1 := (d, 160, 97, [some (.inr (.inr 86)), some (.inr (.inl x1)), none, some (.inr (.inl x3)), none, some (.inr (.inl x5)), none, some (.inl 0), some (.inl 0)], [.inr (.inr 86)], (am_sh, am_mm (am_upd U 86 77 (w32 ((U 86 77) + 0)))))) (σ2 := (d, 160, 92, [some (.inr (.inr 86)), some (.inr (.inl x1)), none, some (.inr (.inl x3)), none, some (.inr (.inl x5)), none, some (.inl 0), some (.inl 0)], [.inr (.inr 86)], (am_sh, am_mm (am_upd U 86 77 (w32 ((U 86 77) + 0)))))) 7 (fun _ => rfl) (fun hc => ?_) (fun hc => ?_)
          · have h22111 := h2211.1 hc
            refine ev_seg (σ1 := (d, 160, 101, [some (.inr (.inr 86)), some (.inr (.inl x1)), none, some (.inr (.inl x3)), none, some (.inr (.inl x5)), none, some (.inl 0), some (.inl 0)], [.inl ((am_upd U 86 77 (w32 ((U 86 77) + 0))) 86 78), .inr (.inr 86)], (am_sh, am_mm (am_upd U 86 77 (w32 ((U 86 77) + 0)))))) 2 (fun _ => rfl) ?_
            refine eu_puti 86 (n := 90) rfl (by decide) rfl rfl ?_
            refine ev_seg (σ1 := (d, 160, 108, [some (.inr (.inr 86)), some (.inr (.inl x1)), none, some (.inr (.inl x3)), none, some (.inr (.inl x5)), none, some (.inl 0), some (.inl 0)], [.inr (.inl 10), .inr (.inl x3)], (am_sh, am_mm (am_upd (am_upd U 86 77 (w32 ((U 86 77) + 0))) 86 78 ((am_upd U 86 77 (w32 ((U 86 77) + 0))) 86 78))))) 2 (fun _ => rfl) ?_
            refine ev_ldiv rfl (by decide) ?_
            refine ev_seg (σ1 := (d, 160, 115, [some (.inr (.inr 86)), some (.inr (.inl x1)), none, some (.inr (.inl (w64 (Int.tdiv x3 10)))), none, some (.inr (.inl x5)), none, some (.inl 0), some (.inl 0)], [.inr (.inl 10), .inr (.inl x5)], (am_sh, am_mm (am_upd (am_upd U 86 77 (w32 ((U 86 77) + 0))) 86 78 ((am_upd U 86 77 (w32 ((U 86 77) + 0))) 86 78))))) 3 (fun _ => rfl) ?_
            refine ev_ldiv rfl (by decide) ?_
            refine ev_seg (σ1 := (d, 160, 14, [some (.inr (.inr 86)), some (.inr (.inl x1)), none, some (.inr (.inl (w64 (Int.tdiv x3 10)))), none, some (.inr (.inl (w64 (Int.tdiv x5 10)))), none, some (.inl 0), some (.inl 0)], [], (am_sh, am_mm (am_upd (am_upd U 86 77 (w32 ((U 86 77) + 0))) 86 78 ((am_upd U 86 77 (w32 ((U 86 77) + 0))) 86 78))))) 2 (fun _ => rfl) ?_
            exact h22111
          · have h22112 := h2211.2 hc
            refine ev_seg (σ1 := (d, 160, 101, [some (.inr (.inr 86)), some (.inr (.inl x1)), none, some (.inr (.inl x3)), none, some (.inr (.inl x5)), none, some (.inl 0), some (.inl 0)], [.inl 0, .inr (.inr 86)], (am_sh, am_mm (am_upd U 86 77 (w32 ((U 86 77) + 0)))))) 2 (fun _ => rfl) ?_
            refine eu_puti 86 (n := 90) rfl (by decide) rfl rfl ?_
            refine ev_seg (σ1 := (d, 160, 108, [some (.inr (.inr 86)), some (.inr (.inl x1)), none, some (.inr (.inl x3)), none, some (.inr (.inl x5)), none, some (.inl 0), some (.inl 0)], [.inr (.inl 10), .inr (.inl x3)], (am_sh, am_mm (am_upd (am_upd U 86 77 (w32 ((U 86 77) + 0))) 86 78 0)))) 2 (fun _ => rfl) ?_
            refine ev_ldiv rfl (by decide) ?_
            refine ev_seg (σ1 := (d, 160, 115, [some (.inr (.inr 86)), some (.inr (.inl x1)), none, some (.inr (.inl (w64 (Int.tdiv x3 10)))), none, some (.inr (.inl x5)), none, some (.inl 0), some (.inl 0)], [.inr (.inl 10), .inr (.inl x5)], (am_sh, am_mm (am_upd (am_upd U 86 77 (w32 ((U 86 77) + 0))) 86 78 0)))) 3 (fun _ => rfl) ?_
            refine ev_ldiv rfl (by decide) ?_
            refine ev_seg (σ1 := (d, 160, 14, [some (.inr (.inr 86)), some (.inr (.inl x1)), none, some (.inr (.inl (w64 (Int.tdiv x3 10)))), none, some (.inr (.inl (w64 (Int.tdiv x5 10)))), none, some (.inl 0), some (.inl 0)], [], (am_sh, am_mm (am_upd (am_upd U 86 77 (w32 ((U 86 77) + 0))) 86 78 0)))) 2 (fun _ => rfl) ?_
            exact h22112
        · have h2212 := h221.2 hc
          refine ev_br (P := (w32 (x8 + 1)) ≤ ((am_upd U 86 77 (w32 ((U 86 77) + 0))) 86 78)) (σ1 := (d, 160, 97, [some (.inr (.inr 86)), some (.inr (.inl x1)), none, some (.inr (.inl x3)), none, some (.inr (.inl x5)), none, some (.inl 0), some (.inl (w32 (x8 + 1)))], [.inr (.inr 86)], (am_sh, am_mm (am_upd U 86 77 (w32 ((U 86 77) + 0)))))) (σ2 := (d, 160, 92, [some (.inr (.inr 86)), some (.inr (.inl x1)), none, some (.inr (.inl x3)), none, some (.inr (.inl x5)), none, some (.inl 0), some (.inl (w32 (x8 + 1)))], [.inr (.inr 86)], (am_sh, am_mm (am_upd U 86 77 (w32 ((U 86 77) + 0)))))) 10 (fun _ => rfl) (fun hc => ?_) (fun hc => ?_)
          · have h22121 := h2212.1 hc
            refine ev_seg (σ1 := (d, 160, 101, [some (.inr (.inr 86)), some (.inr (.inl x1)), none, some (.inr (.inl x3)), none, some (.inr (.inl x5)), none, some (.inl 0), some (.inl (w32 (x8 + 1)))], [.inl ((am_upd U 86 77 (w32 ((U 86 77) + 0))) 86 78), .inr (.inr 86)], (am_sh, am_mm (am_upd U 86 77 (w32 ((U 86 77) + 0)))))) 2 (fun _ => rfl) ?_
            refine eu_puti 86 (n := 90) rfl (by decide) rfl rfl ?_
            refine ev_seg (σ1 := (d, 160, 108, [some (.inr (.inr 86)), some (.inr (.inl x1)), none, some (.inr (.inl x3)), none, some (.inr (.inl x5)), none, some (.inl 0), some (.inl (w32 (x8 + 1)))], [.inr (.inl 10), .inr (.inl x3)], (am_sh, am_mm (am_upd (am_upd U 86 77 (w32 ((U 86 77) + 0))) 86 78 ((am_upd U 86 77 (w32 ((U 86 77) + 0))) 86 78))))) 2 (fun _ => rfl) ?_
            refine ev_ldiv rfl (by decide) ?_
            refine ev_seg (σ1 := (d, 160, 115, [some (.inr (.inr 86)), some (.inr (.inl x1)), none, some (.inr (.inl (w64 (Int.tdiv x3 10)))), none, some (.inr (.inl x5)), none, some (.inl 0), some (.inl (w32 (x8 + 1)))], [.inr (.inl 10), .inr (.inl x5)], (am_sh, am_mm (am_upd (am_upd U 86 77 (w32 ((U 86 77) + 0))) 86 78 ((am_upd U 86 77 (w32 ((U 86 77) + 0))) 86 78))))) 3 (fun _ => rfl) ?_
            refine ev_ldiv rfl (by decide) ?_
            refine ev_seg (σ1 := (d, 160, 14, [some (.inr (.inr 86)), some (.inr (.inl x1)), none, some (.inr (.inl (w64 (Int.tdiv x3 10)))), none, some (.inr (.inl (w64 (Int.tdiv x5 10)))), none, some (.inl 0), some (.inl (w32 (x8 + 1)))], [], (am_sh, am_mm (am_upd (am_upd U 86 77 (w32 ((U 86 77) + 0))) 86 78 ((am_upd U 86 77 (w32 ((U 86 77) + 0))) 86 78))))) 2 (fun _ => rfl) ?_
            exact h22121
          · have h22122 := h2212.2 hc
            refine ev_seg (σ1 := (d, 160, 101, [some (.inr (.inr 86)), some (.inr (.inl x1)), none, some (.inr (.inl x3)), none, some (.inr (.inl x5)), none, some (.inl 0), some (.inl (w32 (x8 + 1)))], [.inl (w32 (x8 + 1)), .inr (.inr 86)], (am_sh, am_mm (am_upd U 86 77 (w32 ((U 86 77) + 0)))))) 2 (fun _ => rfl) ?_
            refine eu_puti 86 (n := 90) rfl (by decide) rfl rfl ?_
            refine ev_seg (σ1 := (d, 160, 108, [some (.inr (.inr 86)), some (.inr (.inl x1)), none, some (.inr (.inl x3)), none, some (.inr (.inl x5)), none, some (.inl 0), some (.inl (w32 (x8 + 1)))], [.inr (.inl 10), .inr (.inl x3)], (am_sh, am_mm (am_upd (am_upd U 86 77 (w32 ((U 86 77) + 0))) 86 78 (w32 (x8 + 1)))))) 2 (fun _ => rfl) ?_
            refine ev_ldiv rfl (by decide) ?_
            refine ev_seg (σ1 := (d, 160, 115, [some (.inr (.inr 86)), some (.inr (.inl x1)), none, some (.inr (.inl (w64 (Int.tdiv x3 10)))), none, some (.inr (.inl x5)), none, some (.inl 0), some (.inl (w32 (x8 + 1)))], [.inr (.inl 10), .inr (.inl x5)], (am_sh, am_mm (am_upd (am_upd U 86 77 (w32 ((U 86 77) + 0))) 86 78 (w32 (x8 + 1)))))) 3 (fun _ => rfl) ?_
            refine ev_ldiv rfl (by decide) ?_
            refine ev_seg (σ1 := (d, 160, 14, [some (.inr (.inr 86)), some (.inr (.inl x1)), none, some (.inr (.inl (w64 (Int.tdiv x3 10)))), none, some (.inr (.inl (w64 (Int.tdiv x5 10)))), none, some (.inl 0), some (.inl (w32 (x8 + 1)))], [], (am_sh, am_mm (am_upd (am_upd U 86 77 (w32 ((U 86 77) + 0))) 86 78 (w32 (x8 + 1)))))) 2 (fun _ => rfl) ?_
            exact h22122
      · have h222 := h22.2 hc
        refine ev_seg (σ1 := (d, 160, 63, [some (.inr (.inr 86)), some (.inr (.inl x1)), none, some (.inr (.inl x3)), none, some (.inr (.inl x5)), none, some (.inl 1), some (.inl x8)], [.inl (w32 ((U 86 77) + 1)), .inr (.inr 86)], (am_sh, am_mm U))) 8 (fun _ => rfl) ?_
        refine eu_puti 86 (n := 90) rfl (by decide) rfl rfl ?_
        refine ev_br (P := ¬ 1 = 1) (σ1 := (d, 160, 79, [some (.inr (.inr 86)), some (.inr (.inl x1)), none, some (.inr (.inl x3)), none, some (.inr (.inl x5)), none, some (.inl 1), some (.inl x8)], [], (am_sh, am_mm (am_upd U 86 77 (w32 ((U 86 77) + 1)))))) (σ2 := (d, 160, 72, [some (.inr (.inr 86)), some (.inr (.inl x1)), none, some (.inr (.inl x3)), none, some (.inr (.inl x5)), none, some (.inl 1), some (.inl x8)], [], (am_sh, am_mm (am_upd U 86 77 (w32 ((U 86 77) + 1)))))) 3 (fun _ => rfl) (fun hc => ?_) (fun hc => ?_)
        · have h2221 := h222.1 hc
          refine ev_br (P := 0 ≤ ((am_upd U 86 77 (w32 ((U 86 77) + 1))) 86 78)) (σ1 := (d, 160, 97, [some (.inr (.inr 86)), some (.inr (.inl x1)), none, some (.inr (.inl x3)), none, some (.inr (.inl x5)), none, some (.inl 1), some (.inl 0)], [.inr (.inr 86)], (am_sh, am_mm (am_upd U 86 77 (w32 ((U 86 77) + 1)))))) (σ2 := (d, 160, 92, [some (.inr (.inr 86)), some (.inr (.inl x1)), none, some (.inr (.inl x3)), none, some (.inr (.inl x5)), none, some (.inl 1), some (.inl 0)], [.inr (.inr 86)], (am_sh, am_mm (am_upd U 86 77 (w32 ((U 86 77) + 1)))))) 7 (fun _ => rfl) (fun hc => ?_) (fun hc => ?_)
          · have h22211 := h2221.1 hc
            refine ev_seg (σ1 := (d, 160, 101, [some (.inr (.inr 86)), some (.inr (.inl x1)), none, some (.inr (.inl x3)), none, some (.inr (.inl x5)), none, some (.inl 1), some (.inl 0)], [.inl ((am_upd U 86 77 (w32 ((U 86 77) + 1))) 86 78), .inr (.inr 86)], (am_sh, am_mm (am_upd U 86 77 (w32 ((U 86 77) + 1)))))) 2 (fun _ => rfl) ?_
            refine eu_puti 86 (n := 90) rfl (by decide) rfl rfl ?_
            refine ev_seg (σ1 := (d, 160, 108, [some (.inr (.inr 86)), some (.inr (.inl x1)), none, some (.inr (.inl x3)), none, some (.inr (.inl x5)), none, some (.inl 1), some (.inl 0)], [.inr (.inl 10), .inr (.inl x3)], (am_sh, am_mm (am_upd (am_upd U 86 77 (w32 ((U 86 77) + 1))) 86 78 ((am_upd U 86 77 (w32 ((U 86 77) + 1))) 86 78))))) 2 (fun _ => rfl) ?_
            refine ev_ldiv rfl (by decide) ?_
            refine ev_seg (σ1 := (d, 160, 115, [some (.inr (.inr 86)), some (.inr (.inl x1)), none, some (.inr (.inl (w64 (Int.tdiv x3 10)))), none, some (.inr (.inl x5)), none, some (.inl 1), some (.inl 0)], [.inr (.inl 10), .inr (.inl x5)], (am_sh, am_mm (am_upd (am_upd U 86 77 (w32 ((U 86 77) + 1))) 86 78 ((am_upd U 86 77 (w32 ((U 86 77) + 1))) 86 78))))) 3 (fun _ => rfl) ?_
            refine ev_ldiv rfl (by decide) ?_
            refine ev_seg (σ1 := (d, 160, 14, [some (.inr (.inr 86)), some (.inr (.inl x1)), none, some (.inr (.inl (w64 (Int.tdiv x3 10)))), none, some (.inr (.inl (w64 (Int.tdiv x5 10)))), none, some (.inl 1), some (.inl 0)], [], (am_sh, am_mm (am_upd (am_upd U 86 77 (w32 ((U 86 77) + 1))) 86 78 ((am_upd U 86 77 (w32 ((U 86 77) + 1))) 86 78))))) 2 (fun _ => rfl) ?_
            exact h22211
          · have h22212 := h2221.2 hc
            refine ev_seg (σ1 := (d, 160, 101, [some (.inr (.inr 86)), some (.inr (.inl x1)), none, some (.inr (.inl x3)), none, some (.inr (.inl x5)), none, some (.inl 1), some (.inl 0)], [.inl 0, .inr (.inr 86)], (am_sh, am_mm (am_upd U 86 77 (w32 ((U 86 77) + 1)))))) 2 (fun _ => rfl) ?_
            refine eu_puti 86 (n := 90) rfl (by decide) rfl rfl ?_
            refine ev_seg (σ1 := (d, 160, 108, [some (.inr (.inr 86)), some (.inr (.inl x1)), none, some (.inr (.inl x3)), none, some (.inr (.inl x5)), none, some (.inl 1), some (.inl 0)], [.inr (.inl 10), .inr (.inl x3)], (am_sh, am_mm (am_upd (am_upd U 86 77 (w32 ((U 86 77) + 1))) 86 78 0)))) 2 (fun _ => rfl) ?_
            refine ev_ldiv rfl (by decide) ?_
            refine ev_seg (σ1 := (d, 160, 115, [some (.inr (.inr 86)), some (.inr (.inl x1)), none, some (.inr (.inl (w64 (Int.tdiv x3 10)))), none, some (.inr (.inl x5)), none, some (.inl 1), some (.inl 0)], [.inr (.inl 10), .inr (.inl x5)], (am_sh, am_mm (am_upd (am_upd U 86 77 (w32 ((U 86 77) + 1))) 86 78 0)))) 3 (fun _ => rfl) ?_
            refine ev_ldiv rfl (by decide) ?_
            refine ev_seg (σ1 := (d, 160, 14, [some (.inr (.inr 86)), some (.inr (.inl x1)), none, some (.inr (.inl (w64 (Int.tdiv x3 10)))), none, some (.inr (.inl (w64 (Int.tdiv x5 10)))), none, some (.inl 1), some (.inl 0)], [], (am_sh, am_mm (am_upd (am_upd U 86 77 (w32 ((U 86 77) + 1))) 86 78 0)))) 2 (fun _ => rfl) ?_
            exact h22212
        · have h2222 := h222.2 hc
          refine ev_br (P := (w32 (x8 + 1)) ≤ ((am_upd U 86 77 (w32 ((U 86 77) + 1))) 86 78)) (σ1 := (d, 160, 97, [some (.inr (.inr 86)), some (.inr (.inl x1)), none, some (.inr (.inl x3)), none, some (.inr (.inl x5)), none, some (.inl 1), some (.inl (w32 (x8 + 1)))], [.inr (.inr 86)], (am_sh, am_mm (am_upd U 86 77 (w32 ((U 86 77) + 1)))))) (σ2 := (d, 160, 92, [some (.inr (.inr 86)), some (.inr (.inl x1)), none, some (.inr (.inl x3)), none, some (.inr (.inl x5)), none, some (.inl 1), some (.inl (w32 (x8 + 1)))], [.inr (.inr 86)], (am_sh, am_mm (am_upd U 86 77 (w32 ((U 86 77) + 1)))))) 10 (fun _ => rfl) (fun hc => ?_) (fun hc => ?_)
          · have h22221 := h2222.1 hc
            refine ev_seg (σ1 := (d, 160, 101, [some (.inr (.inr 86)), some (.inr (.inl x1)), none, some (.inr (.inl x3)), none, some (.inr (.inl x5)), none, some (.inl 1), some (.inl (w32 (x8 + 1)))], [.inl ((am_upd U 86 77 (w32 ((U 86 77) + 1))) 86 78), .inr (.inr 86)], (am_sh, am_mm (am_upd U 86 77 (w32 ((U 86 77) + 1)))))) 2 (fun _ => rfl) ?_
            refine eu_puti 86 (n := 90) rfl (by decide) rfl rfl ?_
            refine ev_seg (σ1 := (d, 160, 108, [some (.inr (.inr 86)), some (.inr (.inl x1)), none, some (.inr (.inl x3)), none, some (.inr (.inl x5)), none, some (.inl 1), some (.inl (w32 (x8 + 1)))], [.inr (.inl 10), .inr (.inl x3)], (am_sh, am_mm (am_upd (am_upd U 86 77 (w32 ((U 86 77) + 1))) 86 78 ((am_upd U 86 77 (w32 ((U 86 77) + 1))) 86 78))))) 2 (fun _ => rfl) ?_
            refine ev_ldiv rfl (by decide) ?_
            refine ev_seg (σ1 := (d, 160, 115, [some (.inr (.inr 86)), some (.inr (.inl x1)), none, some (.inr (.inl (w64 (Int.tdiv x3 10)))), none, some (.inr (.inl x5)), none, some (.inl 1), some (.inl (w32 (x8 + 1)))], [.inr (.inl 10), .inr (.inl x5)], (am_sh, am_mm (am_upd (am_upd U 86 77 (w32 ((U 86 77) + 1))) 86 78 ((am_upd U 86 77 (w32 ((U 86 77) + 1))) 86 78))))) 3 (fun _ => rfl) ?_
            refine ev_ldiv rfl (by decide) ?_
            refine ev_seg (σ1 := (d, 160, 14, [some (.inr (.inr 86)), some (.inr (.inl x1)), none, some (.inr (.inl (w64 (Int.tdiv x3 10)))), none, some (.inr (.inl (w64 (Int.tdiv x5 10)))), none, some (.inl 1), some (.inl (w32 (x8 + 1)))], [], (am_sh, am_mm (am_upd (am_upd U 86 77 (w32 ((U 86 77) + 1))) 86 78 ((am_upd U 86 77 (w32 ((U 86 77) + 1))) 86 78))))) 2 (fun _ => rfl) ?_
            exact h22221
          · have h22222 := h2222.2 hc
            refine ev_seg (σ1 := (d, 160, 101, [some (.inr (.inr 86)), some (.inr (.inl x1)), none, some (.inr (.inl x3)), none, some (.inr (.inl x5)), none, some (.inl 1), some (.inl (w32 (x8 + 1)))], [.inl (w32 (x8 + 1)), .inr (.inr 86)], (am_sh, am_mm (am_upd U 86 77 (w32 ((U 86 77) + 1)))))) 2 (fun _ => rfl) ?_
            refine eu_puti 86 (n := 90) rfl (by decide) rfl rfl ?_
            refine ev_seg (σ1 := (d, 160, 108, [some (.inr (.inr 86)), some (.inr (.inl x1)), none, some (.inr (.inl x3)), none, some (.inr (.inl x5)), none, some (.inl 1), some (.inl (w32 (x8 + 1)))], [.inr (.inl 10), .inr (.inl x3)], (am_sh, am_mm (am_upd (am_upd U 86 77 (w32 ((U 86 77) + 1))) 86 78 (w32 (x8 + 1)))))) 2 (fun _ => rfl) ?_
            refine ev_ldiv rfl (by decide) ?_
            refine ev_seg (σ1 := (d, 160, 115, [some (.inr (.inr 86)), some (.inr (.inl x1)), none, some (.inr (.inl (w64 (Int.tdiv x3 10)))), none, some (.inr (.inl x5)), none, some (.inl 1), some (.inl (w32 (x8 + 1)))], [.inr (.inl 10), .inr (.inl x5)], (am_sh, am_mm (am_upd (am_upd U 86 77 (w32 ((U 86 77) + 1))) 86 78 (w32 (x8 + 1)))))) 3 (fun _ => rfl) ?_
            refine ev_ldiv rfl (by decide) ?_
            refine ev_seg (σ1 := (d, 160, 14, [some (.inr (.inr 86)), some (.inr (.inl x1)), none, some (.inr (.inl (w64 (Int.tdiv x3 10)))), none, some (.inr (.inl (w64 (Int.tdiv x5 10)))), none, some (.inl 1), some (.inl (w32 (x8 + 1)))], [], (am_sh, am_mm (am_upd (am_upd U 86 77 (w32 ((U 86 77) + 1))) 86 78 (w32 (x8 + 1)))))) 2 (fun _ => rfl) ?_
            exact h22222
set_option maxRecDepth 8000 in
theorem st159_86_0 (kz : am_Z) (d : Nat) (x1 : Int) (U : Nat → Nat → Int) (R : Option am_V × am_M) (h : (((x1 < 0 : Prop)) → R = (some (.inl 0), (am_sh, am_mm U))) ∧ (¬ (x1 < 0) → (0 ≤ (U 86 13) ∧ (U 86 13) < 2) ∧ ((((U 88 (U 86 13).toNat) ≤ x1 : Prop)) → R = (some (.inl 0), (am_sh, am_mm U))) ∧ (¬ ((U 88 (U 86 13).toNat) ≤ x1) → R = (some (.inl 1), (am_sh, am_mm U))))) : Ev kz (d, 159, 0, [some (.inr (.inr 86)), some (.inl x1)], [], (am_sh, am_mm U)) R := by
  refine ev_br (P := x1 < 0) (σ1 := (d, 159, 21, [some (.inr (.inr 86)), some (.inl x1)], [], (am_sh, am_mm U))) (σ2 := (d, 159, 4, [some (.inr (.inr 86)), some (.inl x1)], [], (am_sh, am_mm U))) 2 (fun _ => rfl) (fun hc => ?_) (fun hc => ?_)
  · have h1 := h.1 hc
    subst h1
    exact ev_end 2 (fun _ => rfl)
  · have h2 := h.2 hc
    refine ev_seg (σ1 := (d, 159, 13, [some (.inr (.inr 86)), some (.inl x1)], [.inl (U 86 13), .inr (.inr 88), .inl x1], (am_sh, am_mm U))) 5 (fun _ => rfl) ?_
    refine eu_iald 88 (n := 2) rfl (by decide) rfl (fun _ => rfl) h2.1 ?_
    have h2a := h2.2
    refine ev_br (P := (U 88 (U 86 13).toNat) ≤ x1) (σ1 := (d, 159, 21, [some (.inr (.inr 86)), some (.inl x1)], [], (am_sh, am_mm U))) (σ2 := (d, 159, 17, [some (.inr (.inr 86)), some (.inl x1)], [], (am_sh, am_mm U))) 1 (fun _ => rfl) (fun hc => ?_) (fun hc => ?_)
    · have h2a1 := h2a.1 hc
      subst h2a1
      exact ev_end 2 (fun _ => rfl)
    · have h2a2 := h2a.2 hc
      subst h2a2
      exact ev_end 3 (fun _ => rfl)
set_option maxRecDepth 8000 in
theorem st161_82_0 (kz : am_Z) (d : Nat) (x1 : Int) (U : Nat → Nat → Int) (R : Option am_V × am_M) (h : Ev kz (d, 161, 10, [some (.inr (.inr 82)), some (.inl x1), some (.inl (U 82 1)), some (.inr (.inl 0)), none, some (.inl 0), none, none], [], (am_sh, am_mm U)) R) : Ev kz (d, 161, 0, [some (.inr (.inr 82)), some (.inl x1), none, none, none, none, none, none], [], (am_sh, am_mm U)) R := by
  refine ev_seg (σ1 := (d, 161, 10, [some (.inr (.inr 82)), some (.inl x1), some (.inl (U 82 1)), some (.inr (.inl 0)), none, some (.inl 0), none, none], [], (am_sh, am_mm U))) 7 (fun _ => rfl) ?_
  exact h
set_option maxRecDepth 8000 in
theorem st161_82_10 (kz : am_Z) (d : Nat) (x1 x2 x3 x5 : Int) (U : Nat → Nat → Int) (R : Option am_V × am_M) (h : (((64 ≤ x5 : Prop)) → R = (none, (am_sh, am_mm U))) ∧ (¬ (64 ≤ x5) → (((x5 < x2 : Prop)) → (0 ≤ x5 ∧ x5 < 64) ∧ (0 ≤ x5 ∧ x5 < 64) ∧ Ev kz (d, 161, 10, [some (.inr (.inr 82)), some (.inl x1), some (.inl x2), some (.inr (.inl (w64 (Int.tdiv (w64 ((w64 ((U 83 x5.toNat) * x1)) + x3)) 10)))), none, some (.inl (w32 (x5 + 1))), some (.inr (.inl (w64 ((w64 ((U 83 x5.toNat) * x1)) + x3)))), none], [], (am_sh, am_mm (am_upd (am_upd U 83 x5.toNat (w32 (Int.tmod (w64 ((w64 ((U 83 x5.toNat) * x1)) + x3)) 10))) 82 1 (w32 (x5 + 1))))) R) ∧ (¬ (x5 < x2) → ((((am_lcmp x3 0) ≤ 0 : Prop)) → R = (none, (am_sh, am_mm U))) ∧ (¬ ((am_lcmp x3 0) ≤ 0) → (0 ≤ x5 ∧ x5 < 64) ∧ (0 ≤ x5 ∧ x5 < 64) ∧ Ev kz (d, 161, 10, [some (.inr (.inr 82)), some (.inl x1), some (.inl x2), some (.inr (.inl (w64 (Int.tdiv (w64 ((w64 ((U 83 x5.toNat) * x1)) + x3)) 10)))), none, some (.inl (w32 (x5 + 1))), some (.inr (.inl (w64 ((w64 ((U 83 x5.toNat) * x1)) + x3)))), none], [], (am_sh, am_mm (am_upd (am_upd U 83 x5.toNat (w32 (Int.tmod (w64 ((w64 ((U 83 x5.toNat) * x1)) + x3)) 10))) 82 1 (w32 (x5 + 1))))) R)))) : Ev kz (d, 161, 10, [some (.inr (.inr 82)), some (.inl x1), some (.inl x2), some (.inr (.inl x3)), none, some (.inl x5), none, none], [], (am_sh, am_mm U)) R := by
  refine ev_br (P := 64 ≤ x5) (σ1 := (d, 161, 79, [some (.inr (.inr 82)), some (.inl x1), some (.inl x2), some (.inr (.inl x3)), none, some (.inl x5), none, none], [], (am_sh, am_mm U))) (σ2 := (d, 161, 17, [some (.inr (.inr 82)), some (.inl x1), some (.inl x2), some (.inr (.inl x3)), none, some (.inl x5), none, none], [], (am_sh, am_mm U))) 3 (fun _ => rfl) (fun hc => ?_) (fun hc => ?_)
  · have h1 := h.1 hc
    subst h1
    exact ev_end 1 (fun _ => rfl)
  · have h2 := h.2 hc
    refine ev_br (P := x5 < x2) (σ1 := (d, 161, 29, [some (.inr (.inr 82)), some (.inl x1), some (.inl x2), some (.inr (.inl x3)), none, some (.inl x5), none, none], [], (am_sh, am_mm U))) (σ2 := (d, 161, 23, [some (.inr (.inr 82)), some (.inl x1), some (.inl x2), some (.inr (.inl x3)), none, some (.inl x5), none, none], [], (am_sh, am_mm U))) 3 (fun _ => rfl) (fun hc => ?_) (fun hc => ?_)
    · have h21 := h2.1 hc
      refine ev_seg (σ1 := (d, 161, 35, [some (.inr (.inr 82)), some (.inl x1), some (.inl x2), some (.inr (.inl x3)), none, some (.inl x5), none, none], [.inl x5, .inr (.inr 83)], (am_sh, am_mm U))) 3 (fun _ => rfl) ?_
      refine eu_iald 83 (n := 64) rfl (by decide) rfl (fun _ => rfl) h21.1 ?_
      have h21a := h21.2
      refine ev_seg (σ1 := (d, 161, 55, [some (.inr (.inr 82)), some (.inl x1), some (.inl x2), some (.inr (.inl x3)), none, some (.inl x5), some (.inr (.inl (w64 ((w64 ((U 83 x5.toNat) * x1)) + x3)))), none], [.inr (.inl 10), .inr (.inl (w64 ((w64 ((U 83 x5.toNat) * x1)) + x3))), .inl x5, .inr (.inr 83)], (am_sh, am_mm U))) 12 (fun _ => rfl) ?_
      refine ev_lrem rfl (by decide) ?_
      refine ev_seg (σ1 := (d, 161, 57, [some (.inr (.inr 82)), some (.inl x1), some (.inl x2), some (.inr (.inl x3)), none, some (.inl x5), some (.inr (.inl (w64 ((w64 ((U 83 x5.toNat) * x1)) + x3)))), none], [.inl (w32 (Int.tmod (w64 ((w64 ((U 83 x5.toNat) * x1)) + x3)) 10)), .inl x5, .inr (.inr 83)], (am_sh, am_mm U))) 1 (fun _ => rfl) ?_
      refine eu_iast 83 (n := 64) rfl (by decide) rfl (fun _ => rfl) h21a.1 ?_
      have h21aa := h21a.2
      refine ev_seg (σ1 := (d, 161, 63, [some (.inr (.inr 82)), some (.inl x1), some (.inl x2), some (.inr (.inl x3)), none, some (.inl x5), some (.inr (.inl (w64 ((w64 ((U 83 x5.toNat) * x1)) + x3)))), none], [.inr (.inl 10), .inr (.inl (w64 ((w64 ((U 83 x5.toNat) * x1)) + x3)))], (am_sh, am_mm (am_upd U 83 x5.toNat (w32 (Int.tmod (w64 ((w64 ((U 83 x5.toNat) * x1)) + x3)) 10)))))) 2 (fun _ => rfl) ?_
      refine ev_ldiv rfl (by decide) ?_
      refine ev_seg (σ1 := (d, 161, 70, [some (.inr (.inr 82)), some (.inl x1), some (.inl x2), some (.inr (.inl (w64 (Int.tdiv (w64 ((w64 ((U 83 x5.toNat) * x1)) + x3)) 10)))), none, some (.inl x5), some (.inr (.inl (w64 ((w64 ((U 83 x5.toNat) * x1)) + x3)))), none], [.inl (w32 (x5 + 1)), .inr (.inr 82)], (am_sh, am_mm (am_upd U 83 x5.toNat (w32 (Int.tmod (w64 ((w64 ((U 83 x5.toNat) * x1)) + x3)) 10)))))) 5 (fun _ => rfl) ?_
      refine eu_puti 82 (n := 4) rfl (by decide) rfl rfl ?_
      refine ev_seg (σ1 := (d, 161, 10, [some (.inr (.inr 82)), some (.inl x1), some (.inl x2), some (.inr (.inl (w64 (Int.tdiv (w64 ((w64 ((U 83 x5.toNat) * x1)) + x3)) 10)))), none, some (.inl (w32 (x5 + 1))), some (.inr (.inl (w64 ((w64 ((U 83 x5.toNat) * x1)) + x3)))), none], [], (am_sh, am_mm (am_upd (am_upd U 83 x5.toNat (w32 (Int.tmod (w64 ((w64 ((U 83 x5.toNat) * x1)) + x3)) 10))) 82 1 (w32 (x5 + 1)))))) 2 (fun _ => rfl) ?_
      exact h21aa
    · have h22 := h2.2 hc
      refine ev_br (P := (am_lcmp x3 0) ≤ 0) (σ1 := (d, 161, 79, [some (.inr (.inr 82)), some (.inl x1), some (.inl x2), some (.inr (.inl x3)), none, some (.inl x5), none, none], [], (am_sh, am_mm U))) (σ2 := (d, 161, 29, [some (.inr (.inr 82)), some (.inl x1), some (.inl x2), some (.inr (.inl x3)), none, some (.inl x5), none, none], [], (am_sh, am_mm U))) 4 (fun _ => rfl) (fun hc => ?_) (fun hc => ?_)
      · have h221 := h22.1 hc
        subst h221
        exact ev_end 1 (fun _ => rfl)
      · have h222 := h22.2 hc
        refine ev_seg (σ1 := (d, 161, 35, [some (.inr (.inr 82)), some (.inl x1), some (.inl x2), some (.inr (.inl x3)), none, some (.inl x5), none, none], [.inl x5, .inr (.inr 83)], (am_sh, am_mm U))) 3 (fun _ => rfl) ?_
        refine eu_iald 83 (n := 64) rfl (by decide) rfl (fun _ => rfl) h222.1 ?_
        have h222a := h222.2
        refine ev_seg (σ1 := (d, 161, 55, [some (.inr (.inr 82)), some (.inl x1), some (.inl x2), some (.inr (.inl x3)), none, some (.inl x5), some (.inr (.inl (w64 ((w64 ((U 83 x5.toNat) * x1)) + x3)))), none], [.inr (.inl 10), .inr (.inl (w64 ((w64 ((U 83 x5.toNat) * x1)) + x3))), .inl x5, .inr (.inr 83)], (am_sh, am_mm U))) 12 (fun _ => rfl) ?_
        refine ev_lrem rfl (by decide) ?_
        refine ev_seg (σ1 := (d, 161, 57, [some (.inr (.inr 82)), some (.inl x1), some (.inl x2), some (.inr (.inl x3)), none, some (.inl x5), some (.inr (.inl (w64 ((w64 ((U 83 x5.toNat) * x1)) + x3)))), none], [.inl (w32 (Int.tmod (w64 ((w64 ((U 83 x5.toNat) * x1)) + x3)) 10)), .inl x5, .inr (.inr 83)], (am_sh, am_mm U))) 1 (fun _ => rfl) ?_
        refine eu_iast 83 (n := 64) rfl (by decide) rfl (fun _ => rfl) h222a.1 ?_
        have h222aa := h222a.2
        refine ev_seg (σ1 := (d, 161, 63, [some (.inr (.inr 82)), some (.inl x1), some (.inl x2), some (.inr (.inl x3)), none, some (.inl x5), some (.inr (.inl (w64 ((w64 ((U 83 x5.toNat) * x1)) + x3)))), none], [.inr (.inl 10), .inr (.inl (w64 ((w64 ((U 83 x5.toNat) * x1)) + x3)))], (am_sh, am_mm (am_upd U 83 x5.toNat (w32 (Int.tmod (w64 ((w64 ((U 83 x5.toNat) * x1)) + x3)) 10)))))) 2 (fun _ => rfl) ?_
        refine ev_ldiv rfl (by decide) ?_
        refine ev_seg (σ1 := (d, 161, 70, [some (.inr (.inr 82)), some (.inl x1), some (.inl x2), some (.inr (.inl (w64 (Int.tdiv (w64 ((w64 ((U 83 x5.toNat) * x1)) + x3)) 10)))), none, some (.inl x5), some (.inr (.inl (w64 ((w64 ((U 83 x5.toNat) * x1)) + x3)))), none], [.inl (w32 (x5 + 1)), .inr (.inr 82)], (am_sh, am_mm (am_upd U 83 x5.toNat (w32 (Int.tmod (w64 ((w64 ((U 83 x5.toNat) * x1)) + x3)) 10)))))) 5 (fun _ => rfl) ?_
        refine eu_puti 82 (n := 4) rfl (by decide) rfl rfl ?_
        refine ev_seg (σ1 := (d, 161, 10, [some (.inr (.inr 82)), some (.inl x1), some (.inl x2), some (.inr (.inl (w64 (Int.tdiv (w64 ((w64 ((U 83 x5.toNat) * x1)) + x3)) 10)))), none, some (.inl (w32 (x5 + 1))), some (.inr (.inl (w64 ((w64 ((U 83 x5.toNat) * x1)) + x3)))), none], [], (am_sh, am_mm (am_upd (am_upd U 83 x5.toNat (w32 (Int.tmod (w64 ((w64 ((U 83 x5.toNat) * x1)) + x3)) 10))) 82 1 (w32 (x5 + 1)))))) 2 (fun _ => rfl) ?_
        exact h222aa
set_option maxRecDepth 8000 in
theorem st162_86_0 (kz : am_Z) (d : Nat) (x1 : Int) (U : Nat → Nat → Int) (R : Option am_V × am_M) (h : Ev kz (d, 162, 5, [some (.inr (.inr 86)), some (.inr (.inl x1)), none, some (.inr (.inl 0)), none, some (.inl 0)], [], (am_sh, am_mm U)) R) : Ev kz (d, 162, 0, [some (.inr (.inr 86)), some (.inr (.inl x1)), none, none, none, none], [], (am_sh, am_mm U)) R := by
  refine ev_seg (σ1 := (d, 162, 5, [some (.inr (.inr 86)), some (.inr (.inl x1)), none, some (.inr (.inl 0)), none, some (.inl 0)], [], (am_sh, am_mm U))) 4 (fun _ => rfl) ?_
  exact h
set_option maxRecDepth 8000 in
theorem st162_86_5 (kz : am_Z) (d : Nat) (x1 x3 x5 : Int) (U : Nat → Nat → Int) (R : Option am_V × am_M) (h : ((((U 86 80) ≤ x5 : Prop)) → Ev kz (d, 162, 52, [some (.inr (.inr 86)), some (.inr (.inl x1)), none, some (.inr (.inl x3)), none, some (.inl x5)], [], (am_sh, am_mm U)) R) ∧ (¬ ((U 86 80) ≤ x5) → (0 ≤ x5 ∧ x5 < 80) ∧ (0 ≤ x5 ∧ x5 < 80) ∧ Ev kz (d, 162, 5, [some (.inr (.inr 86)), some (.inr (.inl x1)), none, some (.inr (.inl (w64 (Int.tdiv (w64 (x3 + (w64 ((U 133 x5.toNat) * x1)))) 10)))), none, some (.inl (w32 (x5 + 1)))], [], (am_sh, am_mm (am_upd U 133 x5.toNat (w32 (Int.tmod (w64 (x3 + (w64 ((U 133 x5.toNat) * x1)))) 10))))) R)) : Ev kz (d, 162, 5, [some (.inr (.inr 86)), some (.inr (.inl x1)), none, some (.inr (.inl x3)), none, some (.inl x5)], [], (am_sh, am_mm U)) R := by
  refine ev_br (P := (U 86 80) ≤ x5) (σ1 := (d, 162, 52, [some (.inr (.inr 86)), some (.inr (.inl x1)), none, some (.inr (.inl x3)), none, some (.inl x5)], [], (am_sh, am_mm U))) (σ2 := (d, 162, 14, [some (.inr (.inr 86)), some (.inr (.inl x1)), none, some (.inr (.inl x3)), none, some (.inl x5)], [], (am_sh, am_mm U))) 4 (fun _ => rfl) (fun hc => ?_) (fun hc => ?_)
  · have h1 := h.1 hc
    exact h1
  · have h2 := h.2 hc
    refine ev_seg (σ1 := (d, 162, 21, [some (.inr (.inr 86)), some (.inr (.inl x1)), none, some (.inr (.inl x3)), none, some (.inl x5)], [.inl x5, .inr (.inr 133), .inr (.inl x3)], (am_sh, am_mm U))) 4 (fun _ => rfl) ?_
    refine eu_iald 133 (n := 80) rfl (by decide) rfl (fun _ => rfl) h2.1 ?_
    have h2a := h2.2
    refine ev_seg (σ1 := (d, 162, 37, [some (.inr (.inr 86)), some (.inr (.inl x1)), none, some (.inr (.inl (w64 (x3 + (w64 ((U 133 x5.toNat) * x1)))))), none, some (.inl x5)], [.inr (.inl 10), .inr (.inl (w64 (x3 + (w64 ((U 133 x5.toNat) * x1))))), .inl x5, .inr (.inr 133)], (am_sh, am_mm U))) 10 (fun _ => rfl) ?_
    refine ev_lrem rfl (by decide) ?_
    refine ev_seg (σ1 := (d, 162, 39, [some (.inr (.inr 86)), some (.inr (.inl x1)), none, some (.inr (.inl (w64 (x3 + (w64 ((U 133 x5.toNat) * x1)))))), none, some (.inl x5)], [.inl (w32 (Int.tmod (w64 (x3 + (w64 ((U 133 x5.toNat) * x1)))) 10)), .inl x5, .inr (.inr 133)], (am_sh, am_mm U))) 1 (fun _ => rfl) ?_
    refine eu_iast 133 (n := 80) rfl (by decide) rfl (fun _ => rfl) h2a.1 ?_
    have h2aa := h2a.2
    refine ev_seg (σ1 := (d, 162, 44, [some (.inr (.inr 86)), some (.inr (.inl x1)), none, some (.inr (.inl (w64 (x3 + (w64 ((U 133 x5.toNat) * x1)))))), none, some (.inl x5)], [.inr (.inl 10), .inr (.inl (w64 (x3 + (w64 ((U 133 x5.toNat) * x1)))))], (am_sh, am_mm (am_upd U 133 x5.toNat (w32 (Int.tmod (w64 (x3 + (w64 ((U 133 x5.toNat) * x1)))) 10)))))) 2 (fun _ => rfl) ?_
    refine ev_ldiv rfl (by decide) ?_
    refine ev_seg (σ1 := (d, 162, 5, [some (.inr (.inr 86)), some (.inr (.inl x1)), none, some (.inr (.inl (w64 (Int.tdiv (w64 (x3 + (w64 ((U 133 x5.toNat) * x1)))) 10)))), none, some (.inl (w32 (x5 + 1)))], [], (am_sh, am_mm (am_upd U 133 x5.toNat (w32 (Int.tmod (w64 (x3 + (w64 ((U 133 x5.toNat) * x1)))) 10)))))) 3 (fun _ => rfl) ?_
    exact h2aa
set_option maxRecDepth 8000 in
theorem st162_86_52 (kz : am_Z) (d : Nat) (x1 x3 x5 : Int) (U : Nat → Nat → Int) (R : Option am_V × am_M) (h : ((((am_lcmp x3 0) ≤ 0 : Prop)) → R = (none, (am_sh, am_mm U))) ∧ (¬ ((am_lcmp x3 0) ≤ 0) → (0 ≤ (U 86 80) ∧ (U 86 80) < 80) ∧ Ev kz (d, 162, 52, [some (.inr (.inr 86)), some (.inr (.inl x1)), none, some (.inr (.inl (w64 (Int.tdiv x3 10)))), none, some (.inl x5)], [], (am_sh, am_mm (am_upd (am_upd U 133 (U 86 80).toNat (w32 (Int.tmod x3 10))) 86 80 (w32 (((am_upd U 133 (U 86 80).toNat (w32 (Int.tmod x3 10))) 86 80) + 1))))) R)) : Ev kz (d, 162, 52, [some (.inr (.inr 86)), some (.inr (.inl x1)), none, some (.inr (.inl x3)), none, some (.inl x5)], [], (am_sh, am_mm U)) R := by
  refine ev_br (P := (am_lcmp x3 0) ≤ 0) (σ1 := (d, 162, 92, [some (.inr (.inr 86)), some (.inr (.inl x1)), none, some (.inr (.inl x3)), none, some (.inl x5)], [], (am_sh, am_mm U))) (σ2 := (d, 162, 58, [some (.inr (.inr 86)), some (.inr (.inl x1)), none, some (.inr (.inl x3)), none, some (.inl x5)], [], (am_sh, am_mm U))) 4 (fun _ => rfl) (fun hc => ?_) (fun hc => ?_)
  · have h1 := h.1 hc
    subst h1
    exact ev_end 1 (fun _ => rfl)
  · have h2 := h.2 hc
    refine ev_seg (σ1 := (d, 162, 70, [some (.inr (.inr 86)), some (.inr (.inl x1)), none, some (.inr (.inl x3)), none, some (.inl x5)], [.inr (.inl 10), .inr (.inl x3), .inl (U 86 80), .inr (.inr 133)], (am_sh, am_mm U))) 6 (fun _ => rfl) ?_
    refine ev_lrem rfl (by decide) ?_
    refine ev_seg (σ1 := (d, 162, 72, [some (.inr (.inr 86)), some (.inr (.inl x1)), none, some (.inr (.inl x3)), none, some (.inl x5)], [.inl (w32 (Int.tmod x3 10)), .inl (U 86 80), .inr (.inr 133)], (am_sh, am_mm U))) 1 (fun _ => rfl) ?_
    refine eu_iast 133 (n := 80) rfl (by decide) rfl (fun _ => rfl) h2.1 ?_
    have h2a := h2.2
    refine ev_seg (σ1 := (d, 162, 77, [some (.inr (.inr 86)), some (.inr (.inl x1)), none, some (.inr (.inl x3)), none, some (.inl x5)], [.inr (.inl 10), .inr (.inl x3)], (am_sh, am_mm (am_upd U 133 (U 86 80).toNat (w32 (Int.tmod x3 10)))))) 2 (fun _ => rfl) ?_
    refine ev_ldiv rfl (by decide) ?_
    refine ev_seg (σ1 := (d, 162, 86, [some (.inr (.inr 86)), some (.inr (.inl x1)), none, some (.inr (.inl (w64 (Int.tdiv x3 10)))), none, some (.inl x5)], [.inl (w32 (((am_upd U 133 (U 86 80).toNat (w32 (Int.tmod x3 10))) 86 80) + 1)), .inr (.inr 86)], (am_sh, am_mm (am_upd U 133 (U 86 80).toNat (w32 (Int.tmod x3 10)))))) 6 (fun _ => rfl) ?_
    refine eu_puti 86 (n := 90) rfl (by decide) rfl rfl ?_
    refine ev_seg (σ1 := (d, 162, 52, [some (.inr (.inr 86)), some (.inr (.inl x1)), none, some (.inr (.inl (w64 (Int.tdiv x3 10)))), none, some (.inl x5)], [], (am_sh, am_mm (am_upd (am_upd U 133 (U 86 80).toNat (w32 (Int.tmod x3 10))) 86 80 (w32 (((am_upd U 133 (U 86 80).toNat (w32 (Int.tmod x3 10))) 86 80) + 1)))))) 1 (fun _ => rfl) ?_
    exact h2a
set_option maxRecDepth 8000 in
theorem st163_86_0 (kz : am_Z) (d : Nat) (x1 : Int) (U : Nat → Nat → Int) (R : Option am_V × am_M) (h : Ev kz (d, 163, 4, [some (.inr (.inr 86)), some (.inl x1), some (.inl 0), some (.inl 0), none], [], (am_sh, am_mm U)) R) : Ev kz (d, 163, 0, [some (.inr (.inr 86)), some (.inl x1), none, none, none], [], (am_sh, am_mm U)) R := by
  refine ev_seg (σ1 := (d, 163, 4, [some (.inr (.inr 86)), some (.inl x1), some (.inl 0), some (.inl 0), none], [], (am_sh, am_mm U))) 4 (fun _ => rfl) ?_
  exact h
set_option maxRecDepth 8000 in
theorem st163_86_4 (kz : am_Z) (d : Nat) (x1 x2 x3 : Int) (U : Nat → Nat → Int) (R : Option am_V × am_M) (h : (0 ≤ (U 86 13) ∧ (U 86 13) < 2) ∧ ((((U 106 (U 86 13).toNat) ≤ x3 : Prop)) → R = (some (.inl x2), (am_sh, am_mm U))) ∧ (¬ ((U 106 (U 86 13).toNat) ≤ x3) → (0 ≤ (w32 ((w32 (16 * (U 86 13))) + x3)) ∧ (w32 ((w32 (16 * (U 86 13))) + x3)) < 32) ∧ (((¬ (U 108 (w32 ((w32 (16 * (U 86 13))) + x3)).toNat) = x1 : Prop)) → (0 ≤ (w32 ((w32 (16 * (U 86 13))) + x3)) ∧ (w32 ((w32 (16 * (U 86 13))) + x3)) < 32) ∧ (((¬ (U 107 (w32 ((w32 (16 * (U 86 13))) + x3)).toNat) = x1 : Prop)) → Ev kz (d, 163, 4, [some (.inr (.inr 86)), some (.inl x1), some (.inl (w32 ((w32 (x2 + 0)) - 0))), some (.inl (w32 (x3 + 1))), some (.inl (w32 ((w32 (16 * (U 86 13))) + x3)))], [], (am_sh, am_mm U)) R) ∧ (¬ (¬ (U 107 (w32 ((w32 (16 * (U 86 13))) + x3)).toNat) = x1) → (0 ≤ (w32 ((w32 (16 * (U 86 13))) + x3)) ∧ (w32 ((w32 (16 * (U 86 13))) + x3)) < 32) ∧ Ev kz (d, 163, 4, [some (.inr (.inr 86)), some (.inl x1), some (.inl (w32 ((w32 (x2 + 0)) - (U 109 (w32 ((w32 (16 * (U 86 13))) + x3)).toNat)))), some (.inl (w32 (x3 + 1))), some (.inl (w32 ((w32 (16 * (U 86 13))) + x3)))], [], (am_sh, am_mm U)) R)) ∧ (¬ (¬ (U 108 (w32 ((w32 (16 * (U 86 13))) + x3)).toNat) = x1) → (0 ≤ (w32 ((w32 (16 * (U 86 13))) + x3)) ∧ (w32 ((w32 (16 * (U 86 13))) + x3)) < 32) ∧ (0 ≤ (w32 ((w32 (16 * (U 86 13))) + x3)) ∧ (w32 ((w32 (16 * (U 86 13))) + x3)) < 32) ∧ (((¬ (U 107 (w32 ((w32 (16 * (U 86 13))) + x3)).toNat) = x1 : Prop)) → Ev kz (d, 163, 4, [some (.inr (.inr 86)), some (.inl x1), some (.inl (w32 ((w32 (x2 + (U 109 (w32 ((w32 (16 * (U 86 13))) + x3)).toNat))) - 0))), some (.inl (w32 (x3 + 1))), some (.inl (w32 ((w32 (16 * (U 86 13))) + x3)))], [], (am_sh, am_mm U)) R) ∧ (¬ (¬ (U 107 (w32 ((w32 (16 * (U 86 13))) + x3)).toNat) = x1) → (0 ≤ (w32 ((w32 (16 * (U 86 13))) + x3)) ∧ (w32 ((w32 (16 * (U 86 13))) + x3)) < 32) ∧ Ev kz (d, 163, 4, [some (.inr (.inr 86)), some (.inl x1), some (.inl (w32 ((w32 (x2 + (U 109 (w32 ((w32 (16 * (U 86 13))) + x3)).toNat))) - (U 109 (w32 ((w32 (16 * (U 86 13))) + x3)).toNat)))), some (.inl (w32 (x3 + 1))), some (.inl (w32 ((w32 (16 * (U 86 13))) + x3)))], [], (am_sh, am_mm U)) R)))) : Ev kz (d, 163, 4, [some (.inr (.inr 86)), some (.inl x1), some (.inl x2), some (.inl x3), none], [], (am_sh, am_mm U)) R := by
  refine ev_seg (σ1 := (d, 163, 13, [some (.inr (.inr 86)), some (.inl x1), some (.inl x2), some (.inl x3), none], [.inl (U 86 13), .inr (.inr 106), .inl x3], (am_sh, am_mm U))) 5 (fun _ => rfl) ?_
  refine eu_iald 106 (n := 2) rfl (by decide) rfl (fun _ => rfl) h.1 ?_
  have ha := h.2
  refine ev_br (P := (U 106 (U 86 13).toNat) ≤ x3) (σ1 := (d, 163, 84, [some (.inr (.inr 86)), some (.inl x1), some (.inl x2), some (.inl x3), none], [], (am_sh, am_mm U))) (σ2 := (d, 163, 17, [some (.inr (.inr 86)), some (.inl x1), some (.inl x2), some (.inl x3), none], [], (am_sh, am_mm U))) 1 (fun _ => rfl) (fun hc => ?_) (fun hc => ?_)
  · have ha1 := ha.1 hc
    subst ha1
    exact ev_end 2 (fun _ => rfl)
  · have ha2 := ha.2 hc
    refine ev_seg (σ1 := (d, 163, 35, [some (.inr (.inr 86)), some (.inl x1), some (.inl x2), some (.inl x3), some (.inl (w32 ((w32 (16 * (U 86 13))) + x3)))], [.inl (w32 ((w32 (16 * (U 86 13))) + x3)), .inr (.inr 108), .inl x2], (am_sh, am_mm U))) 11 (fun _ => rfl) ?_
    refine eu_iald 108 (n := 32) rfl (by decide) rfl (fun _ => rfl) ha2.1 ?_
    have ha2a := ha2.2
    refine ev_br (P := ¬ (U 108 (w32 ((w32 (16 * (U 86 13))) + x3)).toNat) = x1) (σ1 := (d, 163, 50, [some (.inr (.inr 86)), some (.inl x1), some (.inl x2), some (.inl x3), some (.inl (w32 ((w32 (16 * (U 86 13))) + x3)))], [.inl x2], (am_sh, am_mm U))) (σ2 := (d, 163, 40, [some (.inr (.inr 86)), some (.inl x1), some (.inl x2), some (.inl x3), some (.inl (w32 ((w32 (16 * (U 86 13))) + x3)))], [.inl x2], (am_sh, am_mm U))) 2 (fun _ => rfl) (fun hc => ?_) (fun hc => ?_)
    · have ha2a1 := ha2a.1 hc
      refine ev_seg (σ1 := (d, 163, 60, [some (.inr (.inr 86)), some (.inl x1), some (.inl (w32 (x2 + 0))), some (.inl x3), some (.inl (w32 ((w32 (16 * (U 86 13))) + x3)))], [.inl (w32 ((w32 (16 * (U 86 13))) + x3)), .inr (.inr 107), .inl (w32 (x2 + 0))], (am_sh, am_mm U))) 7 (fun _ => rfl) ?_
      refine eu_iald 107 (n := 32) rfl (by decide) rfl (fun _ => rfl) ha2a1.1 ?_
      have ha2a1a := ha2a1.2
      refine ev_br (P := ¬ (U 107 (w32 ((w32 (16 * (U 86 13))) + x3)).toNat) = x1) (σ1 := (d, 163, 75, [some (.inr (.inr 86)), some (.inl x1), some (.inl (w32 (x2 + 0))), some (.inl x3), some (.inl (w32 ((w32 (16 * (U 86 13))) + x3)))], [.inl (w32 (x2 + 0))], (am_sh, am_mm U))) (σ2 := (d, 163, 65, [some (.inr (.inr 86)), some (.inl x1), some (.inl (w32 (x2 + 0))), some (.inl x3), some (.inl (w32 ((w32 (16 * (U 86 13))) + x3)))], [.inl (w32 (x2 + 0))], (am_sh, am_mm U))) 2 (fun _ => rfl) (fun hc => ?_) (fun hc => ?_)
      · have ha2a1a1 := ha2a1a.1 hc
        refine ev_seg (σ1 := (d, 163, 4, [some (.inr (.inr 86)), some (.inl x1), some (.inl (w32 ((w32 (x2 + 0)) - 0))), some (.inl (w32 (x3 + 1))), some (.inl (w32 ((w32 (16 * (U 86 13))) + x3)))], [], (am_sh, am_mm U))) 5 (fun _ => rfl) ?_
        exact ha2a1a1
      · have ha2a1a2 := ha2a1a.2 hc
        refine ev_seg (σ1 := (d, 163, 71, [some (.inr (.inr 86)), some (.inl x1), some (.inl (w32 (x2 + 0))), some (.inl x3), some (.inl (w32 ((w32 (16 * (U 86 13))) + x3)))], [.inl (w32 ((w32 (16 * (U 86 13))) + x3)), .inr (.inr 109), .inl (w32 (x2 + 0))], (am_sh, am_mm U))) 3 (fun _ => rfl) ?_
        refine eu_iald 109 (n := 32) rfl (by decide) rfl (fun _ => rfl) ha2a1a2.1 ?_
        have ha2a1a2a := ha2a1a2.2
        refine ev_seg (σ1 := (d, 163, 4, [some (.inr (.inr 86)), some (.inl x1), some (.inl (w32 ((w32 (x2 + 0)) - (U 109 (w32 ((w32 (16 * (U 86 13))) + x3)).toNat)))), some (.inl (w32 (x3 + 1))), some (.inl (w32 ((w32 (16 * (U 86 13))) + x3)))], [], (am_sh, am_mm U))) 5 (fun _ => rfl) ?_
        exact ha2a1a2a
    · have ha2a2 := ha2a.2 hc
      refine ev_seg (σ1 := (d, 163, 46, [some (.inr (.inr 86)), some (.inl x1), some (.inl x2), some (.inl x3), some (.inl (w32 ((w32 (16 * (U 86 13))) + x3)))], [.inl (w32 ((w32 (16 * (U 86 13))) + x3)), .inr (.inr 109), .inl x2], (am_sh, am_mm U))) 3 (fun _ => rfl) ?_
      refine eu_iald 109 (n := 32) rfl (by decide) rfl (fun _ => rfl) ha2a2.1 ?_
      have ha2a2a := ha2a2.2
      refine ev_seg (σ1 := (d, 163, 60, [some (.inr (.inr 86)), some (.inl x1), some (.inl (w32 (x2 + (U 109 (w32 ((w32 (16 * (U 86 13))) + x3)).toNat)))), some (.inl x3), some (.inl (w32 ((w32 (16 * (U 86 13))) + x3)))], [.inl (w32 ((w32 (16 * (U 86 13))) + x3)), .inr (.inr 107), .inl (w32 (x2 + (U 109 (w32 ((w32 (16 * (U 86 13))) + x3)).toNat)))], (am_sh, am_mm U))) 7 (fun _ => rfl) ?_
      refine eu_iald 107 (n := 32) rfl (by decide) rfl (fun _ => rfl) ha2a2a.1 ?_
      have ha2a2aa := ha2a2a.2
      refine ev_br (P := ¬ (U 107 (w32 ((w32 (16 * (U 86 13))) + x3)).toNat) = x1) (σ1 := (d, 163, 75, [some (.inr (.inr 86)), some (.inl x1), some (.inl (w32 (x2 + (U 109 (w32 ((w32 (16 * (U 86 13))) + x3)).toNat)))), some (.inl x3), some (.inl (w32 ((w32 (16 * (U 86 13))) + x3)))], [.inl (w32 (x2 + (U 109 (w32 ((w32 (16 * (U 86 13))) + x3)).toNat)))], (am_sh, am_mm U))) (σ2 := (d, 163, 65, [some (.inr (.inr 86)), some (.inl x1), some (.inl (w32 (x2 + (U 109 (w32 ((w32 (16 * (U 86 13))) + x3)).toNat)))), some (.inl x3), some (.inl (w32 ((w32 (16 * (U 86 13))) + x3)))], [.inl (w32 (x2 + (U 109 (w32 ((w32 (16 * (U 86 13))) + x3)).toNat)))], (am_sh, am_mm U))) 2 (fun _ => rfl) (fun hc => ?_) (fun hc => ?_)
      · have ha2a2aa1 := ha2a2aa.1 hc
        refine ev_seg (σ1 := (d, 163, 4, [some (.inr (.inr 86)), some (.inl x1), some (.inl (w32 ((w32 (x2 + (U 109 (w32 ((w32 (16 * (U 86 13))) + x3)).toNat))) - 0))), some (.inl (w32 (x3 + 1))), some (.inl (w32 ((w32 (16 * (U 86 13))) + x3)))], [], (am_sh, am_mm U))) 5 (fun _ => rfl) ?_
        exact ha2a2aa1
      · have ha2a2aa2 := ha2a2aa.2 hc
        refine ev_seg (σ1 := (d, 163, 71, [some (.inr (.inr 86)), some (.inl x1), some (.inl (w32 (x2 + (U 109 (w32 ((w32 (16 * (U 86 13))) + x3)).toNat)))), some (.inl x3), some (.inl (w32 ((w32 (16 * (U 86 13))) + x3)))], [.inl (w32 ((w32 (16 * (U 86 13))) + x3)), .inr (.inr 109), .inl (w32 (x2 + (U 109 (w32 ((w32 (16 * (U 86 13))) + x3)).toNat)))], (am_sh, am_mm U))) 3 (fun _ => rfl) ?_
        refine eu_iald 109 (n := 32) rfl (by decide) rfl (fun _ => rfl) ha2a2aa2.1 ?_
        have ha2a2aa2a := ha2a2aa2.2
        refine ev_seg (σ1 := (d, 163, 4, [some (.inr (.inr 86)), some (.inl x1), some (.inl (w32 ((w32 (x2 + (U 109 (w32 ((w32 (16 * (U 86 13))) + x3)).toNat))) - (U 109 (w32 ((w32 (16 * (U 86 13))) + x3)).toNat)))), some (.inl (w32 (x3 + 1))), some (.inl (w32 ((w32 (16 * (U 86 13))) + x3)))], [], (am_sh, am_mm U))) 5 (fun _ => rfl) ?_
        exact ha2a2aa2a
set_option maxRecDepth 8000 in
theorem st164_3_44_0 (kz : am_Z) (d : Nat) (U : Nat → Nat → Int) (R : Option am_V × am_M) (h : Ev kz ((d + 1), 164, 4, [some (.inr (.inr 3)), some (.inr (.inr 44)), some (.inl 0), some (.inl 0)], [], (am_sh, am_mm U)) R) : Ev kz ((d + 1), 164, 0, [some (.inr (.inr 3)), some (.inr (.inr 44)), none, none], [], (am_sh, am_mm U)) R := by
  refine ev_seg (σ1 := ((d + 1), 164, 4, [some (.inr (.inr 3)), some (.inr (.inr 44)), some (.inl 0), some (.inl 0)], [], (am_sh, am_mm U))) 4 (fun _ => rfl) ?_
  exact h
set_option maxRecDepth 8000 in
theorem st164_3_44_4 (kz : am_Z) (d : Nat) (x2 x3 : Int) (U : Nat → Nat → Int) (R : Option am_V × am_M) (h : ((((U 3 1) ≤ x3 : Prop)) → ((((am_shl 1 x2) ≤ 4096 : Prop)) → Ev kz ((d + 1), 164, 58, [some (.inr (.inr 3)), some (.inr (.inr 44)), some (.inl x2), some (.inl 1)], [], (am_sh, am_mm (am_upd U 44 0 0))) R) ∧ (¬ ((am_shl 1 x2) ≤ 4096) → R = (some (.inl (-1)), (am_sh, am_mm U)))) ∧ (¬ ((U 3 1) ≤ x3) → (0 ≤ x3 ∧ x3 < 12) ∧ ((((U 10 x3.toNat) = 0 : Prop)) → Ev kz ((d + 1), 164, 4, [some (.inr (.inr 3)), some (.inr (.inr 44)), some (.inl x2), some (.inl (w32 (x3 + 1)))], [], (am_sh, am_mm U)) R) ∧ (¬ ((U 10 x3.toNat) = 0) → (0 ≤ x3 ∧ x3 < 12) ∧ (0 ≤ x2 ∧ x2 < 12) ∧ Ev kz ((d + 1), 164, 4, [some (.inr (.inr 3)), some (.inr (.inr 44)), some (.inl (w32 (x2 + 1))), some (.inl (w32 (x3 + 1)))], [], (am_sh, am_mm (am_upd U 11 x2.toNat (U 10 x3.toNat)))) R))) : Ev kz ((d + 1), 164, 4, [some (.inr (.inr 3)), some (.inr (.inr 44)), some (.inl x2), some (.inl x3)], [], (am_sh, am_mm U)) R := by
  refine ev_br (P := (U 3 1) ≤ x3) (σ1 := ((d + 1), 164, 42, [some (.inr (.inr 3)), some (.inr (.inr 44)), some (.inl x2), some (.inl x3)], [], (am_sh, am_mm U))) (σ2 := ((d + 1), 164, 12, [some (.inr (.inr 3)), some (.inr (.inr 44)), some (.inl x2), some (.inl x3)], [], (am_sh, am_mm U))) 4 (fun _ => rfl) (fun hc => ?_) (fun hc => ?_)
  · have h1 := h.1 hc
    refine ev_br (P := (am_shl 1 x2) ≤ 4096) (σ1 := ((d + 1), 164, 52, [some (.inr (.inr 3)), some (.inr (.inr 44)), some (.inl x2), some (.inl x3)], [], (am_sh, am_mm U))) (σ2 := ((d + 1), 164, 50, [some (.inr (.inr 3)), some (.inr (.inr 44)), some (.inl x2), some (.inl x3)], [], (am_sh, am_mm U))) 6 (fun _ => rfl) (fun hc => ?_) (fun hc => ?_)
    · have h11 := h1.1 hc
      refine ev_seg (σ1 := ((d + 1), 164, 55, [some (.inr (.inr 3)), some (.inr (.inr 44)), some (.inl x2), some (.inl x3)], [.inl 0, .inl 0, .inr (.inr 44)], (am_sh, am_mm U))) 3 (fun _ => rfl) ?_
      refine eu_iast 44 (n := 4096) rfl (by decide) rfl (fun _ => rfl) (by decide) ?_
      show Ev kz ((d + 1), 164, 56, [some (.inr (.inr 3)), some (.inr (.inr 44)), some (.inl x2), some (.inl x3)], [], (am_sh, am_mm (am_upd U 44 0 0))) R
      refine ev_seg (σ1 := ((d + 1), 164, 58, [some (.inr (.inr 3)), some (.inr (.inr 44)), some (.inl x2), some (.inl 1)], [], (am_sh, am_mm (am_upd U 44 0 0)))) 2 (fun _ => rfl) ?_
      exact h11
    · have h12 := h1.2 hc
      subst h12
      exact ev_end 2 (fun _ => rfl)
  · have h2 := h.2 hc
    refine ev_seg (σ1 := ((d + 1), 164, 17, [some (.inr (.inr 3)), some (.inr (.inr 44)), some (.inl x2), some (.inl x3)], [.inl x3, .inr (.inr 10)], (am_sh, am_mm U))) 3 (fun _ => rfl) ?_
    refine eu_iald 10 (n := 12) rfl (by decide) rfl (fun _ => rfl) h2.1 ?_
    have h2a := h2.2
    refine ev_br (P := (U 10 x3.toNat) = 0) (σ1 := ((d + 1), 164, 36, [some (.inr (.inr 3)), some (.inr (.inr 44)), some (.inl x2), some (.inl x3)], [], (am_sh, am_mm U))) (σ2 := ((d + 1), 164, 21, [some (.inr (.inr 3)), some (.inr (.inr 44)), some (.inl x2), some (.inl x3)], [], (am_sh, am_mm U))) 1 (fun _ => rfl) (fun hc => ?_) (fun hc => ?_)
    · have h2a1 := h2a.1 hc
      refine ev_seg (σ1 := ((d + 1), 164, 4, [some (.inr (.inr 3)), some (.inr (.inr 44)), some (.inl x2), some (.inl (w32 (x3 + 1)))], [], (am_sh, am_mm U))) 2 (fun _ => rfl) ?_
      exact h2a1
    · have h2a2 := h2a.2 hc
      refine ev_seg (σ1 := ((d + 1), 164, 31, [some (.inr (.inr 3)), some (.inr (.inr 44)), some (.inl x2), some (.inl x3)], [.inl x3, .inr (.inr 10), .inl x2, .inr (.inr 11)], (am_sh, am_mm U))) 6 (fun _ => rfl) ?_
      refine eu_iald 10 (n := 12) rfl (by decide) rfl (fun _ => rfl) h2a2.1 ?_
      have h2a2a := h2a2.2
      refine eu_iast 11 (n := 12) rfl (by decide) rfl (fun _ => rfl) h2a2a.1 ?_
      have h2a2aa := h2a2a.2
      refine ev_seg (σ1 := ((d + 1), 164, 4, [some (.inr (.inr 3)), some (.inr (.inr 44)), some (.inl (w32 (x2 + 1))), some (.inl (w32 (x3 + 1)))], [], (am_sh, am_mm (am_upd U 11 x2.toNat (U 10 x3.toNat))))) 3 (fun _ => rfl) ?_
      exact h2a2aa
set_option maxRecDepth 8000 in
theorem st164_3_44_58 (kz : am_Z) (d : Nat) (x2 x3 : Int) (U : Nat → Nat → Int) (R : Option am_V × am_M) (h : ((((am_shl 1 x2) ≤ x3 : Prop)) → (0 ≤ (w32 ((am_shl 1 x2) - 1)) ∧ (w32 ((am_shl 1 x2) - 1)) < 4096) ∧ R = (some (.inl (w32 (x2 - (am_and (U 44 (w32 ((am_shl 1 x2) - 1)).toNat) 15)))), (am_sh, am_mm U))) ∧ (¬ ((am_shl 1 x2) ≤ x3) → ∃ U1 : Nat → Nat → Int, Ev kz (d, 240, 0, [some (.inr (.inr 3)), some (.inr (.inr 44)), some (.inl x3), some (.inl x2), none, none, none, none], [], (am_sh, am_mm U)) (none, (am_sh, am_mm U1)) ∧ Ev kz ((d + 1), 164, 58, [some (.inr (.inr 3)), some (.inr (.inr 44)), some (.inl x2), some (.inl (w32 (x3 + 1)))], [], (am_sh, am_mm U1)) R)) : Ev kz ((d + 1), 164, 58, [some (.inr (.inr 3)), some (.inr (.inr 44)), some (.inl x2), some (.inl x3)], [], (am_sh, am_mm U)) R := by
  refine ev_br (P := (am_shl 1 x2) ≤ x3) (σ1 := ((d + 1), 164, 78, [some (.inr (.inr 3)), some (.inr (.inr 44)), some (.inl x2), some (.inl x3)], [], (am_sh, am_mm U))) (σ2 := ((d + 1), 164, 65, [some (.inr (.inr 3)), some (.inr (.inr 44)), some (.inl x2), some (.inl x3)], [], (am_sh, am_mm U))) 5 (fun _ => rfl) (fun hc => ?_) (fun hc => ?_)
  · have h1 := h.1 hc
    refine ev_seg (σ1 := ((d + 1), 164, 85, [some (.inr (.inr 3)), some (.inr (.inr 44)), some (.inl x2), some (.inl x3)], [.inl (w32 ((am_shl 1 x2) - 1)), .inr (.inr 44), .inl x2], (am_sh, am_mm U))) 7 (fun _ => rfl) ?_
    refine eu_iald 44 (n := 4096) rfl (by decide) rfl (fun _ => rfl) h1.1 ?_
    have h1a := h1.2
    subst h1a
    exact ev_end 4 (fun _ => rfl)
  · have h2 := h.2 hc
    refine ev_seg (σ1 := ((d + 1), 164, 69, [some (.inr (.inr 3)), some (.inr (.inr 44)), some (.inl x2), some (.inl x3)], [.inl x2, .inl x3, .inr (.inr 44), .inr (.inr 3)], (am_sh, am_mm U))) 4 (fun _ => rfl) ?_
    obtain ⟨U1, h2c, h2a⟩ := h2
    refine ev_cal (σc := (d, 240, 0, [some (.inr (.inr 3)), some (.inr (.inr 44)), some (.inl x3), some (.inl x2), none, none, none, none], [], (am_sh, am_mm U))) (fun _ => rfl) h2c ?_
    show Ev kz ((d + 1), 164, 72, [some (.inr (.inr 3)), some (.inr (.inr 44)), some (.inl x2), some (.inl x3)], [], (am_sh, am_mm U1)) R
    refine ev_seg (σ1 := ((d + 1), 164, 58, [some (.inr (.inr 3)), some (.inr (.inr 44)), some (.inl x2), some (.inl (w32 (x3 + 1)))], [], (am_sh, am_mm U1))) 2 (fun _ => rfl) ?_
    exact h2a
set_option maxRecDepth 8000 in
theorem st165_2_0 (kz : am_Z) (d : Nat) (x1 : Int) (U : Nat → Nat → Int) (R : Option am_V × am_M) (h : (((x1 < 3 : Prop)) → R = (some (.inl 0), (am_sh, am_mm U))) ∧ (¬ (x1 < 3) → (((1600 < x1 : Prop)) → R = (some (.inl 0), (am_sh, am_mm U))) ∧ (¬ (1600 < x1) → ((((U 2 0) < 2 : Prop)) → R = (some (.inl 0), (am_sh, am_mm U))) ∧ (¬ ((U 2 0) < 2) → ((((U 2 0) ≤ 4 : Prop)) → ((((U 2 1) < 1 : Prop)) → R = (some (.inl 0), (am_sh, am_mm U))) ∧ (¬ ((U 2 1) < 1) → (((24 < (U 2 1) : Prop)) → R = (some (.inl 0), (am_sh, am_mm U))) ∧ (¬ (24 < (U 2 1)) → (((x1 = (w32 (2 + (w32 (Int.tdiv (w32 ((U 2 0) * (w32 ((U 2 0) - 1)))) 2)))) : Prop)) → Ev kz (d, 165, 63, [some (.inr (.inr 2)), some (.inl x1), some (.inl 2)], [], (am_sh, am_mm U)) R) ∧ (¬ (x1 = (w32 (2 + (w32 (Int.tdiv (w32 ((U 2 0) * (w32 ((U 2 0) - 1)))) 2))))) → R = (some (.inl 0), (am_sh, am_mm U)))))) ∧ (¬ ((U 2 0) ≤ 4) → R = (some (.inl 0), (am_sh, am_mm U))))))) : Ev kz (d, 165, 0, [some (.inr (.inr 2)), some (.inl x1), none], [], (am_sh, am_mm U)) R := by
  refine ev_br (P := x1 < 3) (σ1 := (d, 165, 25, [some (.inr (.inr 2)), some (.inl x1), none], [], (am_sh, am_mm U))) (σ2 := (d, 165, 5, [some (.inr (.inr 2)), some (.inl x1), none], [], (am_sh, am_mm U))) 3 (fun _ => rfl) (fun hc => ?_) (fun hc => ?_)
  · have h1 := h.1 hc
    subst h1
    exact ev_end 2 (fun _ => rfl)
  · have h2 := h.2 hc
    refine ev_br (P := 1600 < x1) (σ1 := (d, 165, 25, [some (.inr (.inr 2)), some (.inl x1), none], [], (am_sh, am_mm U))) (σ2 := (d, 165, 11, [some (.inr (.inr 2)), some (.inl x1), none], [], (am_sh, am_mm U))) 4 (fun _ => rfl) (fun hc => ?_) (fun hc => ?_)
    · have h21 := h2.1 hc
      subst h21
      exact ev_end 2 (fun _ => rfl)
    · have h22 := h2.2 hc
      refine ev_seg (σ1 := (d, 165, 13, [some (.inr (.inr 2)), some (.inl x1), none], [.inl 0, .inr (.inr 2)], (am_sh, am_mm U))) 2 (fun _ => rfl) ?_
      refine eu_iald 2 (n := 1600) rfl (by decide) rfl (fun _ => rfl) (by decide) ?_
      show Ev kz (d, 165, 14, [some (.inr (.inr 2)), some (.inl x1), none], [.inl (U 2 0)], (am_sh, am_mm U)) R
      refine ev_br (P := (U 2 0) < 2) (σ1 := (d, 165, 25, [some (.inr (.inr 2)), some (.inl x1), none], [], (am_sh, am_mm U))) (σ2 := (d, 165, 18, [some (.inr (.inr 2)), some (.inl x1), none], [], (am_sh, am_mm U))) 2 (fun _ => rfl) (fun hc => ?_) (fun hc => ?_)
      · have h221 := h22.1 hc
        subst h221
        exact ev_end 2 (fun _ => rfl)
      · have h222 := h22.2 hc
        refine ev_seg (σ1 := (d, 165, 20, [some (.inr (.inr 2)), some (.inl x1), none], [.inl 0, .inr (.inr 2)], (am_sh, am_mm U))) 2 (fun _ => rfl) ?_
        refine eu_iald 2 (n := 1600) rfl (by decide) rfl (fun _ => rfl) (by decide) ?_
        show Ev kz (d, 165, 21, [some (.inr (.inr 2)), some (.inl x1), none], [.inl (U 2 0)], (am_sh, am_mm U)) R
        refine ev_br (P := (U 2 0) ≤ 4) (σ1 := (d, 165, 27, [some (.inr (.inr 2)), some (.inl x1), none], [], (am_sh, am_mm U))) (σ2 := (d, 165, 25, [some (.inr (.inr 2)), some (.inl x1), none], [], (am_sh, am_mm U))) 2 (fun _ => rfl) (fun hc => ?_) (fun hc => ?_)
        · have h2221 := h222.1 hc
          refine ev_seg (σ1 := (d, 165, 29, [some (.inr (.inr 2)), some (.inl x1), none], [.inl 1, .inr (.inr 2)], (am_sh, am_mm U))) 2 (fun _ => rfl) ?_
          refine eu_iald 2 (n := 1600) rfl (by decide) rfl (fun _ => rfl) (by decide) ?_
          show Ev kz (d, 165, 30, [some (.inr (.inr 2)), some (.inl x1), none], [.inl (U 2 1)], (am_sh, am_mm U)) R
          refine ev_br (P := (U 2 1) < 1) (σ1 := (d, 165, 59, [some (.inr (.inr 2)), some (.inl x1), none], [], (am_sh, am_mm U))) (σ2 := (d, 165, 34, [some (.inr (.inr 2)), some (.inl x1), none], [], (am_sh, am_mm U))) 2 (fun _ => rfl) (fun hc => ?_) (fun hc => ?_)
          · have h22211 := h2221.1 hc
            subst h22211
            exact ev_end 2 (fun _ => rfl)
          · have h22212 := h2221.2 hc
            refine ev_seg (σ1 := (d, 165, 36, [some (.inr (.inr 2)), some (.inl x1), none], [.inl 1, .inr (.inr 2)], (am_sh, am_mm U))) 2 (fun _ => rfl) ?_
            refine eu_iald 2 (n := 1600) rfl (by decide) rfl (fun _ => rfl) (by decide) ?_
            show Ev kz (d, 165, 37, [some (.inr (.inr 2)), some (.inl x1), none], [.inl (U 2 1)], (am_sh, am_mm U)) R
            refine ev_br (P := 24 < (U 2 1)) (σ1 := (d, 165, 59, [some (.inr (.inr 2)), some (.inl x1), none], [], (am_sh, am_mm U))) (σ2 := (d, 165, 42, [some (.inr (.inr 2)), some (.inl x1), none], [], (am_sh, am_mm U))) 2 (fun _ => rfl) (fun hc => ?_) (fun hc => ?_)
            · have h222121 := h22212.1 hc
              subst h222121
              exact ev_end 2 (fun _ => rfl)
            · have h222122 := h22212.2 hc
              refine ev_seg (σ1 := (d, 165, 46, [some (.inr (.inr 2)), some (.inl x1), none], [.inl 0, .inr (.inr 2), .inl 2, .inl x1], (am_sh, am_mm U))) 4 (fun _ => rfl) ?_
              refine eu_iald 2 (n := 1600) rfl (by decide) rfl (fun _ => rfl) (by decide) ?_
              show Ev kz (d, 165, 47, [some (.inr (.inr 2)), some (.inl x1), none], [.inl (U 2 0), .inl 2, .inl x1], (am_sh, am_mm U)) R
              refine ev_seg (σ1 := (d, 165, 49, [some (.inr (.inr 2)), some (.inl x1), none], [.inl 0, .inr (.inr 2), .inl (U 2 0), .inl 2, .inl x1], (am_sh, am_mm U))) 2 (fun _ => rfl) ?_
              refine eu_iald 2 (n := 1600) rfl (by decide) rfl (fun _ => rfl) (by decide) ?_
              show Ev kz (d, 165, 50, [some (.inr (.inr 2)), some (.inl x1), none], [.inl (U 2 0), .inl (U 2 0), .inl 2, .inl x1], (am_sh, am_mm U)) R
              refine ev_seg (σ1 := (d, 165, 54, [some (.inr (.inr 2)), some (.inl x1), none], [.inl 2, .inl (w32 ((U 2 0) * (w32 ((U 2 0) - 1)))), .inl 2, .inl x1], (am_sh, am_mm U))) 4 (fun _ => rfl) ?_
              refine ev_idiv rfl (by decide) ?_
              refine ev_br (P := x1 = (w32 (2 + (w32 (Int.tdiv (w32 ((U 2 0) * (w32 ((U 2 0) - 1)))) 2))))) (σ1 := (d, 165, 61, [some (.inr (.inr 2)), some (.inl x1), none], [], (am_sh, am_mm U))) (σ2 := (d, 165, 59, [some (.inr (.inr 2)), some (.inl x1), none], [], (am_sh, am_mm U))) 2 (fun _ => rfl) (fun hc => ?_) (fun hc => ?_)
              · have h2221221 := h222122.1 hc
                refine ev_seg (σ1 := (d, 165, 63, [some (.inr (.inr 2)), some (.inl x1), some (.inl 2)], [], (am_sh, am_mm U))) 2 (fun _ => rfl) ?_
                exact h2221221
              · have h2221222 := h222122.2 hc
                subst h2221222
                exact ev_end 2 (fun _ => rfl)
        · have h2222 := h222.2 hc
          subst h2222
          exact ev_end 2 (fun _ => rfl)
set_option maxRecDepth 8000 in
theorem st165_2_63 (kz : am_Z) (d : Nat) (x1 x2 : Int) (U : Nat → Nat → Int) (R : Option am_V × am_M) (h : (((x1 ≤ x2 : Prop)) → R = (some (.inl 1), (am_sh, am_mm U))) ∧ (¬ (x1 ≤ x2) → (0 ≤ x2 ∧ x2 < 1600) ∧ ((((U 2 x2.toNat) ≤ 1 : Prop)) → Ev kz (d, 165, 63, [some (.inr (.inr 2)), some (.inl x1), some (.inl (w32 (x2 + 1)))], [], (am_sh, am_mm U)) R) ∧ (¬ ((U 2 x2.toNat) ≤ 1) → R = (some (.inl 0), (am_sh, am_mm U))))) : Ev kz (d, 165, 63, [some (.inr (.inr 2)), some (.inl x1), some (.inl x2)], [], (am_sh, am_mm U)) R := by
  refine ev_br (P := x1 ≤ x2) (σ1 := (d, 165, 83, [some (.inr (.inr 2)), some (.inl x1), some (.inl x2)], [], (am_sh, am_mm U))) (σ2 := (d, 165, 68, [some (.inr (.inr 2)), some (.inl x1), some (.inl x2)], [], (am_sh, am_mm U))) 3 (fun _ => rfl) (fun hc => ?_) (fun hc => ?_)
  · have h1 := h.1 hc
    subst h1
    exact ev_end 2 (fun _ => rfl)
  · have h2 := h.2 hc
    refine ev_seg (σ1 := (d, 165, 70, [some (.inr (.inr 2)), some (.inl x1), some (.inl x2)], [.inl x2, .inr (.inr 2)], (am_sh, am_mm U))) 2 (fun _ => rfl) ?_
    refine eu_iald 2 (n := 1600) rfl (by decide) rfl (fun _ => rfl) h2.1 ?_
    have h2a := h2.2
    refine ev_br (P := (U 2 x2.toNat) ≤ 1) (σ1 := (d, 165, 77, [some (.inr (.inr 2)), some (.inl x1), some (.inl x2)], [], (am_sh, am_mm U))) (σ2 := (d, 165, 75, [some (.inr (.inr 2)), some (.inl x1), some (.inl x2)], [], (am_sh, am_mm U))) 2 (fun _ => rfl) (fun hc => ?_) (fun hc => ?_)
    · have h2a1 := h2a.1 hc
      refine ev_seg (σ1 := (d, 165, 63, [some (.inr (.inr 2)), some (.inl x1), some (.inl (w32 (x2 + 1)))], [], (am_sh, am_mm U))) 2 (fun _ => rfl) ?_
      exact h2a1
    · have h2a2 := h2a.2 hc
      subst h2a2
      exact ev_end 2 (fun _ => rfl)
set_option maxRecDepth 8000 in
theorem st166_78_2_0 (kz : am_Z) (d : Nat) (U : Nat → Nat → Int) (R : Option am_V × am_M) (h : ∃ U1 : Nat → Nat → Int, Ev kz (d, 241, 0, [some (.inr (.inr 78)), none, none], [], (am_sh, am_mm (am_upd (am_upd (am_upd U 78 3 (U 2 0)) 78 4 (w32 ((am_shl 2 ((am_upd U 78 3 (U 2 0)) 2 1)) - 2))) 78 5 0))) (none, (am_sh, am_mm U1)) ∧ ∃ U2 : Nat → Nat → Int, Ev kz (d, 242, 0, [some (.inr (.inr 78)), some (.inl 0), some (.inr (.inr 2)), none, none, none], [], (am_sh, am_mm U1)) (none, (am_sh, am_mm U2)) ∧ R = (none, (am_sh, am_mm U2))) : Ev kz ((d + 1), 166, 0, [some (.inr (.inr 78)), some (.inr (.inr 2))], [], (am_sh, am_mm U)) R := by
  refine ev_seg (σ1 := ((d + 1), 166, 3, [some (.inr (.inr 78)), some (.inr (.inr 2))], [.inl 0, .inr (.inr 2), .inr (.inr 78)], (am_sh, am_mm U))) 3 (fun _ => rfl) ?_
  refine eu_iald 2 (n := 1600) rfl (by decide) rfl (fun _ => rfl) (by decide) ?_
  show Ev kz ((d + 1), 166, 4, [some (.inr (.inr 78)), some (.inr (.inr 2))], [.inl (U 2 0), .inr (.inr 78)], (am_sh, am_mm U)) R
  refine eu_puti 78 (n := 6) rfl (by decide) rfl rfl ?_
  refine ev_seg (σ1 := ((d + 1), 166, 11, [some (.inr (.inr 78)), some (.inr (.inr 2))], [.inl 1, .inr (.inr 2), .inl 2, .inr (.inr 78)], (am_sh, am_mm (am_upd U 78 3 (U 2 0))))) 4 (fun _ => rfl) ?_
  refine eu_iald 2 (n := 1600) rfl (by decide) rfl (fun _ => rfl) (by decide) ?_
  show Ev kz ((d + 1), 166, 12, [some (.inr (.inr 78)), some (.inr (.inr 2))], [.inl ((am_upd U 78 3 (U 2 0)) 2 1), .inl 2, .inr (.inr 78)], (am_sh, am_mm (am_upd U 78 3 (U 2 0)))) R
  refine ev_seg (σ1 := ((d + 1), 166, 15, [some (.inr (.inr 78)), some (.inr (.inr 2))], [.inl (w32 ((am_shl 2 ((am_upd U 78 3 (U 2 0)) 2 1)) - 2)), .inr (.inr 78)], (am_sh, am_mm (am_upd U 78 3 (U 2 0))))) 3 (fun _ => rfl) ?_
  refine eu_puti 78 (n := 6) rfl (by decide) rfl rfl ?_
  refine ev_seg (σ1 := ((d + 1), 166, 20, [some (.inr (.inr 78)), some (.inr (.inr 2))], [.inl 0, .inr (.inr 78)], (am_sh, am_mm (am_upd (am_upd U 78 3 (U 2 0)) 78 4 (w32 ((am_shl 2 ((am_upd U 78 3 (U 2 0)) 2 1)) - 2)))))) 2 (fun _ => rfl) ?_
  refine eu_puti 78 (n := 6) rfl (by decide) rfl rfl ?_
  refine ev_seg (σ1 := ((d + 1), 166, 24, [some (.inr (.inr 78)), some (.inr (.inr 2))], [.inr (.inr 78)], (am_sh, am_mm (am_upd (am_upd (am_upd U 78 3 (U 2 0)) 78 4 (w32 ((am_shl 2 ((am_upd U 78 3 (U 2 0)) 2 1)) - 2))) 78 5 0)))) 1 (fun _ => rfl) ?_
  obtain ⟨U1, hc, ha⟩ := h
  refine ev_cal (σc := (d, 241, 0, [some (.inr (.inr 78)), none, none], [], (am_sh, am_mm (am_upd (am_upd (am_upd U 78 3 (U 2 0)) 78 4 (w32 ((am_shl 2 ((am_upd U 78 3 (U 2 0)) 2 1)) - 2))) 78 5 0)))) (fun _ => rfl) hc ?_
  show Ev kz ((d + 1), 166, 27, [some (.inr (.inr 78)), some (.inr (.inr 2))], [], (am_sh, am_mm U1)) R
  refine ev_seg (σ1 := ((d + 1), 166, 30, [some (.inr (.inr 78)), some (.inr (.inr 2))], [.inr (.inr 2), .inl 0, .inr (.inr 78)], (am_sh, am_mm U1))) 3 (fun _ => rfl) ?_
  obtain ⟨U2, hac, haa⟩ := ha
  refine ev_cal (σc := (d, 242, 0, [some (.inr (.inr 78)), some (.inl 0), some (.inr (.inr 2)), none, none, none], [], (am_sh, am_mm U1))) (fun _ => rfl) hac ?_
  show Ev kz ((d + 1), 166, 33, [some (.inr (.inr 78)), some (.inr (.inr 2))], [], (am_sh, am_mm U2)) R
  subst haa
  exact ev_end 1 (fun _ => rfl)
set_option maxRecDepth 8000 in
theorem st167_86_0 (kz : am_Z) (d : Nat) (U : Nat → Nat → Int) (R : Option am_V × am_M) (h : Ev kz ((d + 1), 167, 9, [some (.inr (.inr 86)), some (.inl 1), some (.inl 0), none, none], [], (am_sh, am_mm (am_upd U 86 84 0))) R) : Ev kz ((d + 1), 167, 0, [some (.inr (.inr 86)), none, none, none, none], [], (am_sh, am_mm U)) R := by
  refine ev_seg (σ1 := ((d + 1), 167, 2, [some (.inr (.inr 86)), none, none, none, none], [.inl 0, .inr (.inr 86)], (am_sh, am_mm U))) 2 (fun _ => rfl) ?_
  refine eu_puti 86 (n := 90) rfl (by decide) rfl rfl ?_
  refine ev_seg (σ1 := ((d + 1), 167, 9, [some (.inr (.inr 86)), some (.inl 1), some (.inl 0), none, none], [], (am_sh, am_mm (am_upd U 86 84 0)))) 4 (fun _ => rfl) ?_
  exact h
set_option maxRecDepth 8000 in
theorem st167_86_9 (kz : am_Z) (d : Nat) (x1 x2 : Int) (U : Nat → Nat → Int) (R : Option am_V × am_M) (h : ((((U 86 82) ≤ x2 : Prop)) → Ev kz ((d + 1), 167, 32, [some (.inr (.inr 86)), some (.inl x1), some (.inl 0), none, none], [], (am_sh, am_mm U)) R) ∧ (¬ ((U 86 82) ≤ x2) → Ev kz ((d + 1), 167, 9, [some (.inr (.inr 86)), some (.inl (w32 (x1 * (U 86 83)))), some (.inl (w32 (x2 + 1))), none, none], [], (am_sh, am_mm U)) R)) : Ev kz ((d + 1), 167, 9, [some (.inr (.inr 86)), some (.inl x1), some (.inl x2), none, none], [], (am_sh, am_mm U)) R := by
  refine ev_br (P := (U 86 82) ≤ x2) (σ1 := ((d + 1), 167, 30, [some (.inr (.inr 86)), some (.inl x1), some (.inl x2), none, none], [], (am_sh, am_mm U))) (σ2 := ((d + 1), 167, 17, [some (.inr (.inr 86)), some (.inl x1), some (.inl x2), none, none], [], (am_sh, am_mm U))) 4 (fun _ => rfl) (fun hc => ?_) (fun hc => ?_)
  · have h1 := h.1 hc
    refine ev_seg (σ1 := ((d + 1), 167, 32, [some (.inr (.inr 86)), some (.inl x1), some (.inl 0), none, none], [], (am_sh, am_mm U))) 2 (fun _ => rfl) ?_
    exact h1
  · have h2 := h.2 hc
    refine ev_seg (σ1 := ((d + 1), 167, 9, [some (.inr (.inr 86)), some (.inl (w32 (x1 * (U 86 83)))), some (.inl (w32 (x2 + 1))), none, none], [], (am_sh, am_mm U))) 7 (fun _ => rfl) ?_
    exact h2
set_option maxRecDepth 8000 in
theorem st167_86_32 (kz : am_Z) (d : Nat) (x1 x2 : Int) (U : Nat → Nat → Int) (R : Option am_V × am_M) (h : (((x1 ≤ x2 : Prop)) → R = (none, (am_sh, am_mm U))) ∧ (¬ (x1 ≤ x2) → Ev kz ((d + 1), 167, 47, [some (.inr (.inr 86)), some (.inl x1), some (.inl x2), some (.inl x2), some (.inl (w32 ((U 86 82) - 1)))], [], (am_sh, am_mm U)) R)) : Ev kz ((d + 1), 167, 32, [some (.inr (.inr 86)), some (.inl x1), some (.inl x2), none, none], [], (am_sh, am_mm U)) R := by
  refine ev_br (P := x1 ≤ x2) (σ1 := ((d + 1), 167, 145, [some (.inr (.inr 86)), some (.inl x1), some (.inl x2), none, none], [], (am_sh, am_mm U))) (σ2 := ((d + 1), 167, 37, [some (.inr (.inr 86)), some (.inl x1), some (.inl x2), none, none], [], (am_sh, am_mm U))) 3 (fun _ => rfl) (fun hc => ?_) (fun hc => ?_)
  · have h1 := h.1 hc
    subst h1
    exact ev_end 1 (fun _ => rfl)
  · have h2 := h.2 hc
    refine ev_seg (σ1 := ((d + 1), 167, 47, [some (.inr (.inr 86)), some (.inl x1), some (.inl x2), some (.inl x2), some (.inl (w32 ((U 86 82) - 1)))], [], (am_sh, am_mm U))) 7 (fun _ => rfl) ?_
    exact h2
set_option maxRecDepth 8000 in
theorem st167_86_47 (kz : am_Z) (d : Nat) (x1 x2 x3 x4 : Int) (U : Nat → Nat → Int) (R : Option am_V × am_M) (h : (((x4 < 0 : Prop)) → ∃ (r1 : Int) (U1 : Nat → Nat → Int), Ev kz (d, 243, 0, [some (.inr (.inr 86)), none, none, none], [], (am_sh, am_mm U)) (some (.inl r1), (am_sh, am_mm U1)) ∧ (((¬ r1 = 0 : Prop)) → Ev kz ((d + 1), 167, 93, [some (.inr (.inr 86)), some (.inl x1), some (.inl x2), some (.inl x3), some (.inl 0)], [], (am_sh, am_mm U1)) R) ∧ (¬ (¬ r1 = 0) → Ev kz ((d + 1), 167, 32, [some (.inr (.inr 86)), some (.inl x1), some (.inl (w32 (x2 + 1))), some (.inl x3), some (.inl x4)], [], (am_sh, am_mm U1)) R)) ∧ (¬ (x4 < 0) → (U 86 83) ≠ 0 ∧ (0 ≤ x4 ∧ x4 < 4) ∧ ((am_upd U 136 x4.toNat (w32 (1 + (Int.tmod x3 (U 86 83))))) 86 83) ≠ 0 ∧ Ev kz ((d + 1), 167, 47, [some (.inr (.inr 86)), some (.inl x1), some (.inl x2), some (.inl (w32 (Int.tdiv x3 ((am_upd U 136 x4.toNat (w32 (1 + (Int.tmod x3 (U 86 83))))) 86 83)))), some (.inl (w32 (x4 + (-1))))], [], (am_sh, am_mm (am_upd U 136 x4.toNat (w32 (1 + (Int.tmod x3 (U 86 83))))))) R)) : Ev kz ((d + 1), 167, 47, [some (.inr (.inr 86)), some (.inl x1), some (.inl x2), some (.inl x3), some (.inl x4)], [], (am_sh, am_mm U)) R := by
  refine ev_br (P := x4 < 0) (σ1 := ((d + 1), 167, 80, [some (.inr (.inr 86)), some (.inl x1), some (.inl x2), some (.inl x3), some (.inl x4)], [], (am_sh, am_mm U))) (σ2 := ((d + 1), 167, 52, [some (.inr (.inr 86)), some (.inl x1), some (.inl x2), some (.inl x3), some (.inl x4)], [], (am_sh, am_mm U))) 2 (fun _ => rfl) (fun hc => ?_) (fun hc => ?_)
  · have h1 := h.1 hc
    refine ev_seg (σ1 := ((d + 1), 167, 81, [some (.inr (.inr 86)), some (.inl x1), some (.inl x2), some (.inl x3), some (.inl x4)], [.inr (.inr 86)], (am_sh, am_mm U))) 1 (fun _ => rfl) ?_
    obtain ⟨r1, U1, h1c, h1a⟩ := h1
    refine ev_cal (σc := (d, 243, 0, [some (.inr (.inr 86)), none, none, none], [], (am_sh, am_mm U))) (fun _ => rfl) h1c ?_
    show Ev kz ((d + 1), 167, 84, [some (.inr (.inr 86)), some (.inl x1), some (.inl x2), some (.inl x3), some (.inl x4)], [.inl r1], (am_sh, am_mm U1)) R
    refine ev_br (P := ¬ r1 = 0) (σ1 := ((d + 1), 167, 90, [some (.inr (.inr 86)), some (.inl x1), some (.inl x2), some (.inl x3), some (.inl x4)], [], (am_sh, am_mm U1))) (σ2 := ((d + 1), 167, 87, [some (.inr (.inr 86)), some (.inl x1), some (.inl x2), some (.inl x3), some (.inl x4)], [], (am_sh, am_mm U1))) 1 (fun _ => rfl) (fun hc => ?_) (fun hc => ?_)
    · have h1a1 := h1a.1 hc
      refine ev_seg (σ1 := ((d + 1), 167, 93, [some (.inr (.inr 86)), some (.inl x1), some (.inl x2), some (.inl x3), some (.inl 0)], [], (am_sh, am_mm U1))) 2 (fun _ => rfl) ?_
      exact h1a1
    · have h1a2 := h1a.2 hc
      refine ev_seg (σ1 := ((d + 1), 167, 32, [some (.inr (.inr 86)), some (.inl x1), some (.inl (w32 (x2 + 1))), some (.inl x3), some (.inl x4)], [], (am_sh, am_mm U1))) 3 (fun _ => rfl) ?_
      exact h1a2
  · have h2 := h.2 hc
    refine ev_seg (σ1 := ((d + 1), 167, 64, [some (.inr (.inr 86)), some (.inl x1), some (.inl x2), some (.inl x3), some (.inl x4)], [.inl (U 86 83), .inl x3, .inl 1, .inl x4, .inr (.inr 136)], (am_sh, am_mm U))) 7 (fun _ => rfl) ?_
    refine ev_irem rfl h2.1 ?_
    have h2a := h2.2
    refine ev_seg (σ1 := ((d + 1), 167, 66, [some (.inr (.inr 86)), some (.inl x1), some (.inl x2), some (.inl x3), some (.inl x4)], [.inl (w32 (1 + (Int.tmod x3 (U 86 83)))), .inl x4, .inr (.inr 136)], (am_sh, am_mm U))) 1 (fun _ => rfl) ?_
    refine eu_iast 136 (n := 4) rfl (by decide) rfl (fun _ => rfl) h2a.1 ?_
    have h2aa := h2a.2
    refine ev_seg (σ1 := ((d + 1), 167, 72, [some (.inr (.inr 86)), some (.inl x1), some (.inl x2), some (.inl x3), some (.inl x4)], [.inl ((am_upd U 136 x4.toNat (w32 (1 + (Int.tmod x3 (U 86 83))))) 86 83), .inl x3], (am_sh, am_mm (am_upd U 136 x4.toNat (w32 (1 + (Int.tmod x3 (U 86 83)))))))) 3 (fun _ => rfl) ?_
    refine ev_idiv rfl h2aa.1 ?_
    have h2aaa := h2aa.2
    refine ev_seg (σ1 := ((d + 1), 167, 47, [some (.inr (.inr 86)), some (.inl x1), some (.inl x2), some (.inl (w32 (Int.tdiv x3 ((am_upd U 136 x4.toNat (w32 (1 + (Int.tmod x3 (U 86 83))))) 86 83)))), some (.inl (w32 (x4 + (-1))))], [], (am_sh, am_mm (am_upd U 136 x4.toNat (w32 (1 + (Int.tmod x3 (U 86 83)))))))) 3 (fun _ => rfl) ?_
    exact h2aaa
set_option maxRecDepth 8000 in
theorem st167_86_93 (kz : am_Z) (d : Nat) (x1 x2 x3 x4 : Int) (U : Nat → Nat → Int) (R : Option am_V × am_M) (h : ((((U 86 82) ≤ x4 : Prop)) → Ev kz ((d + 1), 167, 32, [some (.inr (.inr 86)), some (.inl x1), some (.inl (w32 (x2 + 1))), some (.inl x3), some (.inl x4)], [], (am_sh, am_mm (am_upd U 86 84 (w32 ((U 86 84) + 1))))) R) ∧ (¬ ((U 86 82) ≤ x4) → (((¬ (U 86 84) = 0 : Prop)) → Ev kz ((d + 1), 167, 32, [some (.inr (.inr 86)), some (.inl x1), some (.inl (w32 (x2 + 1))), some (.inl x3), some (.inl x4)], [], (am_sh, am_mm (am_upd U 86 84 (w32 ((U 86 84) + 1))))) R) ∧ (¬ (¬ (U 86 84) = 0) → (0 ≤ x4 ∧ x4 < 4) ∧ (0 ≤ x4 ∧ x4 < 4) ∧ Ev kz ((d + 1), 167, 93, [some (.inr (.inr 86)), some (.inl x1), some (.inl x2), some (.inl x3), some (.inl (w32 (x4 + 1)))], [], (am_sh, am_mm (am_upd U 137 x4.toNat (U 136 x4.toNat)))) R))) : Ev kz ((d + 1), 167, 93, [some (.inr (.inr 86)), some (.inl x1), some (.inl x2), some (.inl x3), some (.inl x4)], [], (am_sh, am_mm U)) R := by
  refine ev_br (P := (U 86 82) ≤ x4) (σ1 := ((d + 1), 167, 129, [some (.inr (.inr 86)), some (.inl x1), some (.inl x2), some (.inl x3), some (.inl x4)], [], (am_sh, am_mm U))) (σ2 := ((d + 1), 167, 102, [some (.inr (.inr 86)), some (.inl x1), some (.inl x2), some (.inl x3), some (.inl x4)], [], (am_sh, am_mm U))) 4 (fun _ => rfl) (fun hc => ?_) (fun hc => ?_)
  · have h1 := h.1 hc
    refine ev_seg (σ1 := ((d + 1), 167, 136, [some (.inr (.inr 86)), some (.inl x1), some (.inl x2), some (.inl x3), some (.inl x4)], [.inl (w32 ((U 86 84) + 1)), .inr (.inr 86)], (am_sh, am_mm U))) 5 (fun _ => rfl) ?_
    refine eu_puti 86 (n := 90) rfl (by decide) rfl rfl ?_
    refine ev_seg (σ1 := ((d + 1), 167, 32, [some (.inr (.inr 86)), some (.inl x1), some (.inl (w32 (x2 + 1))), some (.inl x3), some (.inl x4)], [], (am_sh, am_mm (am_upd U 86 84 (w32 ((U 86 84) + 1)))))) 2 (fun _ => rfl) ?_
    exact h1
  · have h2 := h.2 hc
    refine ev_br (P := ¬ (U 86 84) = 0) (σ1 := ((d + 1), 167, 129, [some (.inr (.inr 86)), some (.inl x1), some (.inl x2), some (.inl x3), some (.inl x4)], [], (am_sh, am_mm U))) (σ2 := ((d + 1), 167, 109, [some (.inr (.inr 86)), some (.inl x1), some (.inl x2), some (.inl x3), some (.inl x4)], [], (am_sh, am_mm U))) 3 (fun _ => rfl) (fun hc => ?_) (fun hc => ?_)
    · have h21 := h2.1 hc
      refine ev_seg (σ1 := ((d + 1), 167, 136, [some (.inr (.inr 86)), some (.inl x1), some (.inl x2), some (.inl x3), some (.inl x4)], [.inl (w32 ((U 86 84) + 1)), .inr (.inr 86)], (am_sh, am_mm U))) 5 (fun _ => rfl) ?_
      refine eu_puti 86 (n := 90) rfl (by decide) rfl rfl ?_
      refine ev_seg (σ1 := ((d + 1), 167, 32, [some (.inr (.inr 86)), some (.inl x1), some (.inl (w32 (x2 + 1))), some (.inl x3), some (.inl x4)], [], (am_sh, am_mm (am_upd U 86 84 (w32 ((U 86 84) + 1)))))) 2 (fun _ => rfl) ?_
      exact h21
    · have h22 := h2.2 hc
      refine ev_seg (σ1 := ((d + 1), 167, 121, [some (.inr (.inr 86)), some (.inl x1), some (.inl x2), some (.inl x3), some (.inl x4)], [.inl x4, .inr (.inr 136), .inl x4, .inr (.inr 137)], (am_sh, am_mm U))) 6 (fun _ => rfl) ?_
      refine eu_iald 136 (n := 4) rfl (by decide) rfl (fun _ => rfl) h22.1 ?_
      have h22a := h22.2
      refine eu_iast 137 (n := 4) rfl (by decide) rfl (fun _ => rfl) h22a.1 ?_
      have h22aa := h22a.2
      refine ev_seg (σ1 := ((d + 1), 167, 93, [some (.inr (.inr 86)), some (.inl x1), some (.inl x2), some (.inl x3), some (.inl (w32 (x4 + 1)))], [], (am_sh, am_mm (am_upd U 137 x4.toNat (U 136 x4.toNat))))) 2 (fun _ => rfl) ?_
      exact h22aa
set_option maxRecDepth 8000 in
theorem st168_78_0 (kz : am_Z) (d : Nat) (x1 : Int) (U : Nat → Nat → Int) (R : Option am_V × am_M) (h : ((((U 78 5) ≤ 0 : Prop)) → R = (some (.inl (-1)), (am_sh, am_mm U))) ∧ (¬ ((U 78 5) ≤ 0) → (((x1 < 0 : Prop)) → R = (some (.inl (-1)), (am_sh, am_mm U))) ∧ (¬ (x1 < 0) → ((((U 78 3) ≤ x1 : Prop)) → R = (some (.inl (-1)), (am_sh, am_mm U))) ∧ (¬ ((U 78 3) ≤ x1) → (0 ≤ x1 ∧ x1 < 4) ∧ R = (some (.inl (U 81 x1.toNat)), (am_sh, am_mm U)))))) : Ev kz (d, 168, 0, [some (.inr (.inr 78)), some (.inl x1)], [], (am_sh, am_mm U)) R := by
  refine ev_br (P := (U 78 5) ≤ 0) (σ1 := (d, 168, 28, [some (.inr (.inr 78)), some (.inl x1)], [], (am_sh, am_mm U))) (σ2 := (d, 168, 7, [some (.inr (.inr 78)), some (.inl x1)], [], (am_sh, am_mm U))) 3 (fun _ => rfl) (fun hc => ?_) (fun hc => ?_)
  · have h1 := h.1 hc
    subst h1
    exact ev_end 2 (fun _ => rfl)
  · have h2 := h.2 hc
    refine ev_br (P := x1 < 0) (σ1 := (d, 168, 28, [some (.inr (.inr 78)), some (.inl x1)], [], (am_sh, am_mm U))) (σ2 := (d, 168, 11, [some (.inr (.inr 78)), some (.inl x1)], [], (am_sh, am_mm U))) 2 (fun _ => rfl) (fun hc => ?_) (fun hc => ?_)
    · have h21 := h2.1 hc
      subst h21
      exact ev_end 2 (fun _ => rfl)
    · have h22 := h2.2 hc
      refine ev_br (P := (U 78 3) ≤ x1) (σ1 := (d, 168, 28, [some (.inr (.inr 78)), some (.inl x1)], [], (am_sh, am_mm U))) (σ2 := (d, 168, 19, [some (.inr (.inr 78)), some (.inl x1)], [], (am_sh, am_mm U))) 4 (fun _ => rfl) (fun hc => ?_) (fun hc => ?_)
      · have h221 := h22.1 hc
        subst h221
        exact ev_end 2 (fun _ => rfl)
      · have h222 := h22.2 hc
        refine ev_seg (σ1 := (d, 168, 24, [some (.inr (.inr 78)), some (.inl x1)], [.inl x1, .inr (.inr 81)], (am_sh, am_mm U))) 3 (fun _ => rfl) ?_
        refine eu_iald 81 (n := 4) rfl (by decide) rfl (fun _ => rfl) h222.1 ?_
        have h222a := h222.2
        subst h222a
        exact ev_end 2 (fun _ => rfl)
set_option maxRecDepth 8000 in
theorem st169_16_84_0 (kz : am_Z) (d : Nat) (U : Nat → Nat → Int) (R : Option am_V × am_M) (h : ((((w32 (5 + (w32 (5 * (U 16 0))))) ≤ 85 : Prop)) → (((((am_upd (am_upd U 84 0 (am_shr (U 16 1) 8)) 84 1 (am_and ((am_upd U 84 0 (am_shr (U 16 1) 8)) 16 1) 255)) 16 2) = 0 : Prop)) → Ev kz ((d + 1), 169, 62, [some (.inr (.inr 16)), some (.inr (.inr 84)), some (.inl (w32 (5 + (w32 (5 * (U 16 0)))))), some (.inl 0), none], [], (am_sh, am_mm (am_upd (am_upd (am_upd (am_upd U 84 0 (am_shr (U 16 1) 8)) 84 1 (am_and ((am_upd U 84 0 (am_shr (U 16 1) 8)) 16 1) 255)) 84 2 0) 84 3 ((am_upd (am_upd (am_upd U 84 0 (am_shr (U 16 1) 8)) 84 1 (am_and ((am_upd U 84 0 (am_shr (U 16 1) 8)) 16 1) 255)) 84 2 0) 16 0)))) R) ∧ (¬ (((am_upd (am_upd U 84 0 (am_shr (U 16 1) 8)) 84 1 (am_and ((am_upd U 84 0 (am_shr (U 16 1) 8)) 16 1) 255)) 16 2) = 0) → Ev kz ((d + 1), 169, 62, [some (.inr (.inr 16)), some (.inr (.inr 84)), some (.inl (w32 (5 + (w32 (5 * (U 16 0)))))), some (.inl 0), none], [], (am_sh, am_mm (am_upd (am_upd (am_upd (am_upd U 84 0 (am_shr (U 16 1) 8)) 84 1 (am_and ((am_upd U 84 0 (am_shr (U 16 1) 8)) 16 1) 255)) 84 2 1) 84 3 ((am_upd (am_upd (am_upd U 84 0 (am_shr (U 16 1) 8)) 84 1 (am_and ((am_upd U 84 0 (am_shr (U 16 1) 8)) 16 1) 255)) 84 2 1) 16 0)))) R)) ∧ (¬ ((w32 (5 + (w32 (5 * (U 16 0))))) ≤ 85) → R = (some (.inl 0), (am_sh, am_mm U)))) : Ev kz ((d + 1), 169, 0, [some (.inr (.inr 16)), some (.inr (.inr 84)), none, none, none], [], (am_sh, am_mm U)) R := by
  refine ev_br (P := (w32 (5 + (w32 (5 * (U 16 0))))) ≤ 85) (σ1 := ((d + 1), 169, 17, [some (.inr (.inr 16)), some (.inr (.inr 84)), some (.inl (w32 (5 + (w32 (5 * (U 16 0)))))), none, none], [], (am_sh, am_mm U))) (σ2 := ((d + 1), 169, 15, [some (.inr (.inr 16)), some (.inr (.inr 84)), some (.inl (w32 (5 + (w32 (5 * (U 16 0)))))), none, none], [], (am_sh, am_mm U))) 11 (fun _ => rfl) (fun hc => ?_) (fun hc => ?_)
  · have h1 := h.1 hc
    refine ev_seg (σ1 := ((d + 1), 169, 26, [some (.inr (.inr 16)), some (.inr (.inr 84)), some (.inl (w32 (5 + (w32 (5 * (U 16 0)))))), none, none], [.inl (am_shr (U 16 1) 8), .inl 0, .inr (.inr 84)], (am_sh, am_mm U))) 6 (fun _ => rfl) ?_
    refine eu_iast 84 (n := 85) rfl (by decide) rfl (fun _ => rfl) (by decide) ?_
    show Ev kz ((d + 1), 169, 27, [some (.inr (.inr 16)), some (.inr (.inr 84)), some (.inl (w32 (5 + (w32 (5 * (U 16 0)))))), none, none], [], (am_sh, am_mm (am_upd U 84 0 (am_shr (U 16 1) 8)))) R
    refine ev_seg (σ1 := ((d + 1), 169, 37, [some (.inr (.inr 16)), some (.inr (.inr 84)), some (.inl (w32 (5 + (w32 (5 * (U 16 0)))))), none, none], [.inl (am_and ((am_upd U 84 0 (am_shr (U 16 1) 8)) 16 1) 255), .inl 1, .inr (.inr 84)], (am_sh, am_mm (am_upd U 84 0 (am_shr (U 16 1) 8))))) 6 (fun _ => rfl) ?_
    refine eu_iast 84 (n := 85) rfl (by decide) rfl (fun _ => rfl) (by decide) ?_
    show Ev kz ((d + 1), 169, 38, [some (.inr (.inr 16)), some (.inr (.inr 84)), some (.inl (w32 (5 + (w32 (5 * (U 16 0)))))), none, none], [], (am_sh, am_mm (am_upd (am_upd U 84 0 (am_shr (U 16 1) 8)) 84 1 (am_and ((am_upd U 84 0 (am_shr (U 16 1) 8)) 16 1) 255)))) R
    refine ev_br (P := ((am_upd (am_upd U 84 0 (am_shr (U 16 1) 8)) 84 1 (am_and ((am_upd U 84 0 (am_shr (U 16 1) 8)) 16 1) 255)) 16 2) = 0) (σ1 := ((d + 1), 169, 51, [some (.inr (.inr 16)), some (.inr (.inr 84)), some (.inl (w32 (5 + (w32 (5 * (U 16 0)))))), none, none], [.inl 2, .inr (.inr 84)], (am_sh, am_mm (am_upd (am_upd U 84 0 (am_shr (U 16 1) 8)) 84 1 (am_and ((am_upd U 84 0 (am_shr (U 16 1) 8)) 16 1) 255))))) (σ2 := ((d + 1), 169, 47, [some (.inr (.inr 16)), some (.inr (.inr 84)), some (.inl (w32 (5 + (w32 (5 * (U 16 0)))))), none, none], [.inl 2, .inr (.inr 84)], (am_sh, am_mm (am_upd (am_upd U 84 0 (am_shr (U 16 1) 8)) 84 1 (am_and ((am_upd U 84 0 (am_shr (U 16 1) 8)) 16 1) 255))))) 5 (fun _ => rfl) (fun hc => ?_) (fun hc => ?_)
    · have h11 := h1.1 hc
      refine ev_seg (σ1 := ((d + 1), 169, 52, [some (.inr (.inr 16)), some (.inr (.inr 84)), some (.inl (w32 (5 + (w32 (5 * (U 16 0)))))), none, none], [.inl 0, .inl 2, .inr (.inr 84)], (am_sh, am_mm (am_upd (am_upd U 84 0 (am_shr (U 16 1) 8)) 84 1 (am_and ((am_upd U 84 0 (am_shr (U 16 1) 8)) 16 1) 255))))) 1 (fun _ => rfl) ?_
      refine eu_iast 84 (n := 85) rfl (by decide) rfl (fun _ => rfl) (by decide) ?_
      show Ev kz ((d + 1), 169, 53, [some (.inr (.inr 16)), some (.inr (.inr 84)), some (.inl (w32 (5 + (w32 (5 * (U 16 0)))))), none, none], [], (am_sh, am_mm (am_upd (am_upd (am_upd U 84 0 (am_shr (U 16 1) 8)) 84 1 (am_and ((am_upd U 84 0 (am_shr (U 16 1) 8)) 16 1) 255)) 84 2 0))) R
      refine ev_seg (σ1 := ((d + 1), 169, 59, [some (.inr (.inr 16)), some (.inr (.inr 84)), some (.inl (w32 (5 + (w32 (5 * (U 16 0)))))), none, none], [.inl ((am_upd (am_upd (am_upd U 84 0 (am_shr (U 16 1) 8)) 84 1 (am_and ((am_upd U 84 0 (am_shr (U 16 1) 8)) 16 1) 255)) 84 2 0) 16 0), .inl 3, .inr (.inr 84)], (am_sh, am_mm (am_upd (am_upd (am_upd U 84 0 (am_shr (U 16 1) 8)) 84 1 (am_and ((am_upd U 84 0 (am_shr (U 16 1) 8)) 16 1) 255)) 84 2 0)))) 4 (fun _ => rfl) ?_
      refine eu_iast 84 (n := 85) rfl (by decide) rfl (fun _ => rfl) (by decide) ?_
      show Ev kz ((d + 1), 169, 60, [some (.inr (.inr 16)), some (.inr (.inr 84)), some (.inl (w32 (5 + (w32 (5 * (U 16 0)))))), none, none], [], (am_sh, am_mm (am_upd (am_upd (am_upd (am_upd U 84 0 (am_shr (U 16 1) 8)) 84 1 (am_and ((am_upd U 84 0 (am_shr (U 16 1) 8)) 16 1) 255)) 84 2 0) 84 3 ((am_upd (am_upd (am_upd U 84 0 (am_shr (U 16 1) 8)) 84 1 (am_and ((am_upd U 84 0 (am_shr (U 16 1) 8)) 16 1) 255)) 84 2 0) 16 0)))) R
      refine ev_seg (σ1 := ((d + 1), 169, 62, [some (.inr (.inr 16)), some (.inr (.inr 84)), some (.inl (w32 (5 + (w32 (5 * (U 16 0)))))), some (.inl 0), none], [], (am_sh, am_mm (am_upd (am_upd (am_upd (am_upd U 84 0 (am_shr (U 16 1) 8)) 84 1 (am_and ((am_upd U 84 0 (am_shr (U 16 1) 8)) 16 1) 255)) 84 2 0) 84 3 ((am_upd (am_upd (am_upd U 84 0 (am_shr (U 16 1) 8)) 84 1 (am_and ((am_upd U 84 0 (am_shr (U 16 1) 8)) 16 1) 255)) 84 2 0) 16 0))))) 2 (fun _ => rfl) ?_
      exact h11
    · have h12 := h1.2 hc
      refine ev_seg (σ1 := ((d + 1), 169, 52, [some (.inr (.inr 16)), some (.inr (.inr 84)), some (.inl (w32 (5 + (w32 (5 * (U 16 0)))))), none, none], [.inl 1, .inl 2, .inr (.inr 84)], (am_sh, am_mm (am_upd (am_upd U 84 0 (am_shr (U 16 1) 8)) 84 1 (am_and ((am_upd U 84 0 (am_shr (U 16 1) 8)) 16 1) 255))))) 2 (fun _ => rfl) ?_
      refine eu_iast 84 (n := 85) rfl (by decide) rfl (fun _ => rfl) (by decide) ?_
      show Ev kz ((d + 1), 169, 53, [some (.inr (.inr 16)), some (.inr (.inr 84)), some (.inl (w32 (5 + (w32 (5 * (U 16 0)))))), none, none], [], (am_sh, am_mm (am_upd (am_upd (am_upd U 84 0 (am_shr (U 16 1) 8)) 84 1 (am_and ((am_upd U 84 0 (am_shr (U 16 1) 8)) 16 1) 255)) 84 2 1))) R
      refine ev_seg (σ1 := ((d + 1), 169, 59, [some (.inr (.inr 16)), some (.inr (.inr 84)), some (.inl (w32 (5 + (w32 (5 * (U 16 0)))))), none, none], [.inl ((am_upd (am_upd (am_upd U 84 0 (am_shr (U 16 1) 8)) 84 1 (am_and ((am_upd U 84 0 (am_shr (U 16 1) 8)) 16 1) 255)) 84 2 1) 16 0), .inl 3, .inr (.inr 84)], (am_sh, am_mm (am_upd (am_upd (am_upd U 84 0 (am_shr (U 16 1) 8)) 84 1 (am_and ((am_upd U 84 0 (am_shr (U 16 1) 8)) 16 1) 255)) 84 2 1)))) 4 (fun _ => rfl) ?_
      refine eu_iast 84 (n := 85) rfl (by decide) rfl (fun _ => rfl) (by decide) ?_
      show Ev kz ((d + 1), 169, 60, [some (.inr (.inr 16)), some (.inr (.inr 84)), some (.inl (w32 (5 + (w32 (5 * (U 16 0)))))), none, none], [], (am_sh, am_mm (am_upd (am_upd (am_upd (am_upd U 84 0 (am_shr (U 16 1) 8)) 84 1 (am_and ((am_upd U 84 0 (am_shr (U 16 1) 8)) 16 1) 255)) 84 2 1) 84 3 ((am_upd (am_upd (am_upd U 84 0 (am_shr (U 16 1) 8)) 84 1 (am_and ((am_upd U 84 0 (am_shr (U 16 1) 8)) 16 1) 255)) 84 2 1) 16 0)))) R
      refine ev_seg (σ1 := ((d + 1), 169, 62, [some (.inr (.inr 16)), some (.inr (.inr 84)), some (.inl (w32 (5 + (w32 (5 * (U 16 0)))))), some (.inl 0), none], [], (am_sh, am_mm (am_upd (am_upd (am_upd (am_upd U 84 0 (am_shr (U 16 1) 8)) 84 1 (am_and ((am_upd U 84 0 (am_shr (U 16 1) 8)) 16 1) 255)) 84 2 1) 84 3 ((am_upd (am_upd (am_upd U 84 0 (am_shr (U 16 1) 8)) 84 1 (am_and ((am_upd U 84 0 (am_shr (U 16 1) 8)) 16 1) 255)) 84 2 1) 16 0))))) 2 (fun _ => rfl) ?_
      exact h12
  · have h2 := h.2 hc
    subst h2
    exact ev_end 2 (fun _ => rfl)
set_option maxRecDepth 8000 in
theorem st169_16_84_62 (kz : am_Z) (d : Nat) (x2 x3 : Int) (U : Nat → Nat → Int) (R : Option am_V × am_M) (h : ((((U 16 0) ≤ x3 : Prop)) → ∃ (r1 : Int) (U1 : Nat → Nat → Int), Ev kz (d, 244, 0, [some (.inr (.inr 84)), some (.inl (w32 (x2 - 1))), none, none], [], (am_sh, am_mm U)) (some (.inl r1), (am_sh, am_mm U1)) ∧ (0 ≤ (w32 (x2 - 1)) ∧ (w32 (x2 - 1)) < 85) ∧ R = (some (.inl x2), (am_sh, am_mm (am_upd U1 84 (w32 (x2 - 1)).toNat r1)))) ∧ (¬ ((U 16 0) ≤ x3) → (0 ≤ x3 ∧ x3 < 16) ∧ (0 ≤ (w32 (4 + (w32 (5 * x3)))) ∧ (w32 (4 + (w32 (5 * x3)))) < 85) ∧ (0 ≤ x3 ∧ x3 < 16) ∧ (0 ≤ (w32 ((w32 (4 + (w32 (5 * x3)))) + 1)) ∧ (w32 ((w32 (4 + (w32 (5 * x3)))) + 1)) < 85) ∧ (0 ≤ x3 ∧ x3 < 16) ∧ (0 ≤ (w32 ((w32 (4 + (w32 (5 * x3)))) + 2)) ∧ (w32 ((w32 (4 + (w32 (5 * x3)))) + 2)) < 85) ∧ (0 ≤ x3 ∧ x3 < 16) ∧ (0 ≤ (w32 ((w32 (4 + (w32 (5 * x3)))) + 3)) ∧ (w32 ((w32 (4 + (w32 (5 * x3)))) + 3)) < 85) ∧ (0 ≤ x3 ∧ x3 < 16) ∧ (0 ≤ (w32 ((w32 (4 + (w32 (5 * x3)))) + 4)) ∧ (w32 ((w32 (4 + (w32 (5 * x3)))) + 4)) < 85) ∧ Ev kz ((d + 1), 169, 62, [some (.inr (.inr 16)), some (.inr (.inr 84)), some (.inl x2), some (.inl (w32 (x3 + 1))), some (.inl (w32 (4 + (w32 (5 * x3)))))], [], (am_sh, am_mm (am_upd (am_upd (am_upd (am_upd (am_upd U 84 (w32 (4 + (w32 (5 * x3)))).toNat (am_ushr (U 17 x3.toNat) 24)) 84 (w32 ((w32 (4 + (w32 (5 * x3)))) + 1)).toNat (am_and (am_shr ((am_upd U 84 (w32 (4 + (w32 (5 * x3)))).toNat (am_ushr (U 17 x3.toNat) 24)) 17 x3.toNat) 16) 255)) 84 (w32 ((w32 (4 + (w32 (5 * x3)))) + 2)).toNat (am_and (am_shr ((am_upd (am_upd U 84 (w32 (4 + (w32 (5 * x3)))).toNat (am_ushr (U 17 x3.toNat) 24)) 84 (w32 ((w32 (4 + (w32 (5 * x3)))) + 1)).toNat (am_and (am_shr ((am_upd U 84 (w32 (4 + (w32 (5 * x3)))).toNat (am_ushr (U 17 x3.toNat) 24)) 17 x3.toNat) 16) 255)) 17 x3.toNat) 8) 255)) 84 (w32 ((w32 (4 + (w32 (5 * x3)))) + 3)).toNat (am_and ((am_upd (am_upd (am_upd U 84 (w32 (4 + (w32 (5 * x3)))).toNat (am_ushr (U 17 x3.toNat) 24)) 84 (w32 ((w32 (4 + (w32 (5 * x3)))) + 1)).toNat (am_and (am_shr ((am_upd U 84 (w32 (4 + (w32 (5 * x3)))).toNat (am_ushr (U 17 x3.toNat) 24)) 17 x3.toNat) 16) 255)) 84 (w32 ((w32 (4 + (w32 (5 * x3)))) + 2)).toNat (am_and (am_shr ((am_upd (am_upd U 84 (w32 (4 + (w32 (5 * x3)))).toNat (am_ushr (U 17 x3.toNat) 24)) 84 (w32 ((w32 (4 + (w32 (5 * x3)))) + 1)).toNat (am_and (am_shr ((am_upd U 84 (w32 (4 + (w32 (5 * x3)))).toNat (am_ushr (U 17 x3.toNat) 24)) 17 x3.toNat) 16) 255)) 17 x3.toNat) 8) 255)) 17 x3.toNat) 255)) 84 (w32 ((w32 (4 + (w32 (5 * x3)))) + 4)).toNat (w32 (((am_upd (am_upd (am_upd (am_upd U 84 (w32 (4 + (w32 (5 * x3)))).toNat (am_ushr (U 17 x3.toNat) 24)) 84 (w32 ((w32 (4 + (w32 (5 * x3)))) + 1)).toNat (am_and (am_shr ((am_upd U 84 (w32 (4 + (w32 (5 * x3)))).toNat (am_ushr (U 17 x3.toNat) 24)) 17 x3.toNat) 16) 255)) 84 (w32 ((w32 (4 + (w32 (5 * x3)))) + 2)).toNat (am_and (am_shr ((am_upd (am_upd U 84 (w32 (4 + (w32 (5 * x3)))).toNat (am_ushr (U 17 x3.toNat) 24)) 84 (w32 ((w32 (4 + (w32 (5 * x3)))) + 1)).toNat (am_and (am_shr ((am_upd U 84 (w32 (4 + (w32 (5 * x3)))).toNat (am_ushr (U 17 x3.toNat) 24)) 17 x3.toNat) 16) 255)) 17 x3.toNat) 8) 255)) 84 (w32 ((w32 (4 + (w32 (5 * x3)))) + 3)).toNat (am_and ((am_upd (am_upd (am_upd U 84 (w32 (4 + (w32 (5 * x3)))).toNat (am_ushr (U 17 x3.toNat) 24)) 84 (w32 ((w32 (4 + (w32 (5 * x3)))) + 1)).toNat (am_and (am_shr ((am_upd U 84 (w32 (4 + (w32 (5 * x3)))).toNat (am_ushr (U 17 x3.toNat) 24)) 17 x3.toNat) 16) 255)) 84 (w32 ((w32 (4 + (w32 (5 * x3)))) + 2)).toNat (am_and (am_shr ((am_upd (am_upd U 84 (w32 (4 + (w32 (5 * x3)))).toNat (am_ushr (U 17 x3.toNat) 24)) 84 (w32 ((w32 (4 + (w32 (5 * x3)))) + 1)).toNat (am_and (am_shr ((am_upd U 84 (w32 (4 + (w32 (5 * x3)))).toNat (am_ushr (U 17 x3.toNat) 24)) 17 x3.toNat) 16) 255)) 17 x3.toNat) 8) 255)) 17 x3.toNat) 255)) 18 x3.toNat) + 1))))) R)) : Ev kz ((d + 1), 169, 62, [some (.inr (.inr 16)), some (.inr (.inr 84)), some (.inl x2), some (.inl x3), none], [], (am_sh, am_mm U)) R := by
  refine ev_br (P := (U 16 0) ≤ x3) (σ1 := ((d + 1), 169, 164, [some (.inr (.inr 16)), some (.inr (.inr 84)), some (.inl x2), some (.inl x3), none], [], (am_sh, am_mm U))) (σ2 := ((d + 1), 169, 70, [some (.inr (.inr 16)), some (.inr (.inr 84)), some (.inl x2), some (.inl x3), none], [], (am_sh, am_mm U))) 4 (fun _ => rfl) (fun hc => ?_) (fun hc => ?_)
  · have h1 := h.1 hc
    refine ev_seg (σ1 := ((d + 1), 169, 172, [some (.inr (.inr 16)), some (.inr (.inr 84)), some (.inl x2), some (.inl x3), none], [.inl (w32 (x2 - 1)), .inr (.inr 84), .inl (w32 (x2 - 1)), .inr (.inr 84)], (am_sh, am_mm U))) 8 (fun _ => rfl) ?_
    obtain ⟨r1, U1, h1c, h1a⟩ := h1
    refine ev_cal (σc := (d, 244, 0, [some (.inr (.inr 84)), some (.inl (w32 (x2 - 1))), none, none], [], (am_sh, am_mm U))) (fun _ => rfl) h1c ?_
    show Ev kz ((d + 1), 169, 175, [some (.inr (.inr 16)), some (.inr (.inr 84)), some (.inl x2), some (.inl x3), none], [.inl r1, .inl (w32 (x2 - 1)), .inr (.inr 84)], (am_sh, am_mm U1)) R
    refine eu_iast 84 (n := 85) rfl (by decide) rfl (fun _ => rfl) h1a.1 ?_
    have h1aa := h1a.2
    subst h1aa
    exact ev_end 2 (fun _ => rfl)
  · have h2 := h.2 hc
    refine ev_seg (σ1 := ((d + 1), 169, 85, [some (.inr (.inr 16)), some (.inr (.inr 84)), some (.inl x2), some (.inl x3), some (.inl (w32 (4 + (w32 (5 * x3)))))], [.inl x3, .inr (.inr 17), .inl (w32 (4 + (w32 (5 * x3)))), .inr (.inr 84)], (am_sh, am_mm U))) 11 (fun _ => rfl) ?_
    refine eu_iald 17 (n := 16) rfl (by decide) rfl (fun _ => rfl) h2.1 ?_
    have h2a := h2.2
    refine ev_seg (σ1 := ((d + 1), 169, 89, [some (.inr (.inr 16)), some (.inr (.inr 84)), some (.inl x2), some (.inl x3), some (.inl (w32 (4 + (w32 (5 * x3)))))], [.inl (am_ushr (U 17 x3.toNat) 24), .inl (w32 (4 + (w32 (5 * x3)))), .inr (.inr 84)], (am_sh, am_mm U))) 2 (fun _ => rfl) ?_
    refine eu_iast 84 (n := 85) rfl (by decide) rfl (fun _ => rfl) h2a.1 ?_
    have h2aa := h2a.2
    refine ev_seg (σ1 := ((d + 1), 169, 100, [some (.inr (.inr 16)), some (.inr (.inr 84)), some (.inl x2), some (.inl x3), some (.inl (w32 (4 + (w32 (5 * x3)))))], [.inl x3, .inr (.inr 17), .inl (w32 ((w32 (4 + (w32 (5 * x3)))) + 1)), .inr (.inr 84)], (am_sh, am_mm (am_upd U 84 (w32 (4 + (w32 (5 * x3)))).toNat (am_ushr (U 17 x3.toNat) 24))))) 7 (fun _ => rfl) ?_
    refine eu_iald 17 (n := 16) rfl (by decide) rfl (fun _ => rfl) h2aa.1 ?_
    have h2aaa := h2aa.2
    refine ev_seg (σ1 := ((d + 1), 169, 108, [some (.inr (.inr 16)), some (.inr (.inr 84)), some (.inl x2), some (.inl x3), some (.inl (w32 (4 + (w32 (5 * x3)))))], [.inl (am_and (am_shr ((am_upd U 84 (w32 (4 + (w32 (5 * x3)))).toNat (am_ushr (U 17 x3.toNat) 24)) 17 x3.toNat) 16) 255), .inl (w32 ((w32 (4 + (w32 (5 * x3)))) + 1)), .inr (.inr 84)], (am_sh, am_mm (am_upd U 84 (w32 (4 + (w32 (5 * x3)))).toNat (am_ushr (U 17 x3.toNat) 24))))) 4 (fun _ => rfl) ?_
    refine eu_iast 84 (n := 85) rfl (by decide) rfl (fun _ => rfl) h2aaa.1 ?_
    have h2aaaa := h2aaa.2
    refine ev_seg (σ1 := ((d + 1), 169, 119, [some (.inr (.inr 16)), some (.inr (.inr 84)), some (.inl x2), some (.inl x3), some (.inl (w32 (4 + (w32 (5 * x3)))))], [.inl x3, .inr (.inr 17), .inl (w32 ((w32 (4 + (w32 (5 * x3)))) + 2)), .inr (.inr 84)], (am_sh, am_mm (am_upd (am_upd U 84 (w32 (4 + (w32 (5 * x3)))).toNat (am_ushr (U 17 x3.toNat) 24)) 84 (w32 ((w32 (4 + (w32 (5 * x3)))) + 1)).toNat (am_and (am_shr ((am_upd U 84 (w32 (4 + (w32 (5 * x3)))).toNat (am_ushr (U 17 x3.toNat) 24)) 17 x3.toNat) 16) 255))))) 7 (fun _ => rfl) ?_
    refine eu_iald 17 (n := 16) rfl (by decide) rfl (fun _ => rfl) h2aaaa.1 ?_
    have h2aaaaa := h2aaaa.2
    refine ev_seg (σ1 := ((d + 1), 169, 127, [some (.inr (.inr 16)), some (.inr (.inr 84)), some (.inl x2), some (.inl x3), some (.inl (w32 (4 + (w32 (5 * x3)))))], [.inl (am_and (am_shr ((am_upd (am_upd U 84 (w32 (4 + (w32 (5 * x3)))).toNat (am_ushr (U 17 x3.toNat) 24)) 84 (w32 ((w32 (4 + (w32 (5 * x3)))) + 1)).toNat (am_and (am_shr ((am_upd U 84 (w32 (4 + (w32 (5 * x3)))).toNat (am_ushr (U 17 x3.toNat) 24)) 17 x3.toNat) 16) 255)) 17 x3.toNat) 8) 255), .inl (w32 ((w32 (4 + (w32 (5 * x3)))) + 2)), .inr (.inr 84)], (am_sh, am_mm (am_upd (am_upd U 84 (w32 (4 + (w32 (5 * x3)))).toNat (am_ushr (U 17 x3.toNat) 24)) 84 (w32 ((w32 (4 + (w32 (5 * x3)))) + 1)).toNat (am_and (am_shr ((am_upd U 84 (w32 (4 + (w32 (5 * x3)))).toNat (am_ushr (U 17 x3.toNat) 24)) 17 x3.toNat) 16) 255))))) 4 (fun _ => rfl) ?_
    refine eu_iast 84 (n := 85) rfl (by decide) rfl (fun _ => rfl) h2aaaaa.1 ?_
    have h2aaaaaa := h2aaaaa.2
    refine ev_seg (σ1 := ((d + 1), 169, 138, [some (.inr (.inr 16)), some (.inr (.inr 84)), some (.inl x2), some (.inl x3), some (.inl (w32 (4 + (w32 (5 * x3)))))], [.inl x3, .inr (.inr 17), .inl (w32 ((w32 (4 + (w32 (5 * x3)))) + 3)), .inr (.inr 84)], (am_sh, am_mm (am_upd (am_upd (am_upd U 84 (w32 (4 + (w32 (5 * x3)))).toNat (am_ushr (U 17 x3.toNat) 24)) 84 (w32 ((w32 (4 + (w32 (5 * x3)))) + 1)).toNat (am_and (am_shr ((am_upd U 84 (w32 (4 + (w32 (5 * x3)))).toNat (am_ushr (U 17 x3.toNat) 24)) 17 x3.toNat) 16) 255)) 84 (w32 ((w32 (4 + (w32 (5 * x3)))) + 2)).toNat (am_and (am_shr ((am_upd (am_upd U 84 (w32 (4 + (w32 (5 * x3)))).toNat (am_ushr (U 17 x3.toNat) 24)) 84 (w32 ((w32 (4 + (w32 (5 * x3)))) + 1)).toNat (am_and (am_shr ((am_upd U 84 (w32 (4 + (w32 (5 * x3)))).toNat (am_ushr (U 17 x3.toNat) 24)) 17 x3.toNat) 16) 255)) 17 x3.toNat) 8) 255))))) 7 (fun _ => rfl) ?_
    refine eu_iald 17 (n := 16) rfl (by decide) rfl (fun _ => rfl) h2aaaaaa.1 ?_
    have h2aaaaaaa := h2aaaaaa.2
    refine ev_seg (σ1 := ((d + 1), 169, 143, [some (.inr (.inr 16)), some (.inr (.inr 84)), some (.inl x2), some (.inl x3), some (.inl (w32 (4 + (w32 (5 * x3)))))], [.inl (am_and ((am_upd (am_upd (am_upd U 84 (w32 (4 + (w32 (5 * x3)))).toNat (am_ushr (U 17 x3.toNat) 24)) 84 (w32 ((w32 (4 + (w32 (5 * x3)))) + 1)).toNat (am_and (am_shr ((am_upd U 84 (w32 (4 + (w32 (5 * x3)))).toNat (am_ushr (U 17 x3.toNat) 24)) 17 x3.toNat) 16) 255)) 84 (w32 ((w32 (4 + (w32 (5 * x3)))) + 2)).toNat (am_and (am_shr ((am_upd (am_upd U 84 (w32 (4 + (w32 (5 * x3)))).toNat (am_ushr (U 17 x3.toNat) 24)) 84 (w32 ((w32 (4 + (w32 (5 * x3)))) + 1)).toNat (am_and (am_shr ((am_upd U 84 (w32 (4 + (w32 (5 * x3)))).toNat (am_ushr (U 17 x3.toNat) 24)) 17 x3.toNat) 16) 255)) 17 x3.toNat) 8) 255)) 17 x3.toNat) 255), .inl (w32 ((w32 (4 + (w32 (5 * x3)))) + 3)), .inr (.inr 84)], (am_sh, am_mm (am_upd (am_upd (am_upd U 84 (w32 (4 + (w32 (5 * x3)))).toNat (am_ushr (U 17 x3.toNat) 24)) 84 (w32 ((w32 (4 + (w32 (5 * x3)))) + 1)).toNat (am_and (am_shr ((am_upd U 84 (w32 (4 + (w32 (5 * x3)))).toNat (am_ushr (U 17 x3.toNat) 24)) 17 x3.toNat) 16) 255)) 84 (w32 ((w32 (4 + (w32 (5 * x3)))) + 2)).toNat (am_and (am_shr ((am_upd (am_upd U 84 (w32 (4 + (w32 (5 * x3)))).toNat (am_ushr (U 17 x3.toNat) 24)) 84 (w32 ((w32 (4 + (w32 (5 * x3)))) + 1)).toNat (am_and (am_shr ((am_upd U 84 (w32 (4 + (w32 (5 * x3)))).toNat (am_ushr (U 17 x3.toNat) 24)) 17 x3.toNat) 16) 255)) 17 x3.toNat) 8) 255))))) 2 (fun _ => rfl) ?_
    refine eu_iast 84 (n := 85) rfl (by decide) rfl (fun _ => rfl) h2aaaaaaa.1 ?_
    have h2aaaaaaaa := h2aaaaaaa.2
    refine ev_seg (σ1 := ((d + 1), 169, 154, [some (.inr (.inr 16)), some (.inr (.inr 84)), some (.inl x2), some (.inl x3), some (.inl (w32 (4 + (w32 (5 * x3)))))], [.inl x3, .inr (.inr 18), .inl (w32 ((w32 (4 + (w32 (5 * x3)))) + 4)), .inr (.inr 84)], (am_sh, am_mm (am_upd (am_upd (am_upd (am_upd U 84 (w32 (4 + (w32 (5 * x3)))).toNat (am_ushr (U 17 x3.toNat) 24)) 84 (w32 ((w32 (4 + (w32 (5 * x3)))) + 1)).toNat (am_and (am_shr ((am_upd U 84 (w32 (4 + (w32 (5 * x3)))).toNat (am_ushr (U 17 x3.toNat) 24)) 17 x3.toNat) 16) 255)) 84 (w32 ((w32 (4 + (w32 (5 * x3)))) + 2)).toNat (am_and (am_shr ((am_upd (am_upd U 84 (w32 (4 + (w32 (5 * x3)))).toNat (am_ushr (U 17 x3.toNat) 24)) 84 (w32 ((w32 (4 + (w32 (5 * x3)))) + 1)).toNat (am_and (am_shr ((am_upd U 84 (w32 (4 + (w32 (5 * x3)))).toNat (am_ushr (U 17 x3.toNat) 24)) 17 x3.toNat) 16) 255)) 17 x3.toNat) 8) 255)) 84 (w32 ((w32 (4 + (w32 (5 * x3)))) + 3)).toNat (am_and ((am_upd (am_upd (am_upd U 84 (w32 (4 + (w32 (5 * x3)))).toNat (am_ushr (U 17 x3.toNat) 24)) 84 (w32 ((w32 (4 + (w32 (5 * x3)))) + 1)).toNat (am_and (am_shr ((am_upd U 84 (w32 (4 + (w32 (5 * x3)))).toNat (am_ushr (U 17 x3.toNat) 24)) 17 x3.toNat) 16) 255)) 84 (w32 ((w32 (4 + (w32 (5 * x3)))) + 2)).toNat (am_and (am_shr ((am_upd (am_upd U 84 (w32 (4 + (w32 (5 * x3)))).toNat (am_ushr (U 17 x3.toNat) 24)) 84 (w32 ((w32 (4 + (w32 (5 * x3)))) + 1)).toNat (am_and (am_shr ((am_upd U 84 (w32 (4 + (w32 (5 * x3)))).toNat (am_ushr (U 17 x3.toNat) 24)) 17 x3.toNat) 16) 255)) 17 x3.toNat) 8) 255)) 17 x3.toNat) 255))))) 7 (fun _ => rfl) ?_
    refine eu_iald 18 (n := 16) rfl (by decide) rfl (fun _ => rfl) h2aaaaaaaa.1 ?_
    have h2aaaaaaaaa := h2aaaaaaaa.2
    refine ev_seg (σ1 := ((d + 1), 169, 157, [some (.inr (.inr 16)), some (.inr (.inr 84)), some (.inl x2), some (.inl x3), some (.inl (w32 (4 + (w32 (5 * x3)))))], [.inl (w32 (((am_upd (am_upd (am_upd (am_upd U 84 (w32 (4 + (w32 (5 * x3)))).toNat (am_ushr (U 17 x3.toNat) 24)) 84 (w32 ((w32 (4 + (w32 (5 * x3)))) + 1)).toNat (am_and (am_shr ((am_upd U 84 (w32 (4 + (w32 (5 * x3)))).toNat (am_ushr (U 17 x3.toNat) 24)) 17 x3.toNat) 16) 255)) 84 (w32 ((w32 (4 + (w32 (5 * x3)))) + 2)).toNat (am_and (am_shr ((am_upd (am_upd U 84 (w32 (4 + (w32 (5 * x3)))).toNat (am_ushr (U 17 x3.toNat) 24)) 84 (w32 ((w32 (4 + (w32 (5 * x3)))) + 1)).toNat (am_and (am_shr ((am_upd U 84 (w32 (4 + (w32 (5 * x3)))).toNat (am_ushr (U 17 x3.toNat) 24)) 17 x3.toNat) 16) 255)) 17 x3.toNat) 8) 255)) 84 (w32 ((w32 (4 + (w32 (5 * x3)))) + 3)).toNat (am_and ((am_upd (am_upd (am_upd U 84 (w32 (4 + (w32 (5 * x3)))).toNat (am_ushr (U 17 x3.toNat) 24)) 84 (w32 ((w32 (4 + (w32 (5 * x3)))) + 1)).toNat (am_and (am_shr ((am_upd U 84 (w32 (4 + (w32 (5 * x3)))).toNat (am_ushr (U 17 x3.toNat) 24)) 17 x3.toNat) 16) 255)) 84 (w32 ((w32 (4 + (w32 (5 * x3)))) + 2)).toNat (am_and (am_shr ((am_upd (am_upd U 84 (w32 (4 + (w32 (5 * x3)))).toNat (am_ushr (U 17 x3.toNat) 24)) 84 (w32 ((w32 (4 + (w32 (5 * x3)))) + 1)).toNat (am_and (am_shr ((am_upd U 84 (w32 (4 + (w32 (5 * x3)))).toNat (am_ushr (U 17 x3.toNat) 24)) 17 x3.toNat) 16) 255)) 17 x3.toNat) 8) 255)) 17 x3.toNat) 255)) 18 x3.toNat) + 1)), .inl (w32 ((w32 (4 + (w32 (5 * x3)))) + 4)), .inr (.inr 84)], (am_sh, am_mm (am_upd (am_upd (am_upd (am_upd U 84 (w32 (4 + (w32 (5 * x3)))).toNat (am_ushr (U 17 x3.toNat) 24)) 84 (w32 ((w32 (4 + (w32 (5 * x3)))) + 1)).toNat (am_and (am_shr ((am_upd U 84 (w32 (4 + (w32 (5 * x3)))).toNat (am_ushr (U 17 x3.toNat) 24)) 17 x3.toNat) 16) 255)) 84 (w32 ((w32 (4 + (w32 (5 * x3)))) + 2)).toNat (am_and (am_shr ((am_upd (am_upd U 84 (w32 (4 + (w32 (5 * x3)))).toNat (am_ushr (U 17 x3.toNat) 24)) 84 (w32 ((w32 (4 + (w32 (5 * x3)))) + 1)).toNat (am_and (am_shr ((am_upd U 84 (w32 (4 + (w32 (5 * x3)))).toNat (am_ushr (U 17 x3.toNat) 24)) 17 x3.toNat) 16) 255)) 17 x3.toNat) 8) 255)) 84 (w32 ((w32 (4 + (w32 (5 * x3)))) + 3)).toNat (am_and ((am_upd (am_upd (am_upd U 84 (w32 (4 + (w32 (5 * x3)))).toNat (am_ushr (U 17 x3.toNat) 24)) 84 (w32 ((w32 (4 + (w32 (5 * x3)))) + 1)).toNat (am_and (am_shr ((am_upd U 84 (w32 (4 + (w32 (5 * x3)))).toNat (am_ushr (U 17 x3.toNat) 24)) 17 x3.toNat) 16) 255)) 84 (w32 ((w32 (4 + (w32 (5 * x3)))) + 2)).toNat (am_and (am_shr ((am_upd (am_upd U 84 (w32 (4 + (w32 (5 * x3)))).toNat (am_ushr (U 17 x3.toNat) 24)) 84 (w32 ((w32 (4 + (w32 (5 * x3)))) + 1)).toNat (am_and (am_shr ((am_upd U 84 (w32 (4 + (w32 (5 * x3)))).toNat (am_ushr (U 17 x3.toNat) 24)) 17 x3.toNat) 16) 255)) 17 x3.toNat) 8) 255)) 17 x3.toNat) 255))))) 2 (fun _ => rfl) ?_
    refine eu_iast 84 (n := 85) rfl (by decide) rfl (fun _ => rfl) h2aaaaaaaaa.1 ?_
    have h2aaaaaaaaaa := h2aaaaaaaaa.2
    refine ev_seg (σ1 := ((d + 1), 169, 62, [some (.inr (.inr 16)), some (.inr (.inr 84)), some (.inl x2), some (.inl (w32 (x3 + 1))), some (.inl (w32 (4 + (w32 (5 * x3)))))], [], (am_sh, am_mm (am_upd (am_upd (am_upd (am_upd (am_upd U 84 (w32 (4 + (w32 (5 * x3)))).toNat (am_ushr (U 17 x3.toNat) 24)) 84 (w32 ((w32 (4 + (w32 (5 * x3)))) + 1)).toNat (am_and (am_shr ((am_upd U 84 (w32 (4 + (w32 (5 * x3)))).toNat (am_ushr (U 17 x3.toNat) 24)) 17 x3.toNat) 16) 255)) 84 (w32 ((w32 (4 + (w32 (5 * x3)))) + 2)).toNat (am_and (am_shr ((am_upd (am_upd U 84 (w32 (4 + (w32 (5 * x3)))).toNat (am_ushr (U 17 x3.toNat) 24)) 84 (w32 ((w32 (4 + (w32 (5 * x3)))) + 1)).toNat (am_and (am_shr ((am_upd U 84 (w32 (4 + (w32 (5 * x3)))).toNat (am_ushr (U 17 x3.toNat) 24)) 17 x3.toNat) 16) 255)) 17 x3.toNat) 8) 255)) 84 (w32 ((w32 (4 + (w32 (5 * x3)))) + 3)).toNat (am_and ((am_upd (am_upd (am_upd U 84 (w32 (4 + (w32 (5 * x3)))).toNat (am_ushr (U 17 x3.toNat) 24)) 84 (w32 ((w32 (4 + (w32 (5 * x3)))) + 1)).toNat (am_and (am_shr ((am_upd U 84 (w32 (4 + (w32 (5 * x3)))).toNat (am_ushr (U 17 x3.toNat) 24)) 17 x3.toNat) 16) 255)) 84 (w32 ((w32 (4 + (w32 (5 * x3)))) + 2)).toNat (am_and (am_shr ((am_upd (am_upd U 84 (w32 (4 + (w32 (5 * x3)))).toNat (am_ushr (U 17 x3.toNat) 24)) 84 (w32 ((w32 (4 + (w32 (5 * x3)))) + 1)).toNat (am_and (am_shr ((am_upd U 84 (w32 (4 + (w32 (5 * x3)))).toNat (am_ushr (U 17 x3.toNat) 24)) 17 x3.toNat) 16) 255)) 17 x3.toNat) 8) 255)) 17 x3.toNat) 255)) 84 (w32 ((w32 (4 + (w32 (5 * x3)))) + 4)).toNat (w32 (((am_upd (am_upd (am_upd (am_upd U 84 (w32 (4 + (w32 (5 * x3)))).toNat (am_ushr (U 17 x3.toNat) 24)) 84 (w32 ((w32 (4 + (w32 (5 * x3)))) + 1)).toNat (am_and (am_shr ((am_upd U 84 (w32 (4 + (w32 (5 * x3)))).toNat (am_ushr (U 17 x3.toNat) 24)) 17 x3.toNat) 16) 255)) 84 (w32 ((w32 (4 + (w32 (5 * x3)))) + 2)).toNat (am_and (am_shr ((am_upd (am_upd U 84 (w32 (4 + (w32 (5 * x3)))).toNat (am_ushr (U 17 x3.toNat) 24)) 84 (w32 ((w32 (4 + (w32 (5 * x3)))) + 1)).toNat (am_and (am_shr ((am_upd U 84 (w32 (4 + (w32 (5 * x3)))).toNat (am_ushr (U 17 x3.toNat) 24)) 17 x3.toNat) 16) 255)) 17 x3.toNat) 8) 255)) 84 (w32 ((w32 (4 + (w32 (5 * x3)))) + 3)).toNat (am_and ((am_upd (am_upd (am_upd U 84 (w32 (4 + (w32 (5 * x3)))).toNat (am_ushr (U 17 x3.toNat) 24)) 84 (w32 ((w32 (4 + (w32 (5 * x3)))) + 1)).toNat (am_and (am_shr ((am_upd U 84 (w32 (4 + (w32 (5 * x3)))).toNat (am_ushr (U 17 x3.toNat) 24)) 17 x3.toNat) 16) 255)) 84 (w32 ((w32 (4 + (w32 (5 * x3)))) + 2)).toNat (am_and (am_shr ((am_upd (am_upd U 84 (w32 (4 + (w32 (5 * x3)))).toNat (am_ushr (U 17 x3.toNat) 24)) 84 (w32 ((w32 (4 + (w32 (5 * x3)))) + 1)).toNat (am_and (am_shr ((am_upd U 84 (w32 (4 + (w32 (5 * x3)))).toNat (am_ushr (U 17 x3.toNat) 24)) 17 x3.toNat) 16) 255)) 17 x3.toNat) 8) 255)) 17 x3.toNat) 255)) 18 x3.toNat) + 1)))))) 2 (fun _ => rfl) ?_
    exact h2aaaaaaaaaa
set_option maxRecDepth 8000 in
theorem st170_86_0 (kz : am_Z) (d : Nat) (x1 : Int) (U : Nat → Nat → Int) (R : Option am_V × am_M) (h : (0 ≤ (U 86 89) ∧ (U 86 89) < 90) ∧ R = (none, (am_sh, am_mm (am_upd (am_upd U 138 (U 86 89).toNat (am_and x1 255)) 86 89 (w32 (((am_upd U 138 (U 86 89).toNat (am_and x1 255)) 86 89) + 1)))))) : Ev kz (d, 170, 0, [some (.inr (.inr 86)), some (.inl x1)], [], (am_sh, am_mm U)) R := by
  refine ev_seg (σ1 := (d, 170, 13, [some (.inr (.inr 86)), some (.inl x1)], [.inl (am_and x1 255), .inl (U 86 89), .inr (.inr 138)], (am_sh, am_mm U))) 7 (fun _ => rfl) ?_
  refine eu_iast 138 (n := 90) rfl (by decide) rfl (fun _ => rfl) h.1 ?_
  have ha := h.2
  refine ev_seg (σ1 := (d, 170, 21, [some (.inr (.inr 86)), some (.inl x1)], [.inl (w32 (((am_upd U 138 (U 86 89).toNat (am_and x1 255)) 86 89) + 1)), .inr (.inr 86)], (am_sh, am_mm (am_upd U 138 (U 86 89).toNat (am_and x1 255))))) 5 (fun _ => rfl) ?_
  refine eu_puti 86 (n := 90) rfl (by decide) rfl rfl ?_
  subst ha
  exact ev_end 1 (fun _ => rfl)
set_option maxRecDepth 8000 in
theorem st171_21_2_3_0 (kz : am_Z) (d : Nat) (x2 : Int) (U : Nat → Nat → Int) (R : Option am_V × am_M) (h : ∃ U1 : Nat → Nat → Int, Ev kz (d, 176, 0, [some (.inr (.inr 21))], [], (am_sh, am_mm U)) (none, (am_sh, am_mm U1)) ∧ (((x2 < 5 : Prop)) → R = (some (.inl 0), (am_sh, am_mm U1))) ∧ (¬ (x2 < 5) → (((1600 < x2 : Prop)) → R = (some (.inl 0), (am_sh, am_mm U1))) ∧ (¬ (1600 < x2) → (((16 < (U1 2 3) : Prop)) → R = (some (.inl 0), (am_sh, am_mm U1))) ∧ (¬ (16 < (U1 2 3)) → (((x2 = (w32 (5 + (w32 (5 * (U1 2 3))))) : Prop)) → (((¬ ((am_upd U1 21 1 (w32 ((w32 (256 * (U1 2 0))) + (U1 2 1)))) 2 2) = 1 : Prop)) → (((9999 < ((am_upd (am_upd U1 21 1 (w32 ((w32 (256 * (U1 2 0))) + (U1 2 1)))) 21 2 0) 21 1) : Prop)) → R = (some (.inl 0), (am_sh, am_mm (am_upd (am_upd U1 21 1 (w32 ((w32 (256 * (U1 2 0))) + (U1 2 1)))) 21 2 0)))) ∧ (¬ (9999 < ((am_upd (am_upd U1 21 1 (w32 ((w32 (256 * (U1 2 0))) + (U1 2 1)))) 21 2 0) 21 1)) → (((1 < ((am_upd (am_upd U1 21 1 (w32 ((w32 (256 * (U1 2 0))) + (U1 2 1)))) 21 2 0) 2 2) : Prop)) → R = (some (.inl 0), (am_sh, am_mm (am_upd (am_upd U1 21 1 (w32 ((w32 (256 * (U1 2 0))) + (U1 2 1)))) 21 2 0)))) ∧ (¬ (1 < ((am_upd (am_upd U1 21 1 (w32 ((w32 (256 * (U1 2 0))) + (U1 2 1)))) 21 2 0) 2 2)) → (0 ≤ (w32 (x2 - 1)) ∧ (w32 (x2 - 1)) < 1600) ∧ ∃ (r2 : Int) (U2 : Nat → Nat → Int), Ev kz (d, 244, 0, [some (.inr (.inr 2)), some (.inl (w32 (x2 - 1))), none, none], [], (am_sh, am_mm (am_upd (am_upd U1 21 1 (w32 ((w32 (256 * (U1 2 0))) + (U1 2 1)))) 21 2 0))) (some (.inl r2), (am_sh, am_mm U2)) ∧ (((((am_upd (am_upd U1 21 1 (w32 ((w32 (256 * (U1 2 0))) + (U1 2 1)))) 21 2 0) 2 (w32 (x2 - 1)).toNat) = r2 : Prop)) → Ev kz ((d + 1), 171, 104, [some (.inr (.inr 21)), some (.inr (.inr 2)), some (.inl x2), some (.inr (.inr 3)), some (.inl 4), none], [], (am_sh, am_mm U2)) R) ∧ (¬ (((am_upd (am_upd U1 21 1 (w32 ((w32 (256 * (U1 2 0))) + (U1 2 1)))) 21 2 0) 2 (w32 (x2 - 1)).toNat) = r2) → R = (some (.inl 0), (am_sh, am_mm U2)))))) ∧ (¬ (¬ ((am_upd U1 21 1 (w32 ((w32 (256 * (U1 2 0))) + (U1 2 1)))) 2 2) = 1) → (((9999 < ((am_upd (am_upd U1 21 1 (w32 ((w32 (256 * (U1 2 0))) + (U1 2 1)))) 21 2 1) 21 1) : Prop)) → R = (some (.inl 0), (am_sh, am_mm (am_upd (am_upd U1 21 1 (w32 ((w32 (256 * (U1 2 0))) + (U1 2 1)))) 21 2 1)))) ∧ (¬ (9999 < ((am_upd (am_upd U1 21 1 (w32 ((w32 (256 * (U1 2 0))) + (U1 2 1)))) 21 2 1) 21 1)) → (((1 < ((am_upd (am_upd U1 21 1 (w32 ((w32 (256 * (U1 2 0))) + (U1 2 1)))) 21 2 1) 2 2) : Prop)) → R = (some (.inl 0), (am_sh, am_mm (am_upd (am_upd U1 21 1 (w32 ((w32 (256 * (U1 2 0))) + (U1 2 1)))) 21 2 1)))) ∧ (¬ (1 < ((am_upd (am_upd U1 21 1 (w32 ((w32 (256 * (U1 2 0))) + (U1 2 1)))) 21 2 1) 2 2)) → (0 ≤ (w32 (x2 - 1)) ∧ (w32 (x2 - 1)) < 1600) ∧ ∃ (r3 : Int) (U3 : Nat → Nat → Int), Ev kz (d, 244, 0, [some (.inr (.inr 2)), some (.inl (w32 (x2 - 1))), none, none], [], (am_sh, am_mm (am_upd (am_upd U1 21 1 (w32 ((w32 (256 * (U1 2 0))) + (U1 2 1)))) 21 2 1))) (some (.inl r3), (am_sh, am_mm U3)) ∧ (((((am_upd (am_upd U1 21 1 (w32 ((w32 (256 * (U1 2 0))) + (U1 2 1)))) 21 2 1) 2 (w32 (x2 - 1)).toNat) = r3 : Prop)) → Ev kz ((d + 1), 171, 104, [some (.inr (.inr 21)), some (.inr (.inr 2)), some (.inl x2), some (.inr (.inr 3)), some (.inl 4), none], [], (am_sh, am_mm U3)) R) ∧ (¬ (((am_upd (am_upd U1 21 1 (w32 ((w32 (256 * (U1 2 0))) + (U1 2 1)))) 21 2 1) 2 (w32 (x2 - 1)).toNat) = r3) → R = (some (.inl 0), (am_sh, am_mm U3))))))) ∧ (¬ (x2 = (w32 (5 + (w32 (5 * (U1 2 3)))))) → R = (some (.inl 0), (am_sh, am_mm U1))))))) : Ev kz ((d + 1), 171, 0, [some (.inr (.inr 21)), some (.inr (.inr 2)), some (.inl x2), some (.inr (.inr 3)), none, none], [], (am_sh, am_mm U)) R := by
  refine ev_seg (σ1 := ((d + 1), 171, 1, [some (.inr (.inr 21)), some (.inr (.inr 2)), some (.inl x2), some (.inr (.inr 3)), none, none], [.inr (.inr 21)], (am_sh, am_mm U))) 1 (fun _ => rfl) ?_
  obtain ⟨U1, hc, ha⟩ := h
  refine ev_cal (σc := (d, 176, 0, [some (.inr (.inr 21))], [], (am_sh, am_mm U))) (fun _ => rfl) hc ?_
  show Ev kz ((d + 1), 171, 4, [some (.inr (.inr 21)), some (.inr (.inr 2)), some (.inl x2), some (.inr (.inr 3)), none, none], [], (am_sh, am_mm U1)) R
  refine ev_br (P := x2 < 5) (σ1 := ((d + 1), 171, 34, [some (.inr (.inr 21)), some (.inr (.inr 2)), some (.inl x2), some (.inr (.inr 3)), none, none], [], (am_sh, am_mm U1))) (σ2 := ((d + 1), 171, 9, [some (.inr (.inr 21)), some (.inr (.inr 2)), some (.inl x2), some (.inr (.inr 3)), none, none], [], (am_sh, am_mm U1))) 3 (fun _ => rfl) (fun hc => ?_) (fun hc => ?_)
  · have ha1 := ha.1 hc
    subst ha1
    exact ev_end 2 (fun _ => rfl)
  · have ha2 := ha.2 hc
    refine ev_br (P := 1600 < x2) (σ1 := ((d + 1), 171, 34, [some (.inr (.inr 21)), some (.inr (.inr 2)), some (.inl x2), some (.inr (.inr 3)), none, none], [], (am_sh, am_mm U1))) (σ2 := ((d + 1), 171, 15, [some (.inr (.inr 21)), some (.inr (.inr 2)), some (.inl x2), some (.inr (.inr 3)), none, none], [], (am_sh, am_mm U1))) 4 (fun _ => rfl) (fun hc => ?_) (fun hc => ?_)
    · have ha21 := ha2.1 hc
      subst ha21
      exact ev_end 2 (fun _ => rfl)
    · have ha22 := ha2.2 hc
      refine ev_seg (σ1 := ((d + 1), 171, 17, [some (.inr (.inr 21)), some (.inr (.inr 2)), some (.inl x2), some (.inr (.inr 3)), none, none], [.inl 3, .inr (.inr 2)], (am_sh, am_mm U1))) 2 (fun _ => rfl) ?_
      refine eu_iald 2 (n := 1600) rfl (by decide) rfl (fun _ => rfl) (by decide) ?_
      show Ev kz ((d + 1), 171, 18, [some (.inr (.inr 21)), some (.inr (.inr 2)), some (.inl x2), some (.inr (.inr 3)), none, none], [.inl (U1 2 3)], (am_sh, am_mm U1)) R
      refine ev_br (P := 16 < (U1 2 3)) (σ1 := ((d + 1), 171, 34, [some (.inr (.inr 21)), some (.inr (.inr 2)), some (.inl x2), some (.inr (.inr 3)), none, none], [], (am_sh, am_mm U1))) (σ2 := ((d + 1), 171, 23, [some (.inr (.inr 21)), some (.inr (.inr 2)), some (.inl x2), some (.inr (.inr 3)), none, none], [], (am_sh, am_mm U1))) 2 (fun _ => rfl) (fun hc => ?_) (fun hc => ?_)
      · have ha221 := ha22.1 hc
        subst ha221
        exact ev_end 2 (fun _ => rfl)
      · have ha222 := ha22.2 hc
        refine ev_seg (σ1 := ((d + 1), 171, 28, [some (.inr (.inr 21)), some (.inr (.inr 2)), some (.inl x2), some (.inr (.inr 3)), none, none], [.inl 3, .inr (.inr 2), .inl 5, .inl 5, .inl x2], (am_sh, am_mm U1))) 5 (fun _ => rfl) ?_
        refine eu_iald 2 (n := 1600) rfl (by decide) rfl (fun _ => rfl) (by decide) ?_
        show Ev kz ((d + 1), 171, 29, [some (.inr (.inr 21)), some (.inr (.inr 2)), some (.inl x2), some (.inr (.inr 3)), none, none], [.inl (U1 2 3), .inl 5, .inl 5, .inl x2], (am_sh, am_mm U1)) R
        refine ev_br (P := x2 = (w32 (5 + (w32 (5 * (U1 2 3)))))) (σ1 := ((d + 1), 171, 36, [some (.inr (.inr 21)), some (.inr (.inr 2)), some (.inl x2), some (.inr (.inr 3)), none, none], [], (am_sh, am_mm U1))) (σ2 := ((d + 1), 171, 34, [some (.inr (.inr 21)), some (.inr (.inr 2)), some (.inl x2), some (.inr (.inr 3)), none, none], [], (am_sh, am_mm U1))) 3 (fun _ => rfl) (fun hc => ?_) (fun hc => ?_)
        · have ha2221 := ha222.1 hc
          refine ev_seg (σ1 := ((d + 1), 171, 42, [some (.inr (.inr 21)), some (.inr (.inr 2)), some (.inl x2), some (.inr (.inr 3)), none, none], [.inl 0, .inr (.inr 2), .inl 256, .inr (.inr 21)], (am_sh, am_mm U1))) 4 (fun _ => rfl) ?_
          refine eu_iald 2 (n := 1600) rfl (by decide) rfl (fun _ => rfl) (by decide) ?_
          show Ev kz ((d + 1), 171, 43, [some (.inr (.inr 21)), some (.inr (.inr 2)), some (.inl x2), some (.inr (.inr 3)), none, none], [.inl (U1 2 0), .inl 256, .inr (.inr 21)], (am_sh, am_mm U1)) R
          refine ev_seg (σ1 := ((d + 1), 171, 46, [some (.inr (.inr 21)), some (.inr (.inr 2)), some (.inl x2), some (.inr (.inr 3)), none, none], [.inl 1, .inr (.inr 2), .inl (w32 (256 * (U1 2 0))), .inr (.inr 21)], (am_sh, am_mm U1))) 3 (fun _ => rfl) ?_
          refine eu_iald 2 (n := 1600) rfl (by decide) rfl (fun _ => rfl) (by decide) ?_
          show Ev kz ((d + 1), 171, 47, [some (.inr (.inr 21)), some (.inr (.inr 2)), some (.inl x2), some (.inr (.inr 3)), none, none], [.inl (U1 2 1), .inl (w32 (256 * (U1 2 0))), .inr (.inr 21)], (am_sh, am_mm U1)) R
          refine ev_seg (σ1 := ((d + 1), 171, 48, [some (.inr (.inr 21)), some (.inr (.inr 2)), some (.inl x2), some (.inr (.inr 3)), none, none], [.inl (w32 ((w32 (256 * (U1 2 0))) + (U1 2 1))), .inr (.inr 21)], (am_sh, am_mm U1))) 1 (fun _ => rfl) ?_
          refine eu_puti 21 (n := 7) rfl (by decide) rfl rfl ?_
          refine ev_seg (σ1 := ((d + 1), 171, 54, [some (.inr (.inr 21)), some (.inr (.inr 2)), some (.inl x2), some (.inr (.inr 3)), none, none], [.inl 2, .inr (.inr 2), .inr (.inr 21)], (am_sh, am_mm (am_upd U1 21 1 (w32 ((w32 (256 * (U1 2 0))) + (U1 2 1))))))) 3 (fun _ => rfl) ?_
          refine eu_iald 2 (n := 1600) rfl (by decide) rfl (fun _ => rfl) (by decide) ?_
          show Ev kz ((d + 1), 171, 55, [some (.inr (.inr 21)), some (.inr (.inr 2)), some (.inl x2), some (.inr (.inr 3)), none, none], [.inl ((am_upd U1 21 1 (w32 ((w32 (256 * (U1 2 0))) + (U1 2 1)))) 2 2), .inr (.inr 21)], (am_sh, am_mm (am_upd U1 21 1 (w32 ((w32 (256 * (U1 2 0))) + (U1 2 1)))))) R
          refine ev_br (P := ¬ ((am_upd U1 21 1 (w32 ((w32 (256 * (U1 2 0))) + (U1 2 1)))) 2 2) = 1) (σ1 := ((d + 1), 171, 63, [some (.inr (.inr 21)), some (.inr (.inr 2)), some (.inl x2), some (.inr (.inr 3)), none, none], [.inr (.inr 21)], (am_sh, am_mm (am_upd U1 21 1 (w32 ((w32 (256 * (U1 2 0))) + (U1 2 1))))))) (σ2 := ((d + 1), 171, 59, [some (.inr (.inr 21)), some (.inr (.inr 2)), some (.inl x2), some (.inr (.inr 3)), none, none], [.inr (.inr 21)], (am_sh, am_mm (am_upd U1 21 1 (w32 ((w32 (256 * (U1 2 0))) + (U1 2 1))))))) 2 (fun _ => rfl) (fun hc => ?_) (fun hc => ?_)
          · have ha22211 := ha2221.1 hc
            refine ev_seg (σ1 := ((d + 1), 171, 64, [some (.inr (.inr 21)), some (.inr (.inr 2)), some (.inl x2), some (.inr (.inr 3)), none, none], [.inl 0, .inr (.inr 21)], (am_sh, am_mm (am_upd U1 21 1 (w32 ((w32 (256 * (U1 2 0))) + (U1 2 1))))))) 1 (fun _ => rfl) ?_
            refine eu_putz 21 (n := 7) rfl (by decide) rfl rfl (by decide) ?_
            refine ev_br (P := 9999 < ((am_upd (am_upd U1 21 1 (w32 ((w32 (256 * (U1 2 0))) + (U1 2 1)))) 21 2 0) 21 1)) (σ1 := ((d + 1), 171, 99, [some (.inr (.inr 21)), some (.inr (.inr 2)), some (.inl x2), some (.inr (.inr 3)), none, none], [], (am_sh, am_mm (am_upd (am_upd U1 21 1 (w32 ((w32 (256 * (U1 2 0))) + (U1 2 1)))) 21 2 0)))) (σ2 := ((d + 1), 171, 77, [some (.inr (.inr 21)), some (.inr (.inr 2)), some (.inl x2), some (.inr (.inr 3)), none, none], [], (am_sh, am_mm (am_upd (am_upd U1 21 1 (w32 ((w32 (256 * (U1 2 0))) + (U1 2 1)))) 21 2 0)))) 4 (fun _ => rfl) (fun hc => ?_) (fun hc => ?_)
            · have ha222111 := ha22211.1 hc
              subst ha222111
              exact ev_end 2 (fun _ => rfl)
            · have ha222112 := ha22211.2 hc
              refine ev_seg (σ1 := ((d + 1), 171, 79, [some (.inr (.inr 21)), some (.inr (.inr 2)), some (.inl x2), some (.inr (.inr 3)), none, none], [.inl 2, .inr (.inr 2)], (am_sh, am_mm (am_upd (am_upd U1 21 1 (w32 ((w32 (256 * (U1 2 0))) + (U1 2 1)))) 21 2 0)))) 2 (fun _ => rfl) ?_
              refine eu_iald 2 (n := 1600) rfl (by decide) rfl (fun _ => rfl) (by decide) ?_
              show Ev kz ((d + 1), 171, 80, [some (.inr (.inr 21)), some (.inr (.inr 2)), some (.inl x2), some (.inr (.inr 3)), none, none], [.inl ((am_upd (am_upd U1 21 1 (w32 ((w32 (256 * (U1 2 0))) + (U1 2 1)))) 21 2 0) 2 2)], (am_sh, am_mm (am_upd (am_upd U1 21 1 (w32 ((w32 (256 * (U1 2 0))) + (U1 2 1)))) 21 2 0))) R
              refine ev_br (P := 1 < ((am_upd (am_upd U1 21 1 (w32 ((w32 (256 * (U1 2 0))) + (U1 2 1)))) 21 2 0) 2 2)) (σ1 := ((d + 1), 171, 99, [some (.inr (.inr 21)), some (.inr (.inr 2)), some (.inl x2), some (.inr (.inr 3)), none, none], [], (am_sh, am_mm (am_upd (am_upd U1 21 1 (w32 ((w32 (256 * (U1 2 0))) + (U1 2 1)))) 21 2 0)))) (σ2 := ((d + 1), 171, 84, [some (.inr (.inr 21)), some (.inr (.inr 2)), some (.inl x2), some (.inr (.inr 3)), none, none], [], (am_sh, am_mm (am_upd (am_upd U1 21 1 (w32 ((w32 (256 * (U1 2 0))) + (U1 2 1)))) 21 2 0)))) 2 (fun _ => rfl) (fun hc => ?_) (fun hc => ?_)
              · have ha2221121 := ha222112.1 hc
                subst ha2221121
                exact ev_end 2 (fun _ => rfl)
              · have ha2221122 := ha222112.2 hc
                refine ev_seg (σ1 := ((d + 1), 171, 88, [some (.inr (.inr 21)), some (.inr (.inr 2)), some (.inl x2), some (.inr (.inr 3)), none, none], [.inl (w32 (x2 - 1)), .inr (.inr 2)], (am_sh, am_mm (am_upd (am_upd U1 21 1 (w32 ((w32 (256 * (U1 2 0))) + (U1 2 1)))) 21 2 0)))) 4 (fun _ => rfl) ?_
                refine eu_iald 2 (n := 1600) rfl (by decide) rfl (fun _ => rfl) ha2221122.1 ?_
                have ha2221122a := ha2221122.2
                refine ev_seg (σ1 := ((d + 1), 171, 93, [some (.inr (.inr 21)), some (.inr (.inr 2)), some (.inl x2), some (.inr (.inr 3)), none, none], [.inl (w32 (x2 - 1)), .inr (.inr 2), .inl ((am_upd (am_upd U1 21 1 (w32 ((w32 (256 * (U1 2 0))) + (U1 2 1)))) 21 2 0) 2 (w32 (x2 - 1)).toNat)], (am_sh, am_mm (am_upd (am_upd U1 21 1 (w32 ((w32 (256 * (U1 2 0))) + (U1 2 1)))) 21 2 0)))) 4 (fun _ => rfl) ?_
                obtain ⟨r2, U2, ha2221122ac, ha2221122aa⟩ := ha2221122a
                refine ev_cal (σc := (d, 244, 0, [some (.inr (.inr 2)), some (.inl (w32 (x2 - 1))), none, none], [], (am_sh, am_mm (am_upd (am_upd U1 21 1 (w32 ((w32 (256 * (U1 2 0))) + (U1 2 1)))) 21 2 0)))) (fun _ => rfl) ha2221122ac ?_
                show Ev kz ((d + 1), 171, 96, [some (.inr (.inr 21)), some (.inr (.inr 2)), some (.inl x2), some (.inr (.inr 3)), none, none], [.inl r2, .inl ((am_upd (am_upd U1 21 1 (w32 ((w32 (256 * (U1 2 0))) + (U1 2 1)))) 21 2 0) 2 (w32 (x2 - 1)).toNat)], (am_sh, am_mm U2)) R
                refine ev_br (P := ((am_upd (am_upd U1 21 1 (w32 ((w32 (256 * (U1 2 0))) + (U1 2 1)))) 21 2 0) 2 (w32 (x2 - 1)).toNat) = r2) (σ1 := ((d + 1), 171, 101, [some (.inr (.inr 21)), some (.inr (.inr 2)), some (.inl x2), some (.inr (.inr 3)), none, none], [], (am_sh, am_mm U2))) (σ2 := ((d + 1), 171, 99, [some (.inr (.inr 21)), some (.inr (.inr 2)), some (.inl x2), some (.inr (.inr 3)), none, none], [], (am_sh, am_mm U2))) 1 (fun _ => rfl) (fun hc => ?_) (fun hc => ?_)
                · have ha2221122aa1 := ha2221122aa.1 hc
                  refine ev_seg (σ1 := ((d + 1), 171, 104, [some (.inr (.inr 21)), some (.inr (.inr 2)), some (.inl x2), some (.inr (.inr 3)), some (.inl 4), none], [], (am_sh, am_mm U2))) 2 (fun _ => rfl) ?_
                  exact ha2221122aa1
                · have ha2221122aa2 := ha2221122aa.2 hc
                  subst ha2221122aa2
                  exact ev_end 2 (fun _ => rfl)
          · have ha22212 := ha2221.2 hc
            refine ev_seg (σ1 := ((d + 1), 171, 64, [some (.inr (.inr 21)), some (.inr (.inr 2)), some (.inl x2), some (.inr (.inr 3)), none, none], [.inl 1, .inr (.inr 21)], (am_sh, am_mm (am_upd U1 21 1 (w32 ((w32 (256 * (U1 2 0))) + (U1 2 1))))))) 2 (fun _ => rfl) ?_
            refine eu_putz 21 (n := 7) rfl (by decide) rfl rfl (by decide) ?_
            refine ev_br (P := 9999 < ((am_upd (am_upd U1 21 1 (w32 ((w32 (256 * (U1 2 0))) + (U1 2 1)))) 21 2 1) 21 1)) (σ1 := ((d + 1), 171, 99, [some (.inr (.inr 21)), some (.inr (.inr 2)), some (.inl x2), some (.inr (.inr 3)), none, none], [], (am_sh, am_mm (am_upd (am_upd U1 21 1 (w32 ((w32 (256 * (U1 2 0))) + (U1 2 1)))) 21 2 1)))) (σ2 := ((d + 1), 171, 77, [some (.inr (.inr 21)), some (.inr (.inr 2)), some (.inl x2), some (.inr (.inr 3)), none, none], [], (am_sh, am_mm (am_upd (am_upd U1 21 1 (w32 ((w32 (256 * (U1 2 0))) + (U1 2 1)))) 21 2 1)))) 4 (fun _ => rfl) (fun hc => ?_) (fun hc => ?_)
            · have ha222121 := ha22212.1 hc
              subst ha222121
              exact ev_end 2 (fun _ => rfl)
            · have ha222122 := ha22212.2 hc
              refine ev_seg (σ1 := ((d + 1), 171, 79, [some (.inr (.inr 21)), some (.inr (.inr 2)), some (.inl x2), some (.inr (.inr 3)), none, none], [.inl 2, .inr (.inr 2)], (am_sh, am_mm (am_upd (am_upd U1 21 1 (w32 ((w32 (256 * (U1 2 0))) + (U1 2 1)))) 21 2 1)))) 2 (fun _ => rfl) ?_
              refine eu_iald 2 (n := 1600) rfl (by decide) rfl (fun _ => rfl) (by decide) ?_
              show Ev kz ((d + 1), 171, 80, [some (.inr (.inr 21)), some (.inr (.inr 2)), some (.inl x2), some (.inr (.inr 3)), none, none], [.inl ((am_upd (am_upd U1 21 1 (w32 ((w32 (256 * (U1 2 0))) + (U1 2 1)))) 21 2 1) 2 2)], (am_sh, am_mm (am_upd (am_upd U1 21 1 (w32 ((w32 (256 * (U1 2 0))) + (U1 2 1)))) 21 2 1))) R
              refine ev_br (P := 1 < ((am_upd (am_upd U1 21 1 (w32 ((w32 (256 * (U1 2 0))) + (U1 2 1)))) 21 2 1) 2 2)) (σ1 := ((d + 1), 171, 99, [some (.inr (.inr 21)), some (.inr (.inr 2)), some (.inl x2), some (.inr (.inr 3)), none, none], [], (am_sh, am_mm (am_upd (am_upd U1 21 1 (w32 ((w32 (256 * (U1 2 0))) + (U1 2 1)))) 21 2 1)))) (σ2 := ((d + 1), 171, 84, [some (.inr (.inr 21)), some (.inr (.inr 2)), some (.inl x2), some (.inr (.inr 3)), none, none], [], (am_sh, am_mm (am_upd (am_upd U1 21 1 (w32 ((w32 (256 * (U1 2 0))) + (U1 2 1)))) 21 2 1)))) 2 (fun _ => rfl) (fun hc => ?_) (fun hc => ?_)
              · have ha2221221 := ha222122.1 hc
                subst ha2221221
                exact ev_end 2 (fun _ => rfl)
              · have ha2221222 := ha222122.2 hc
                refine ev_seg (σ1 := ((d + 1), 171, 88, [some (.inr (.inr 21)), some (.inr (.inr 2)), some (.inl x2), some (.inr (.inr 3)), none, none], [.inl (w32 (x2 - 1)), .inr (.inr 2)], (am_sh, am_mm (am_upd (am_upd U1 21 1 (w32 ((w32 (256 * (U1 2 0))) + (U1 2 1)))) 21 2 1)))) 4 (fun _ => rfl) ?_
                refine eu_iald 2 (n := 1600) rfl (by decide) rfl (fun _ => rfl) ha2221222.1 ?_
                have ha2221222a := ha2221222.2
                refine ev_seg (σ1 := ((d + 1), 171, 93, [some (.inr (.inr 21)), some (.inr (.inr 2)), some (.inl x2), some (.inr (.inr 3)), none, none], [.inl (w32 (x2 - 1)), .inr (.inr 2), .inl ((am_upd (am_upd U1 21 1 (w32 ((w32 (256 * (U1 2 0))) + (U1 2 1)))) 21 2 1) 2 (w32 (x2 - 1)).toNat)], (am_sh, am_mm (am_upd (am_upd U1 21 1 (w32 ((w32 (256 * (U1 2 0))) + (U1 2 1)))) 21 2 1)))) 4 (fun _ => rfl) ?_
                obtain ⟨r3, U3, ha2221222ac, ha2221222aa⟩ := ha2221222a
                refine ev_cal (σc := (d, 244, 0, [some (.inr (.inr 2)), some (.inl (w32 (x2 - 1))), none, none], [], (am_sh, am_mm (am_upd (am_upd U1 21 1 (w32 ((w32 (256 * (U1 2 0))) + (U1 2 1)))) 21 2 1)))) (fun _ => rfl) ha2221222ac ?_
                show Ev kz ((d + 1), 171, 96, [some (.inr (.inr 21)), some (.inr (.inr 2)), some (.inl x2), some (.inr (.inr 3)), none, none], [.inl r3, .inl ((am_upd (am_upd U1 21 1 (w32 ((w32 (256 * (U1 2 0))) + (U1 2 1)))) 21 2 1) 2 (w32 (x2 - 1)).toNat)], (am_sh, am_mm U3)) R
                refine ev_br (P := ((am_upd (am_upd U1 21 1 (w32 ((w32 (256 * (U1 2 0))) + (U1 2 1)))) 21 2 1) 2 (w32 (x2 - 1)).toNat) = r3) (σ1 := ((d + 1), 171, 101, [some (.inr (.inr 21)), some (.inr (.inr 2)), some (.inl x2), some (.inr (.inr 3)), none, none], [], (am_sh, am_mm U3))) (σ2 := ((d + 1), 171, 99, [some (.inr (.inr 21)), some (.inr (.inr 2)), some (.inl x2), some (.inr (.inr 3)), none, none], [], (am_sh, am_mm U3))) 1 (fun _ => rfl) (fun hc => ?_) (fun hc => ?_)
                · have ha2221222aa1 := ha2221222aa.1 hc
                  refine ev_seg (σ1 := ((d + 1), 171, 104, [some (.inr (.inr 21)), some (.inr (.inr 2)), some (.inl x2), some (.inr (.inr 3)), some (.inl 4), none], [], (am_sh, am_mm U3))) 2 (fun _ => rfl) ?_
                  exact ha2221222aa1
                · have ha2221222aa2 := ha2221222aa.2 hc
                  subst ha2221222aa2
                  exact ev_end 2 (fun _ => rfl)
        · have ha2222 := ha222.2 hc
          subst ha2222
          exact ev_end 2 (fun _ => rfl)
set_option maxRecDepth 8000 in
theorem st171_21_2_3_104 (kz : am_Z) (d : Nat) (x2 x4 : Int) (U : Nat → Nat → Int) (R : Option am_V × am_M) (h : (((x2 ≤ (w32 (x4 + 5)) : Prop)) → R = (some (.inl 1), (am_sh, am_mm U))) ∧ (¬ (x2 ≤ (w32 (x4 + 5))) → (0 ≤ x4 ∧ x4 < 1600) ∧ (0 ≤ (w32 (x4 + 1)) ∧ (w32 (x4 + 1)) < 1600) ∧ (0 ≤ (w32 (x4 + 2)) ∧ (w32 (x4 + 2)) < 1600) ∧ (0 ≤ (w32 (x4 + 3)) ∧ (w32 (x4 + 3)) < 1600) ∧ (0 ≤ (w32 (x4 + 4)) ∧ (w32 (x4 + 4)) < 1600) ∧ ∃ (r1 : Int) (U1 : Nat → Nat → Int), Ev kz (d, 245, 0, [some (.inr (.inr 21)), some (.inl (am_or (am_or (am_or (am_shl (U 2 x4.toNat) 24) (am_shl (U 2 (w32 (x4 + 1)).toNat) 16)) (am_shl (U 2 (w32 (x4 + 2)).toNat) 8)) (U 2 (w32 (x4 + 3)).toNat))), some (.inl (w32 ((U 2 (w32 (x4 + 4)).toNat) - 1))), some (.inr (.inr 3))], [], (am_sh, am_mm U)) (some (.inl r1), (am_sh, am_mm U1)) ∧ (((¬ r1 = 0 : Prop)) → Ev kz ((d + 1), 171, 104, [some (.inr (.inr 21)), some (.inr (.inr 2)), some (.inl x2), some (.inr (.inr 3)), some (.inl (w32 (x4 + 5))), some (.inl (am_or (am_or (am_or (am_shl (U 2 x4.toNat) 24) (am_shl (U 2 (w32 (x4 + 1)).toNat) 16)) (am_shl (U 2 (w32 (x4 + 2)).toNat) 8)) (U 2 (w32 (x4 + 3)).toNat)))], [], (am_sh, am_mm U1)) R) ∧ (¬ (¬ r1 = 0) → R = (some (.inl 0), (am_sh, am_mm U1))))) : Ev kz ((d + 1), 171, 104, [some (.inr (.inr 21)), some (.inr (.inr 2)), some (.inl x2), some (.inr (.inr 3)), some (.inl x4), none], [], (am_sh, am_mm U)) R := by
  refine ev_br (P := x2 ≤ (w32 (x4 + 5))) (σ1 := ((d + 1), 171, 174, [some (.inr (.inr 21)), some (.inr (.inr 2)), some (.inl x2), some (.inr (.inr 3)), some (.inl x4), none], [], (am_sh, am_mm U))) (σ2 := ((d + 1), 171, 112, [some (.inr (.inr 21)), some (.inr (.inr 2)), some (.inl x2), some (.inr (.inr 3)), some (.inl x4), none], [], (am_sh, am_mm U))) 5 (fun _ => rfl) (fun hc => ?_) (fun hc => ?_)
  · have h1 := h.1 hc
    subst h1
    exact ev_end 2 (fun _ => rfl)
  · have h2 := h.2 hc
    refine ev_seg (σ1 := ((d + 1), 171, 115, [some (.inr (.inr 21)), some (.inr (.inr 2)), some (.inl x2), some (.inr (.inr 3)), some (.inl x4), none], [.inl x4, .inr (.inr 2)], (am_sh, am_mm U))) 2 (fun _ => rfl) ?_
    refine eu_iald 2 (n := 1600) rfl (by decide) rfl (fun _ => rfl) h2.1 ?_
    have h2a := h2.2
    refine ev_seg (σ1 := ((d + 1), 171, 124, [some (.inr (.inr 21)), some (.inr (.inr 2)), some (.inl x2), some (.inr (.inr 3)), some (.inl x4), none], [.inl (w32 (x4 + 1)), .inr (.inr 2), .inl (am_shl (U 2 x4.toNat) 24)], (am_sh, am_mm U))) 6 (fun _ => rfl) ?_
    refine eu_iald 2 (n := 1600) rfl (by decide) rfl (fun _ => rfl) h2a.1 ?_
    have h2aa := h2a.2
    refine ev_seg (σ1 := ((d + 1), 171, 134, [some (.inr (.inr 21)), some (.inr (.inr 2)), some (.inl x2), some (.inr (.inr 3)), some (.inl x4), none], [.inl (w32 (x4 + 2)), .inr (.inr 2), .inl (am_or (am_shl (U 2 x4.toNat) 24) (am_shl (U 2 (w32 (x4 + 1)).toNat) 16))], (am_sh, am_mm U))) 7 (fun _ => rfl) ?_
    refine eu_iald 2 (n := 1600) rfl (by decide) rfl (fun _ => rfl) h2aa.1 ?_
    have h2aaa := h2aa.2
    refine ev_seg (σ1 := ((d + 1), 171, 144, [some (.inr (.inr 21)), some (.inr (.inr 2)), some (.inl x2), some (.inr (.inr 3)), some (.inl x4), none], [.inl (w32 (x4 + 3)), .inr (.inr 2), .inl (am_or (am_or (am_shl (U 2 x4.toNat) 24) (am_shl (U 2 (w32 (x4 + 1)).toNat) 16)) (am_shl (U 2 (w32 (x4 + 2)).toNat) 8))], (am_sh, am_mm U))) 7 (fun _ => rfl) ?_
    refine eu_iald 2 (n := 1600) rfl (by decide) rfl (fun _ => rfl) h2aaa.1 ?_
    have h2aaaa := h2aaa.2
    refine ev_seg (σ1 := ((d + 1), 171, 156, [some (.inr (.inr 21)), some (.inr (.inr 2)), some (.inl x2), some (.inr (.inr 3)), some (.inl x4), some (.inl (am_or (am_or (am_or (am_shl (U 2 x4.toNat) 24) (am_shl (U 2 (w32 (x4 + 1)).toNat) 16)) (am_shl (U 2 (w32 (x4 + 2)).toNat) 8)) (U 2 (w32 (x4 + 3)).toNat)))], [.inl (w32 (x4 + 4)), .inr (.inr 2), .inl (am_or (am_or (am_or (am_shl (U 2 x4.toNat) 24) (am_shl (U 2 (w32 (x4 + 1)).toNat) 16)) (am_shl (U 2 (w32 (x4 + 2)).toNat) 8)) (U 2 (w32 (x4 + 3)).toNat)), .inr (.inr 21)], (am_sh, am_mm U))) 8 (fun _ => rfl) ?_
    refine eu_iald 2 (n := 1600) rfl (by decide) rfl (fun _ => rfl) h2aaaa.1 ?_
    have h2aaaaa := h2aaaa.2
    refine ev_seg (σ1 := ((d + 1), 171, 160, [some (.inr (.inr 21)), some (.inr (.inr 2)), some (.inl x2), some (.inr (.inr 3)), some (.inl x4), some (.inl (am_or (am_or (am_or (am_shl (U 2 x4.toNat) 24) (am_shl (U 2 (w32 (x4 + 1)).toNat) 16)) (am_shl (U 2 (w32 (x4 + 2)).toNat) 8)) (U 2 (w32 (x4 + 3)).toNat)))], [.inr (.inr 3), .inl (w32 ((U 2 (w32 (x4 + 4)).toNat) - 1)), .inl (am_or (am_or (am_or (am_shl (U 2 x4.toNat) 24) (am_shl (U 2 (w32 (x4 + 1)).toNat) 16)) (am_shl (U 2 (w32 (x4 + 2)).toNat) 8)) (U 2 (w32 (x4 + 3)).toNat)), .inr (.inr 21)], (am_sh, am_mm U))) 3 (fun _ => rfl) ?_
    obtain ⟨r1, U1, h2aaaaac, h2aaaaaa⟩ := h2aaaaa
    refine ev_cal (σc := (d, 245, 0, [some (.inr (.inr 21)), some (.inl (am_or (am_or (am_or (am_shl (U 2 x4.toNat) 24) (am_shl (U 2 (w32 (x4 + 1)).toNat) 16)) (am_shl (U 2 (w32 (x4 + 2)).toNat) 8)) (U 2 (w32 (x4 + 3)).toNat))), some (.inl (w32 ((U 2 (w32 (x4 + 4)).toNat) - 1))), some (.inr (.inr 3))], [], (am_sh, am_mm U))) (fun _ => rfl) h2aaaaac ?_
    show Ev kz ((d + 1), 171, 163, [some (.inr (.inr 21)), some (.inr (.inr 2)), some (.inl x2), some (.inr (.inr 3)), some (.inl x4), some (.inl (am_or (am_or (am_or (am_shl (U 2 x4.toNat) 24) (am_shl (U 2 (w32 (x4 + 1)).toNat) 16)) (am_shl (U 2 (w32 (x4 + 2)).toNat) 8)) (U 2 (w32 (x4 + 3)).toNat)))], [.inl r1], (am_sh, am_mm U1)) R
    refine ev_br (P := ¬ r1 = 0) (σ1 := ((d + 1), 171, 168, [some (.inr (.inr 21)), some (.inr (.inr 2)), some (.inl x2), some (.inr (.inr 3)), some (.inl x4), some (.inl (am_or (am_or (am_or (am_shl (U 2 x4.toNat) 24) (am_shl (U 2 (w32 (x4 + 1)).toNat) 16)) (am_shl (U 2 (w32 (x4 + 2)).toNat) 8)) (U 2 (w32 (x4 + 3)).toNat)))], [], (am_sh, am_mm U1))) (σ2 := ((d + 1), 171, 166, [some (.inr (.inr 21)), some (.inr (.inr 2)), some (.inl x2), some (.inr (.inr 3)), some (.inl x4), some (.inl (am_or (am_or (am_or (am_shl (U 2 x4.toNat) 24) (am_shl (U 2 (w32 (x4 + 1)).toNat) 16)) (am_shl (U 2 (w32 (x4 + 2)).toNat) 8)) (U 2 (w32 (x4 + 3)).toNat)))], [], (am_sh, am_mm U1))) 1 (fun _ => rfl) (fun hc => ?_) (fun hc => ?_)
    · have h2aaaaaa1 := h2aaaaaa.1 hc
      refine ev_seg (σ1 := ((d + 1), 171, 104, [some (.inr (.inr 21)), some (.inr (.inr 2)), some (.inl x2), some (.inr (.inr 3)), some (.inl (w32 (x4 + 5))), some (.inl (am_or (am_or (am_or (am_shl (U 2 x4.toNat) 24) (am_shl (U 2 (w32 (x4 + 1)).toNat) 16)) (am_shl (U 2 (w32 (x4 + 2)).toNat) 8)) (U 2 (w32 (x4 + 3)).toNat)))], [], (am_sh, am_mm U1))) 2 (fun _ => rfl) ?_
      exact h2aaaaaa1
    · have h2aaaaaa2 := h2aaaaaa.2 hc
      subst h2aaaaaa2
      exact ev_end 2 (fun _ => rfl)
set_option maxRecDepth 8000 in
theorem st172_86_0 (kz : am_Z) (d : Nat) (x1 : Int) (U : Nat → Nat → Int) (R : Option am_V × am_M) (h : (((x1 < 5 : Prop)) → R = (some (.inl 0), (am_sh, am_mm U))) ∧ (¬ (x1 < 5) → (((9999 < (am_or (am_shl (U 87 0) 8) (U 87 1)) : Prop)) → R = (some (.inl 0), (am_sh, am_mm U))) ∧ (¬ (9999 < (am_or (am_shl (U 87 0) 8) (U 87 1))) → (((1 < (U 87 2) : Prop)) → R = (some (.inl 0), (am_sh, am_mm U))) ∧ (¬ (1 < (U 87 2)) → (((16 < (U 87 3) : Prop)) → R = (some (.inl 0), (am_sh, am_mm U))) ∧ (¬ (16 < (U 87 3)) → (((x1 = (w32 (5 + (w32 (5 * (U 87 3))))) : Prop)) → Ev kz ((d + 1), 172, 69, [some (.inr (.inr 86)), some (.inl x1), some (.inl 73), some (.inl 0), none, none], [], (am_sh, am_mm U)) R) ∧ (¬ (x1 = (w32 (5 + (w32 (5 * (U 87 3)))))) → R = (some (.inl 0), (am_sh, am_mm U)))))))) : Ev kz ((d + 1), 172, 0, [some (.inr (.inr 86)), some (.inl x1), none, none, none, none], [], (am_sh, am_mm U)) R := by
  refine ev_br (P := x1 < 5) (σ1 := ((d + 1), 172, 62, [some (.inr (.inr 86)), some (.inl x1), none, none, none, none], [], (am_sh, am_mm U))) (σ2 := ((d + 1), 172, 5, [some (.inr (.inr 86)), some (.inl x1), none, none, none, none], [], (am_sh, am_mm U))) 3 (fun _ => rfl) (fun hc => ?_) (fun hc => ?_)
  · have h1 := h.1 hc
    subst h1
    exact ev_end 2 (fun _ => rfl)
  · have h2 := h.2 hc
    refine ev_seg (σ1 := ((d + 1), 172, 10, [some (.inr (.inr 86)), some (.inl x1), none, none, none, none], [.inl 0, .inr (.inr 87)], (am_sh, am_mm U))) 3 (fun _ => rfl) ?_
    refine eu_iald 87 (n := 1800) rfl (by decide) rfl (fun _ => rfl) (by decide) ?_
    show Ev kz ((d + 1), 172, 11, [some (.inr (.inr 86)), some (.inl x1), none, none, none, none], [.inl (U 87 0)], (am_sh, am_mm U)) R
    refine ev_seg (σ1 := ((d + 1), 172, 19, [some (.inr (.inr 86)), some (.inl x1), none, none, none, none], [.inl 1, .inr (.inr 87), .inl (am_shl (U 87 0) 8)], (am_sh, am_mm U))) 5 (fun _ => rfl) ?_
    refine eu_iald 87 (n := 1800) rfl (by decide) rfl (fun _ => rfl) (by decide) ?_
    show Ev kz ((d + 1), 172, 20, [some (.inr (.inr 86)), some (.inl x1), none, none, none, none], [.inl (U 87 1), .inl (am_shl (U 87 0) 8)], (am_sh, am_mm U)) R
    refine ev_br (P := 9999 < (am_or (am_shl (U 87 0) 8) (U 87 1))) (σ1 := ((d + 1), 172, 62, [some (.inr (.inr 86)), some (.inl x1), none, none, none, none], [], (am_sh, am_mm U))) (σ2 := ((d + 1), 172, 27, [some (.inr (.inr 86)), some (.inl x1), none, none, none, none], [], (am_sh, am_mm U))) 3 (fun _ => rfl) (fun hc => ?_) (fun hc => ?_)
    · have h21 := h2.1 hc
      subst h21
      exact ev_end 2 (fun _ => rfl)
    · have h22 := h2.2 hc
      refine ev_seg (σ1 := ((d + 1), 172, 32, [some (.inr (.inr 86)), some (.inl x1), none, none, none, none], [.inl 2, .inr (.inr 87)], (am_sh, am_mm U))) 3 (fun _ => rfl) ?_
      refine eu_iald 87 (n := 1800) rfl (by decide) rfl (fun _ => rfl) (by decide) ?_
      show Ev kz ((d + 1), 172, 33, [some (.inr (.inr 86)), some (.inl x1), none, none, none, none], [.inl (U 87 2)], (am_sh, am_mm U)) R
      refine ev_br (P := 1 < (U 87 2)) (σ1 := ((d + 1), 172, 62, [some (.inr (.inr 86)), some (.inl x1), none, none, none, none], [], (am_sh, am_mm U))) (σ2 := ((d + 1), 172, 37, [some (.inr (.inr 86)), some (.inl x1), none, none, none, none], [], (am_sh, am_mm U))) 2 (fun _ => rfl) (fun hc => ?_) (fun hc => ?_)
      · have h221 := h22.1 hc
        subst h221
        exact ev_end 2 (fun _ => rfl)
      · have h222 := h22.2 hc
        refine ev_seg (σ1 := ((d + 1), 172, 42, [some (.inr (.inr 86)), some (.inl x1), none, none, none, none], [.inl 3, .inr (.inr 87)], (am_sh, am_mm U))) 3 (fun _ => rfl) ?_
        refine eu_iald 87 (n := 1800) rfl (by decide) rfl (fun _ => rfl) (by decide) ?_
        show Ev kz ((d + 1), 172, 43, [some (.inr (.inr 86)), some (.inl x1), none, none, none, none], [.inl (U 87 3)], (am_sh, am_mm U)) R
        refine ev_br (P := 16 < (U 87 3)) (σ1 := ((d + 1), 172, 62, [some (.inr (.inr 86)), some (.inl x1), none, none, none, none], [], (am_sh, am_mm U))) (σ2 := ((d + 1), 172, 48, [some (.inr (.inr 86)), some (.inl x1), none, none, none, none], [], (am_sh, am_mm U))) 2 (fun _ => rfl) (fun hc => ?_) (fun hc => ?_)
        · have h2221 := h222.1 hc
          subst h2221
          exact ev_end 2 (fun _ => rfl)
        · have h2222 := h222.2 hc
          refine ev_seg (σ1 := ((d + 1), 172, 56, [some (.inr (.inr 86)), some (.inl x1), none, none, none, none], [.inl 3, .inr (.inr 87), .inl 5, .inl 5, .inl x1], (am_sh, am_mm U))) 6 (fun _ => rfl) ?_
          refine eu_iald 87 (n := 1800) rfl (by decide) rfl (fun _ => rfl) (by decide) ?_
          show Ev kz ((d + 1), 172, 57, [some (.inr (.inr 86)), some (.inl x1), none, none, none, none], [.inl (U 87 3), .inl 5, .inl 5, .inl x1], (am_sh, am_mm U)) R
          refine ev_br (P := x1 = (w32 (5 + (w32 (5 * (U 87 3)))))) (σ1 := ((d + 1), 172, 64, [some (.inr (.inr 86)), some (.inl x1), none, none, none, none], [], (am_sh, am_mm U))) (σ2 := ((d + 1), 172, 62, [some (.inr (.inr 86)), some (.inl x1), none, none, none, none], [], (am_sh, am_mm U))) 3 (fun _ => rfl) (fun hc => ?_) (fun hc => ?_)
          · have h22221 := h2222.1 hc
            refine ev_seg (σ1 := ((d + 1), 172, 69, [some (.inr (.inr 86)), some (.inl x1), some (.inl 73), some (.inl 0), none, none], [], (am_sh, am_mm U))) 4 (fun _ => rfl) ?_
            exact h22221
          · have h22222 := h2222.2 hc
            subst h22222
            exact ev_end 2 (fun _ => rfl)
set_option maxRecDepth 8000 in
theorem st172_86_69 (kz : am_Z) (d : Nat) (x1 x2 x3 : Int) (U : Nat → Nat → Int) (R : Option am_V × am_M) (h : ((((w32 (x1 - 1)) ≤ x3 : Prop)) → (0 ≤ (w32 (x1 - 1)) ∧ (w32 (x1 - 1)) < 1800) ∧ ((((U 87 (w32 (x1 - 1)).toNat) = x2 : Prop)) → Ev kz ((d + 1), 172, 125, [some (.inr (.inr 86)), some (.inl x1), some (.inl x2), some (.inl 0), none, none], [], (am_sh, am_mm (am_upd U 122 1 (U 87 3)))) R) ∧ (¬ ((U 87 (w32 (x1 - 1)).toNat) = x2) → R = (some (.inl 0), (am_sh, am_mm U)))) ∧ (¬ ((w32 (x1 - 1)) ≤ x3) → (0 ≤ x3 ∧ x3 < 1800) ∧ Ev kz ((d + 1), 172, 69, [some (.inr (.inr 86)), some (.inl x1), some (.inl (Int.tmod (w32 ((w32 (5 * x2)) + (U 87 x3.toNat))) 251)), some (.inl (w32 (x3 + 1))), none, none], [], (am_sh, am_mm U)) R)) : Ev kz ((d + 1), 172, 69, [some (.inr (.inr 86)), some (.inl x1), some (.inl x2), some (.inl x3), none, none], [], (am_sh, am_mm U)) R := by
  refine ev_br (P := (w32 (x1 - 1)) ≤ x3) (σ1 := ((d + 1), 172, 97, [some (.inr (.inr 86)), some (.inl x1), some (.inl x2), some (.inl x3), none, none], [], (am_sh, am_mm U))) (σ2 := ((d + 1), 172, 76, [some (.inr (.inr 86)), some (.inl x1), some (.inl x2), some (.inl x3), none, none], [], (am_sh, am_mm U))) 5 (fun _ => rfl) (fun hc => ?_) (fun hc => ?_)
  · have h1 := h.1 hc
    refine ev_seg (σ1 := ((d + 1), 172, 104, [some (.inr (.inr 86)), some (.inl x1), some (.inl x2), some (.inl x3), none, none], [.inl (w32 (x1 - 1)), .inr (.inr 87)], (am_sh, am_mm U))) 5 (fun _ => rfl) ?_
    refine eu_iald 87 (n := 1800) rfl (by decide) rfl (fun _ => rfl) h1.1 ?_
    have h1a := h1.2
    refine ev_br (P := (U 87 (w32 (x1 - 1)).toNat) = x2) (σ1 := ((d + 1), 172, 111, [some (.inr (.inr 86)), some (.inl x1), some (.inl x2), some (.inl x3), none, none], [], (am_sh, am_mm U))) (σ2 := ((d + 1), 172, 109, [some (.inr (.inr 86)), some (.inl x1), some (.inl x2), some (.inl x3), none, none], [], (am_sh, am_mm U))) 2 (fun _ => rfl) (fun hc => ?_) (fun hc => ?_)
    · have h1a1 := h1a.1 hc
      refine ev_seg (σ1 := ((d + 1), 172, 121, [some (.inr (.inr 86)), some (.inl x1), some (.inl x2), some (.inl x3), none, none], [.inl 3, .inr (.inr 87), .inl 1, .inr (.inr 122)], (am_sh, am_mm U))) 6 (fun _ => rfl) ?_
      refine eu_iald 87 (n := 1800) rfl (by decide) rfl (fun _ => rfl) (by decide) ?_
      show Ev kz ((d + 1), 172, 122, [some (.inr (.inr 86)), some (.inl x1), some (.inl x2), some (.inl x3), none, none], [.inl (U 87 3), .inl 1, .inr (.inr 122)], (am_sh, am_mm U)) R
      refine eu_iast 122 (n := 22) rfl (by decide) rfl (fun _ => rfl) (by decide) ?_
      show Ev kz ((d + 1), 172, 123, [some (.inr (.inr 86)), some (.inl x1), some (.inl x2), some (.inl x3), none, none], [], (am_sh, am_mm (am_upd U 122 1 (U 87 3)))) R
      refine ev_seg (σ1 := ((d + 1), 172, 125, [some (.inr (.inr 86)), some (.inl x1), some (.inl x2), some (.inl 0), none, none], [], (am_sh, am_mm (am_upd U 122 1 (U 87 3))))) 2 (fun _ => rfl) ?_
      exact h1a1
    · have h1a2 := h1a.2 hc
      subst h1a2
      exact ev_end 2 (fun _ => rfl)
  · have h2 := h.2 hc
    refine ev_seg (σ1 := ((d + 1), 172, 84, [some (.inr (.inr 86)), some (.inl x1), some (.inl x2), some (.inl x3), none, none], [.inl x3, .inr (.inr 87), .inl (w32 (5 * x2))], (am_sh, am_mm U))) 6 (fun _ => rfl) ?_
    refine eu_iald 87 (n := 1800) rfl (by decide) rfl (fun _ => rfl) h2.1 ?_
    have h2a := h2.2
    refine ev_seg (σ1 := ((d + 1), 172, 89, [some (.inr (.inr 86)), some (.inl x1), some (.inl x2), some (.inl x3), none, none], [.inl 251, .inl (w32 ((w32 (5 * x2)) + (U 87 x3.toNat)))], (am_sh, am_mm U))) 2 (fun _ => rfl) ?_
    refine ev_irem rfl (by decide) ?_
    refine ev_seg (σ1 := ((d + 1), 172, 69, [some (.inr (.inr 86)), some (.inl x1), some (.inl (Int.tmod (w32 ((w32 (5 * x2)) + (U 87 x3.toNat))) 251)), some (.inl (w32 (x3 + 1))), none, none], [], (am_sh, am_mm U))) 3 (fun _ => rfl) ?_
    exact h2a
set_option maxRecDepth 8000 in
theorem st172_86_125 (kz : am_Z) (d : Nat) (x1 x2 x3 : Int) (U : Nat → Nat → Int) (R : Option am_V × am_M) (h : ((((U 87 3) ≤ x3 : Prop)) → ∃ (r1 : Int) (U1 : Nat → Nat → Int), Ev kz (d, 217, 0, [some (.inr (.inr 86)), some (.inl 1), none], [], (am_sh, am_mm U)) (some (.inl r1), (am_sh, am_mm U1)) ∧ (r1 = 0 ∨ r1 = 1) ∧ R = (some (.inl r1), (am_sh, am_mm U1))) ∧ (¬ ((U 87 3) ≤ x3) → ∃ (r2 : Int) (U2 : Nat → Nat → Int), Ev kz (d, 246, 0, [some (.inr (.inr 86)), some (.inl (w32 (4 + (w32 (5 * x3)))))], [], (am_sh, am_mm U)) (some (.inl r2), (am_sh, am_mm U2)) ∧ (((r2 = 0 : Prop)) → R = (some (.inl 0), (am_sh, am_mm U2))) ∧ (¬ (r2 = 0) → (((999999999 < r2 : Prop)) → R = (some (.inl 0), (am_sh, am_mm U2))) ∧ (¬ (999999999 < r2) → (((r2 < (-999999999) : Prop)) → R = (some (.inl 0), (am_sh, am_mm U2))) ∧ (¬ (r2 < (-999999999)) → (0 ≤ (w32 (8 + (w32 (5 * x3)))) ∧ (w32 (8 + (w32 (5 * x3)))) < 1800) ∧ (0 ≤ (U2 86 13) ∧ (U2 86 13) < 2) ∧ ((((U2 87 (w32 (8 + (w32 (5 * x3)))).toNat) ≤ (U2 90 (U2 86 13).toNat) : Prop)) → Ev kz ((d + 1), 172, 195, [some (.inr (.inr 86)), some (.inl x1), some (.inl x2), some (.inl x3), some (.inl r2), some (.inl 0)], [], (am_sh, am_mm U2)) R) ∧ (¬ ((U2 87 (w32 (8 + (w32 (5 * x3)))).toNat) ≤ (U2 90 (U2 86 13).toNat)) → R = (some (.inl 0), (am_sh, am_mm U2)))))))) : Ev kz ((d + 1), 172, 125, [some (.inr (.inr 86)), some (.inl x1), some (.inl x2), some (.inl x3), none, none], [], (am_sh, am_mm U)) R := by
  refine ev_seg (σ1 := ((d + 1), 172, 131, [some (.inr (.inr 86)), some (.inl x1), some (.inl x2), some (.inl x3), none, none], [.inl 3, .inr (.inr 87), .inl x3], (am_sh, am_mm U))) 4 (fun _ => rfl) ?_
  refine eu_iald 87 (n := 1800) rfl (by decide) rfl (fun _ => rfl) (by decide) ?_
  show Ev kz ((d + 1), 172, 132, [some (.inr (.inr 86)), some (.inl x1), some (.inl x2), some (.inl x3), none, none], [.inl (U 87 3), .inl x3], (am_sh, am_mm U)) R
  refine ev_br (P := (U 87 3) ≤ x3) (σ1 := ((d + 1), 172, 260, [some (.inr (.inr 86)), some (.inl x1), some (.inl x2), some (.inl x3), none, none], [], (am_sh, am_mm U))) (σ2 := ((d + 1), 172, 135, [some (.inr (.inr 86)), some (.inl x1), some (.inl x2), some (.inl x3), none, none], [], (am_sh, am_mm U))) 1 (fun _ => rfl) (fun hc => ?_) (fun hc => ?_)
  · have h1 := h.1 hc
    refine ev_seg (σ1 := ((d + 1), 172, 262, [some (.inr (.inr 86)), some (.inl x1), some (.inl x2), some (.inl x3), none, none], [.inl 1, .inr (.inr 86)], (am_sh, am_mm U))) 2 (fun _ => rfl) ?_
    obtain ⟨r1, U1, h1c, h1a⟩ := h1
    refine ev_cal (σc := (d, 217, 0, [some (.inr (.inr 86)), some (.inl 1), none], [], (am_sh, am_mm U))) (fun _ => rfl) h1c ?_
    show Ev kz ((d + 1), 172, 265, [some (.inr (.inr 86)), some (.inl x1), some (.inl x2), some (.inl x3), none, none], [.inl r1], (am_sh, am_mm U1)) R
    rw [h1a.2]
    exact ev_retz rfl rfl h1a.1
  · have h2 := h.2 hc
    refine ev_seg (σ1 := ((d + 1), 172, 141, [some (.inr (.inr 86)), some (.inl x1), some (.inl x2), some (.inl x3), none, none], [.inl (w32 (4 + (w32 (5 * x3)))), .inr (.inr 86)], (am_sh, am_mm U))) 6 (fun _ => rfl) ?_
    obtain ⟨r2, U2, h2c, h2a⟩ := h2
    refine ev_cal (σc := (d, 246, 0, [some (.inr (.inr 86)), some (.inl (w32 (4 + (w32 (5 * x3)))))], [], (am_sh, am_mm U))) (fun _ => rfl) h2c ?_
    show Ev kz ((d + 1), 172, 144, [some (.inr (.inr 86)), some (.inl x1), some (.inl x2), some (.inl x3), none, none], [.inl r2], (am_sh, am_mm U2)) R
    refine ev_br (P := r2 = 0) (σ1 := ((d + 1), 172, 190, [some (.inr (.inr 86)), some (.inl x1), some (.inl x2), some (.inl x3), some (.inl r2), none], [], (am_sh, am_mm U2))) (σ2 := ((d + 1), 172, 151, [some (.inr (.inr 86)), some (.inl x1), some (.inl x2), some (.inl x3), some (.inl r2), none], [], (am_sh, am_mm U2))) 3 (fun _ => rfl) (fun hc => ?_) (fun hc => ?_)
    · have h2a1 := h2a.1 hc
      subst h2a1
      exact ev_end 2 (fun _ => rfl)
    · have h2a2 := h2a.2 hc
      refine ev_br (P := 999999999 < r2) (σ1 := ((d + 1), 172, 190, [some (.inr (.inr 86)), some (.inl x1), some (.inl x2), some (.inl x3), some (.inl r2), none], [], (am_sh, am_mm U2))) (σ2 := ((d + 1), 172, 159, [some (.inr (.inr 86)), some (.inl x1), some (.inl x2), some (.inl x3), some (.inl r2), none], [], (am_sh, am_mm U2))) 3 (fun _ => rfl) (fun hc => ?_) (fun hc => ?_)
      · have h2a21 := h2a2.1 hc
        subst h2a21
        exact ev_end 2 (fun _ => rfl)
      · have h2a22 := h2a2.2 hc
        refine ev_br (P := r2 < (-999999999)) (σ1 := ((d + 1), 172, 190, [some (.inr (.inr 86)), some (.inl x1), some (.inl x2), some (.inl x3), some (.inl r2), none], [], (am_sh, am_mm U2))) (σ2 := ((d + 1), 172, 167, [some (.inr (.inr 86)), some (.inl x1), some (.inl x2), some (.inl x3), some (.inl r2), none], [], (am_sh, am_mm U2))) 3 (fun _ => rfl) (fun hc => ?_) (fun hc => ?_)
        · have h2a221 := h2a22.1 hc
          subst h2a221
          exact ev_end 2 (fun _ => rfl)
        · have h2a222 := h2a22.2 hc
          refine ev_seg (σ1 := ((d + 1), 172, 177, [some (.inr (.inr 86)), some (.inl x1), some (.inl x2), some (.inl x3), some (.inl r2), none], [.inl (w32 (8 + (w32 (5 * x3)))), .inr (.inr 87)], (am_sh, am_mm U2))) 7 (fun _ => rfl) ?_
          refine eu_iald 87 (n := 1800) rfl (by decide) rfl (fun _ => rfl) h2a222.1 ?_
          have h2a222a := h2a222.2
          refine ev_seg (σ1 := ((d + 1), 172, 186, [some (.inr (.inr 86)), some (.inl x1), some (.inl x2), some (.inl x3), some (.inl r2), none], [.inl (U2 86 13), .inr (.inr 90), .inl (U2 87 (w32 (8 + (w32 (5 * x3)))).toNat)], (am_sh, am_mm U2))) 4 (fun _ => rfl) ?_
          refine eu_iald 90 (n := 2) rfl (by decide) rfl (fun _ => rfl) h2a222a.1 ?_
          have h2a222aa := h2a222a.2
          refine ev_br (P := (U2 87 (w32 (8 + (w32 (5 * x3)))).toNat) ≤ (U2 90 (U2 86 13).toNat)) (σ1 := ((d + 1), 172, 192, [some (.inr (.inr 86)), some (.inl x1), some (.inl x2), some (.inl x3), some (.inl r2), none], [], (am_sh, am_mm U2))) (σ2 := ((d + 1), 172, 190, [some (.inr (.inr 86)), some (.inl x1), some (.inl x2), some (.inl x3), some (.inl r2), none], [], (am_sh, am_mm U2))) 1 (fun _ => rfl) (fun hc => ?_) (fun hc => ?_)
          · have h2a222aa1 := h2a222aa.1 hc
            refine ev_seg (σ1 := ((d + 1), 172, 195, [some (.inr (.inr 86)), some (.inl x1), some (.inl x2), some (.inl x3), some (.inl r2), some (.inl 0)], [], (am_sh, am_mm U2))) 2 (fun _ => rfl) ?_
            exact h2a222aa1
          · have h2a222aa2 := h2a222aa.2 hc
            subst h2a222aa2
            exact ev_end 2 (fun _ => rfl)
set_option maxRecDepth 8000 in
theorem st172_86_195 (kz : am_Z) (d : Nat) (x1 x2 x3 x4 x5 : Int) (U : Nat → Nat → Int) (R : Option am_V × am_M) (h : (((x3 ≤ x5 : Prop)) → (0 ≤ (w32 (16 + x3)) ∧ (w32 (16 + x3)) < 352) ∧ (0 ≤ (w32 (8 + (w32 (5 * x3)))) ∧ (w32 (8 + (w32 (5 * x3)))) < 1800) ∧ (0 ≤ (w32 (16 + x3)) ∧ (w32 (16 + x3)) < 352) ∧ Ev kz ((d + 1), 172, 125, [some (.inr (.inr 86)), some (.inl x1), some (.inl x2), some (.inl (w32 (x3 + 1))), some (.inl x4), some (.inl x5)], [], (am_sh, am_mm (am_upd (am_upd U 123 (w32 (16 + x3)).toNat x4) 124 (w32 (16 + x3)).toNat (w32 (((am_upd U 123 (w32 (16 + x3)).toNat x4) 87 (w32 (8 + (w32 (5 * x3)))).toNat) - 1))))) R) ∧ (¬ (x3 ≤ x5) → ∃ (r1 : Int) (U1 : Nat → Nat → Int), Ev kz (d, 203, 0, [some (.inr (.inr 86)), some (.inl 1), some (.inl x5)], [], (am_sh, am_mm U)) (some (.inl r1), (am_sh, am_mm U1)) ∧ (((¬ r1 = x4 : Prop)) → Ev kz ((d + 1), 172, 195, [some (.inr (.inr 86)), some (.inl x1), some (.inl x2), some (.inl x3), some (.inl x4), some (.inl (w32 (x5 + 1)))], [], (am_sh, am_mm U1)) R) ∧ (¬ (¬ r1 = x4) → R = (some (.inl 0), (am_sh, am_mm U1))))) : Ev kz ((d + 1), 172, 195, [some (.inr (.inr 86)), some (.inl x1), some (.inl x2), some (.inl x3), some (.inl x4), some (.inl x5)], [], (am_sh, am_mm U)) R := by
  refine ev_br (P := x3 ≤ x5) (σ1 := ((d + 1), 172, 221, [some (.inr (.inr 86)), some (.inl x1), some (.inl x2), some (.inl x3), some (.inl x4), some (.inl x5)], [], (am_sh, am_mm U))) (σ2 := ((d + 1), 172, 201, [some (.inr (.inr 86)), some (.inl x1), some (.inl x2), some (.inl x3), some (.inl x4), some (.inl x5)], [], (am_sh, am_mm U))) 3 (fun _ => rfl) (fun hc => ?_) (fun hc => ?_)
  · have h1 := h.1 hc
    refine ev_seg (σ1 := ((d + 1), 172, 231, [some (.inr (.inr 86)), some (.inl x1), some (.inl x2), some (.inl x3), some (.inl x4), some (.inl x5)], [.inl x4, .inl (w32 (16 + x3)), .inr (.inr 123)], (am_sh, am_mm U))) 6 (fun _ => rfl) ?_
    refine eu_iast 123 (n := 352) rfl (by decide) rfl (fun _ => rfl) h1.1 ?_
    have h1a := h1.2
    refine ev_seg (σ1 := ((d + 1), 172, 250, [some (.inr (.inr 86)), some (.inl x1), some (.inl x2), some (.inl x3), some (.inl x4), some (.inl x5)], [.inl (w32 (8 + (w32 (5 * x3)))), .inr (.inr 87), .inl (w32 (16 + x3)), .inr (.inr 124)], (am_sh, am_mm (am_upd U 123 (w32 (16 + x3)).toNat x4)))) 12 (fun _ => rfl) ?_
    refine eu_iald 87 (n := 1800) rfl (by decide) rfl (fun _ => rfl) h1a.1 ?_
    have h1aa := h1a.2
    refine ev_seg (σ1 := ((d + 1), 172, 253, [some (.inr (.inr 86)), some (.inl x1), some (.inl x2), some (.inl x3), some (.inl x4), some (.inl x5)], [.inl (w32 (((am_upd U 123 (w32 (16 + x3)).toNat x4) 87 (w32 (8 + (w32 (5 * x3)))).toNat) - 1)), .inl (w32 (16 + x3)), .inr (.inr 124)], (am_sh, am_mm (am_upd U 123 (w32 (16 + x3)).toNat x4)))) 2 (fun _ => rfl) ?_
    refine eu_iast 124 (n := 352) rfl (by decide) rfl (fun _ => rfl) h1aa.1 ?_
    have h1aaa := h1aa.2
    refine ev_seg (σ1 := ((d + 1), 172, 125, [some (.inr (.inr 86)), some (.inl x1), some (.inl x2), some (.inl (w32 (x3 + 1))), some (.inl x4), some (.inl x5)], [], (am_sh, am_mm (am_upd (am_upd U 123 (w32 (16 + x3)).toNat x4) 124 (w32 (16 + x3)).toNat (w32 (((am_upd U 123 (w32 (16 + x3)).toNat x4) 87 (w32 (8 + (w32 (5 * x3)))).toNat) - 1)))))) 2 (fun _ => rfl) ?_
    exact h1aaa
  · have h2 := h.2 hc
    refine ev_seg (σ1 := ((d + 1), 172, 205, [some (.inr (.inr 86)), some (.inl x1), some (.inl x2), some (.inl x3), some (.inl x4), some (.inl x5)], [.inl x5, .inl 1, .inr (.inr 86)], (am_sh, am_mm U))) 3 (fun _ => rfl) ?_
    obtain ⟨r1, U1, h2c, h2a⟩ := h2
    refine ev_cal (σc := (d, 203, 0, [some (.inr (.inr 86)), some (.inl 1), some (.inl x5)], [], (am_sh, am_mm U))) (fun _ => rfl) h2c ?_
    show Ev kz ((d + 1), 172, 208, [some (.inr (.inr 86)), some (.inl x1), some (.inl x2), some (.inl x3), some (.inl x4), some (.inl x5)], [.inl r1], (am_sh, am_mm U1)) R
    refine ev_br (P := ¬ r1 = x4) (σ1 := ((d + 1), 172, 215, [some (.inr (.inr 86)), some (.inl x1), some (.inl x2), some (.inl x3), some (.inl x4), some (.inl x5)], [], (am_sh, am_mm U1))) (σ2 := ((d + 1), 172, 213, [some (.inr (.inr 86)), some (.inl x1), some (.inl x2), some (.inl x3), some (.inl x4), some (.inl x5)], [], (am_sh, am_mm U1))) 2 (fun _ => rfl) (fun hc => ?_) (fun hc => ?_)
    · have h2a1 := h2a.1 hc
      refine ev_seg (σ1 := ((d + 1), 172, 195, [some (.inr (.inr 86)), some (.inl x1), some (.inl x2), some (.inl x3), some (.inl x4), some (.inl (w32 (x5 + 1)))], [], (am_sh, am_mm U1))) 2 (fun _ => rfl) ?_
      exact h2a1
    · have h2a2 := h2a.2 hc
      subst h2a2
      exact ev_end 2 (fun _ => rfl)
set_option maxRecDepth 8000 in
theorem st183_52_0 (kz : am_Z) (d : Nat) (U : Nat → Nat → Int) (R : Option am_V × am_M) (h : R = (none, (am_sh, am_mm (am_upd U 52 8 0)))) : Ev kz (d, 183, 0, [some (.inr (.inr 52))], [], (am_sh, am_mm U)) R := by
  refine ev_seg (σ1 := (d, 183, 2, [some (.inr (.inr 52))], [.inl 0, .inr (.inr 52)], (am_sh, am_mm U))) 2 (fun _ => rfl) ?_
  refine eu_putz 52 (n := 9) rfl (by decide) rfl rfl (by decide) ?_
  subst h
  exact ev_end 1 (fun _ => rfl)
set_option maxRecDepth 8000 in
theorem st182_48_0 (kz : am_Z) (d : Nat) (U : Nat → Nat → Int) (R : Option am_V × am_M) (h : R = (none, (am_sh, am_mm (am_upd U 48 9 0)))) : Ev kz (d, 182, 0, [some (.inr (.inr 48))], [], (am_sh, am_mm U)) R := by
  refine ev_seg (σ1 := (d, 182, 2, [some (.inr (.inr 48))], [.inl 0, .inr (.inr 48)], (am_sh, am_mm U))) 2 (fun _ => rfl) ?_
  refine eu_putz 48 (n := 10) rfl (by decide) rfl rfl (by decide) ?_
  subst h
  exact ev_end 1 (fun _ => rfl)
set_option maxRecDepth 8000 in
theorem st181_45_0 (kz : am_Z) (d : Nat) (U : Nat → Nat → Int) (R : Option am_V × am_M) (h : R = (none, (am_sh, am_mm (am_upd U 45 5 0)))) : Ev kz (d, 181, 0, [some (.inr (.inr 45))], [], (am_sh, am_mm U)) R := by
  refine ev_seg (σ1 := (d, 181, 2, [some (.inr (.inr 45))], [.inl 0, .inr (.inr 45)], (am_sh, am_mm U))) 2 (fun _ => rfl) ?_
  refine eu_putz 45 (n := 6) rfl (by decide) rfl rfl (by decide) ?_
  subst h
  exact ev_end 1 (fun _ => rfl)
set_option maxRecDepth 8000 in
theorem st176_21_0 (kz : am_Z) (d : Nat) (U : Nat → Nat → Int) (R : Option am_V × am_M) (h : ∃ U1 : Nat → Nat → Int, Ev kz (d, 211, 0, [some (.inr (.inr 24)), some (.inl 0), none, none], [], (am_sh, am_mm (am_upd (am_upd (am_upd U 21 0 0) 21 1 0) 21 2 0))) (none, (am_sh, am_mm U1)) ∧ R = (none, (am_sh, am_mm U1))) : Ev kz ((d + 1), 176, 0, [some (.inr (.inr 21))], [], (am_sh, am_mm U)) R := by
  refine ev_seg (σ1 := ((d + 1), 176, 2, [some (.inr (.inr 21))], [.inl 0, .inr (.inr 21)], (am_sh, am_mm U))) 2 (fun _ => rfl) ?_
  refine eu_puti 21 (n := 7) rfl (by decide) rfl rfl ?_
  refine ev_seg (σ1 := ((d + 1), 176, 7, [some (.inr (.inr 21))], [.inl 0, .inr (.inr 21)], (am_sh, am_mm (am_upd U 21 0 0)))) 2 (fun _ => rfl) ?_
  refine eu_puti 21 (n := 7) rfl (by decide) rfl rfl ?_
  refine ev_seg (σ1 := ((d + 1), 176, 12, [some (.inr (.inr 21))], [.inl 0, .inr (.inr 21)], (am_sh, am_mm (am_upd (am_upd U 21 0 0) 21 1 0)))) 2 (fun _ => rfl) ?_
  refine eu_putz 21 (n := 7) rfl (by decide) rfl rfl (by decide) ?_
  refine ev_seg (σ1 := ((d + 1), 176, 20, [some (.inr (.inr 21))], [.inl 0, .inr (.inr 24)], (am_sh, am_mm (am_upd (am_upd (am_upd U 21 0 0) 21 1 0) 21 2 0)))) 3 (fun _ => rfl) ?_
  obtain ⟨U1, hc, ha⟩ := h
  refine ev_cal (σc := (d, 211, 0, [some (.inr (.inr 24)), some (.inl 0), none, none], [], (am_sh, am_mm (am_upd (am_upd (am_upd U 21 0 0) 21 1 0) 21 2 0)))) (fun _ => rfl) hc ?_
  show Ev kz ((d + 1), 176, 23, [some (.inr (.inr 21))], [], (am_sh, am_mm U1)) R
  subst ha
  exact ev_end 1 (fun _ => rfl)
set_option maxRecDepth 8000 in
theorem st175_31_0 (kz : am_Z) (d : Nat) (U : Nat → Nat → Int) (R : Option am_V × am_M) (h : R = (none, (am_sh, am_mm (am_upd (am_upd (am_upd (am_upd (am_upd (am_upd (am_upd (am_upd (am_upd U 31 0 0) 31 1 0) 31 2 0) 31 3 0) 31 4 0) 31 5 0) 31 18 0) 41 8 0) 42 8 0)))) : Ev kz (d, 175, 0, [some (.inr (.inr 31))], [], (am_sh, am_mm U)) R := by
  refine ev_seg (σ1 := (d, 175, 2, [some (.inr (.inr 31))], [.inl 0, .inr (.inr 31)], (am_sh, am_mm U))) 2 (fun _ => rfl) ?_
  refine eu_puti 31 (n := 19) rfl (by decide) rfl rfl ?_
  refine ev_seg (σ1 := (d, 175, 7, [some (.inr (.inr 31))], [.inl 0, .inr (.inr 31)], (am_sh, am_mm (am_upd U 31 0 0)))) 2 (fun _ => rfl) ?_
  refine eu_puti 31 (n := 19) rfl (by decide) rfl rfl ?_
  refine ev_seg (σ1 := (d, 175, 12, [some (.inr (.inr 31))], [.inl 0, .inr (.inr 31)], (am_sh, am_mm (am_upd (am_upd U 31 0 0) 31 1 0)))) 2 (fun _ => rfl) ?_
  refine eu_puti 31 (n := 19) rfl (by decide) rfl rfl ?_
  refine ev_seg (σ1 := (d, 175, 17, [some (.inr (.inr 31))], [.inl 0, .inr (.inr 31)], (am_sh, am_mm (am_upd (am_upd (am_upd U 31 0 0) 31 1 0) 31 2 0)))) 2 (fun _ => rfl) ?_
  refine eu_puti 31 (n := 19) rfl (by decide) rfl rfl ?_
  refine ev_seg (σ1 := (d, 175, 22, [some (.inr (.inr 31))], [.inl 0, .inr (.inr 31)], (am_sh, am_mm (am_upd (am_upd (am_upd (am_upd U 31 0 0) 31 1 0) 31 2 0) 31 3 0)))) 2 (fun _ => rfl) ?_
  refine eu_puti 31 (n := 19) rfl (by decide) rfl rfl ?_
  refine ev_seg (σ1 := (d, 175, 27, [some (.inr (.inr 31))], [.inl 0, .inr (.inr 31)], (am_sh, am_mm (am_upd (am_upd (am_upd (am_upd (am_upd U 31 0 0) 31 1 0) 31 2 0) 31 3 0) 31 4 0)))) 2 (fun _ => rfl) ?_
  refine eu_puti 31 (n := 19) rfl (by decide) rfl rfl ?_
  refine ev_seg (σ1 := (d, 175, 32, [some (.inr (.inr 31))], [.inl 0, .inr (.inr 31)], (am_sh, am_mm (am_upd (am_upd (am_upd (am_upd (am_upd (am_upd U 31 0 0) 31 1 0) 31 2 0) 31 3 0) 31 4 0) 31 5 0)))) 2 (fun _ => rfl) ?_
  refine eu_puti 31 (n := 19) rfl (by decide) rfl rfl ?_
  refine ev_seg (σ1 := (d, 175, 42, [some (.inr (.inr 31))], [.inl 0, .inl 8, .inr (.inr 41)], (am_sh, am_mm (am_upd (am_upd (am_upd (am_upd (am_upd (am_upd (am_upd U 31 0 0) 31 1 0) 31 2 0) 31 3 0) 31 4 0) 31 5 0) 31 18 0)))) 4 (fun _ => rfl) ?_
  refine eu_iast 41 (n := 9) rfl (by decide) rfl (fun _ => rfl) (by decide) ?_
  show Ev kz (d, 175, 43, [some (.inr (.inr 31))], [], (am_sh, am_mm (am_upd (am_upd (am_upd (am_upd (am_upd (am_upd (am_upd (am_upd U 31 0 0) 31 1 0) 31 2 0) 31 3 0) 31 4 0) 31 5 0) 31 18 0) 41 8 0))) R
  refine ev_seg (σ1 := (d, 175, 50, [some (.inr (.inr 31))], [.inl 0, .inl 8, .inr (.inr 42)], (am_sh, am_mm (am_upd (am_upd (am_upd (am_upd (am_upd (am_upd (am_upd (am_upd U 31 0 0) 31 1 0) 31 2 0) 31 3 0) 31 4 0) 31 5 0) 31 18 0) 41 8 0)))) 4 (fun _ => rfl) ?_
  refine eu_iast 42 (n := 9) rfl (by decide) rfl (fun _ => rfl) (by decide) ?_
  show Ev kz (d, 175, 51, [some (.inr (.inr 31))], [], (am_sh, am_mm (am_upd (am_upd (am_upd (am_upd (am_upd (am_upd (am_upd (am_upd (am_upd U 31 0 0) 31 1 0) 31 2 0) 31 3 0) 31 4 0) 31 5 0) 31 18 0) 41 8 0) 42 8 0))) R
  subst h
  exact ev_end 1 (fun _ => rfl)
set_option maxRecDepth 8000 in
theorem st174_27_2_0 (kz : am_Z) (d : Nat) (x2 : Int) (U : Nat → Nat → Int) (R : Option am_V × am_M) (h : Ev kz ((d + 1), 174, 20, [some (.inr (.inr 27)), some (.inr (.inr 2)), some (.inl x2), some (.inl 0), some (.inl 0)], [], (am_sh, am_mm (am_upd (am_upd (am_upd U 27 3 0) 27 4 x2) 27 5 (-1)))) R) : Ev kz ((d + 1), 174, 0, [some (.inr (.inr 27)), some (.inr (.inr 2)), some (.inl x2), none, none], [], (am_sh, am_mm U)) R := by
  refine ev_seg (σ1 := ((d + 1), 174, 2, [some (.inr (.inr 27)), some (.inr (.inr 2)), some (.inl x2), none, none], [.inl 0, .inr (.inr 27)], (am_sh, am_mm U))) 2 (fun _ => rfl) ?_
  refine eu_puti 27 (n := 6) rfl (by decide) rfl rfl ?_
  refine ev_seg (σ1 := ((d + 1), 174, 7, [some (.inr (.inr 27)), some (.inr (.inr 2)), some (.inl x2), none, none], [.inl x2, .inr (.inr 27)], (am_sh, am_mm (am_upd U 27 3 0)))) 2 (fun _ => rfl) ?_
  refine eu_puti 27 (n := 6) rfl (by decide) rfl rfl ?_
  refine ev_seg (σ1 := ((d + 1), 174, 12, [some (.inr (.inr 27)), some (.inr (.inr 2)), some (.inl x2), none, none], [.inl (-1), .inr (.inr 27)], (am_sh, am_mm (am_upd (am_upd U 27 3 0) 27 4 x2)))) 2 (fun _ => rfl) ?_
  refine eu_puti 27 (n := 6) rfl (by decide) rfl rfl ?_
  refine ev_seg (σ1 := ((d + 1), 174, 20, [some (.inr (.inr 27)), some (.inr (.inr 2)), some (.inl x2), some (.inl 0), some (.inl 0)], [], (am_sh, am_mm (am_upd (am_upd (am_upd U 27 3 0) 27 4 x2) 27 5 (-1))))) 4 (fun _ => rfl) ?_
  exact h
set_option maxRecDepth 8000 in
theorem st174_27_2_20 (kz : am_Z) (d : Nat) (x2 x3 x4 : Int) (U : Nat → Nat → Int) (R : Option am_V × am_M) (h : (((x2 ≤ x4 : Prop)) → ∃ U1 : Nat → Nat → Int, Ev kz (d, 248, 0, [some (.inr (.inr 27)), some (.inl 0), some (.inl 0), some (.inl x2)], [], (am_sh, am_mm U)) (none, (am_sh, am_mm U1)) ∧ R = (none, (am_sh, am_mm U1))) ∧ (¬ (x2 ≤ x4) → (((x2 ≤ x3 : Prop)) → ∃ U2 : Nat → Nat → Int, Ev kz (d, 248, 0, [some (.inr (.inr 27)), some (.inl 0), some (.inl 0), some (.inl x2)], [], (am_sh, am_mm U)) (none, (am_sh, am_mm U2)) ∧ R = (none, (am_sh, am_mm U2))) ∧ (¬ (x2 ≤ x3) → ∃ (r3 : Int) (U3 : Nat → Nat → Int), Ev kz (d, 247, 0, [some (.inr (.inr 27)), some (.inr (.inr 2)), some (.inl x2), some (.inl x3), none], [], (am_sh, am_mm U)) (some (.inl r3), (am_sh, am_mm U3)) ∧ Ev kz ((d + 1), 174, 20, [some (.inr (.inr 27)), some (.inr (.inr 2)), some (.inl x2), some (.inl r3), some (.inl (w32 (x4 + 1)))], [], (am_sh, am_mm U3)) R))) : Ev kz ((d + 1), 174, 20, [some (.inr (.inr 27)), some (.inr (.inr 2)), some (.inl x2), some (.inl x3), some (.inl x4)], [], (am_sh, am_mm U)) R := by
  refine ev_br (P := x2 ≤ x4) (σ1 := ((d + 1), 174, 45, [some (.inr (.inr 27)), some (.inr (.inr 2)), some (.inl x2), some (.inl x3), some (.inl x4)], [], (am_sh, am_mm U))) (σ2 := ((d + 1), 174, 26, [some (.inr (.inr 27)), some (.inr (.inr 2)), some (.inl x2), some (.inl x3), some (.inl x4)], [], (am_sh, am_mm U))) 3 (fun _ => rfl) (fun hc => ?_) (fun hc => ?_)
  · have h1 := h.1 hc
    refine ev_seg (σ1 := ((d + 1), 174, 49, [some (.inr (.inr 27)), some (.inr (.inr 2)), some (.inl x2), some (.inl x3), some (.inl x4)], [.inl x2, .inl 0, .inl 0, .inr (.inr 27)], (am_sh, am_mm U))) 4 (fun _ => rfl) ?_
    obtain ⟨U1, h1c, h1a⟩ := h1
    refine ev_cal (σc := (d, 248, 0, [some (.inr (.inr 27)), some (.inl 0), some (.inl 0), some (.inl x2)], [], (am_sh, am_mm U))) (fun _ => rfl) h1c ?_
    show Ev kz ((d + 1), 174, 52, [some (.inr (.inr 27)), some (.inr (.inr 2)), some (.inl x2), some (.inl x3), some (.inl x4)], [], (am_sh, am_mm U1)) R
    subst h1a
    exact ev_end 1 (fun _ => rfl)
  · have h2 := h.2 hc
    refine ev_br (P := x2 ≤ x3) (σ1 := ((d + 1), 174, 45, [some (.inr (.inr 27)), some (.inr (.inr 2)), some (.inl x2), some (.inl x3), some (.inl x4)], [], (am_sh, am_mm U))) (σ2 := ((d + 1), 174, 31, [some (.inr (.inr 27)), some (.inr (.inr 2)), some (.inl x2), some (.inl x3), some (.inl x4)], [], (am_sh, am_mm U))) 3 (fun _ => rfl) (fun hc => ?_) (fun hc => ?_)
    · have h21 := h2.1 hc
      refine ev_seg (σ1 := ((d + 1), 174, 49, [some (.inr (.inr 27)), some (.inr (.inr 2)), some (.inl x2), some (.inl x3), some (.inl x4)], [.inl x2, .inl 0, .inl 0, .inr (.inr 27)], (am_sh, am_mm U))) 4 (fun _ => rfl) ?_
      obtain ⟨U2, h21c, h21a⟩ := h21
      refine ev_cal (σc := (d, 248, 0, [some (.inr (.inr 27)), some (.inl 0), some (.inl 0), some (.inl x2)], [], (am_sh, am_mm U))) (fun _ => rfl) h21c ?_
      show Ev kz ((d + 1), 174, 52, [some (.inr (.inr 27)), some (.inr (.inr 2)), some (.inl x2), some (.inl x3), some (.inl x4)], [], (am_sh, am_mm U2)) R
      subst h21a
      exact ev_end 1 (fun _ => rfl)
    · have h22 := h2.2 hc
      refine ev_seg (σ1 := ((d + 1), 174, 35, [some (.inr (.inr 27)), some (.inr (.inr 2)), some (.inl x2), some (.inl x3), some (.inl x4)], [.inl x3, .inl x2, .inr (.inr 2), .inr (.inr 27)], (am_sh, am_mm U))) 4 (fun _ => rfl) ?_
      obtain ⟨r3, U3, h22c, h22a⟩ := h22
      refine ev_cal (σc := (d, 247, 0, [some (.inr (.inr 27)), some (.inr (.inr 2)), some (.inl x2), some (.inl x3), none], [], (am_sh, am_mm U))) (fun _ => rfl) h22c ?_
      show Ev kz ((d + 1), 174, 38, [some (.inr (.inr 27)), some (.inr (.inr 2)), some (.inl x2), some (.inl x3), some (.inl x4)], [.inl r3], (am_sh, am_mm U3)) R
      refine ev_seg (σ1 := ((d + 1), 174, 20, [some (.inr (.inr 27)), some (.inr (.inr 2)), some (.inl x2), some (.inl r3), some (.inl (w32 (x4 + 1)))], [], (am_sh, am_mm U3))) 3 (fun _ => rfl) ?_
      exact h22a
set_option maxRecDepth 8000 in
theorem st177_26_0 (kz : am_Z) (d : Nat) (U : Nat → Nat → Int) (R : Option am_V × am_M) (h : ((((U 27 3) ≤ (w32 ((U 26 6) + 1)) : Prop)) → R = (none, (am_sh, am_mm U))) ∧ (¬ ((U 27 3) ≤ (w32 ((U 26 6) + 1))) → (((1601 ≤ (w32 ((U 26 6) + 1)) : Prop)) → R = (none, (am_sh, am_mm U))) ∧ (¬ (1601 ≤ (w32 ((U 26 6) + 1))) → (0 ≤ ((am_upd U 26 6 (w32 ((U 26 6) + 1))) 26 6) ∧ ((am_upd U 26 6 (w32 ((U 26 6) + 1))) 26 6) < 1601) ∧ (0 ≤ ((am_upd (am_upd U 26 6 (w32 ((U 26 6) + 1))) 26 7 ((am_upd U 26 6 (w32 ((U 26 6) + 1))) 28 ((am_upd U 26 6 (w32 ((U 26 6) + 1))) 26 6).toNat)) 26 6) ∧ ((am_upd (am_upd U 26 6 (w32 ((U 26 6) + 1))) 26 7 ((am_upd U 26 6 (w32 ((U 26 6) + 1))) 28 ((am_upd U 26 6 (w32 ((U 26 6) + 1))) 26 6).toNat)) 26 6) < 1601) ∧ (0 ≤ ((am_upd (am_upd (am_upd U 26 6 (w32 ((U 26 6) + 1))) 26 7 ((am_upd U 26 6 (w32 ((U 26 6) + 1))) 28 ((am_upd U 26 6 (w32 ((U 26 6) + 1))) 26 6).toNat)) 26 8 ((am_upd (am_upd U 26 6 (w32 ((U 26 6) + 1))) 26 7 ((am_upd U 26 6 (w32 ((U 26 6) + 1))) 28 ((am_upd U 26 6 (w32 ((U 26 6) + 1))) 26 6).toNat)) 29 ((am_upd (am_upd U 26 6 (w32 ((U 26 6) + 1))) 26 7 ((am_upd U 26 6 (w32 ((U 26 6) + 1))) 28 ((am_upd U 26 6 (w32 ((U 26 6) + 1))) 26 6).toNat)) 26 6).toNat)) 26 6) ∧ ((am_upd (am_upd (am_upd U 26 6 (w32 ((U 26 6) + 1))) 26 7 ((am_upd U 26 6 (w32 ((U 26 6) + 1))) 28 ((am_upd U 26 6 (w32 ((U 26 6) + 1))) 26 6).toNat)) 26 8 ((am_upd (am_upd U 26 6 (w32 ((U 26 6) + 1))) 26 7 ((am_upd U 26 6 (w32 ((U 26 6) + 1))) 28 ((am_upd U 26 6 (w32 ((U 26 6) + 1))) 26 6).toNat)) 29 ((am_upd (am_upd U 26 6 (w32 ((U 26 6) + 1))) 26 7 ((am_upd U 26 6 (w32 ((U 26 6) + 1))) 28 ((am_upd U 26 6 (w32 ((U 26 6) + 1))) 26 6).toNat)) 26 6).toNat)) 26 6) < 1601) ∧ R = (none, (am_sh, am_mm (am_upd (am_upd (am_upd (am_upd U 26 6 (w32 ((U 26 6) + 1))) 26 7 ((am_upd U 26 6 (w32 ((U 26 6) + 1))) 28 ((am_upd U 26 6 (w32 ((U 26 6) + 1))) 26 6).toNat)) 26 8 ((am_upd (am_upd U 26 6 (w32 ((U 26 6) + 1))) 26 7 ((am_upd U 26 6 (w32 ((U 26 6) + 1))) 28 ((am_upd U 26 6 (w32 ((U 26 6) + 1))) 26 6).toNat)) 29 ((am_upd (am_upd U 26 6 (w32 ((U 26 6) + 1))) 26 7 ((am_upd U 26 6 (w32 ((U 26 6) + 1))) 28 ((am_upd U 26 6 (w32 ((U 26 6) + 1))) 26 6).toNat)) 26 6).toNat)) 26 9 ((am_upd (am_upd (am_upd U 26 6 (w32 ((U 26 6) + 1))) 26 7 ((am_upd U 26 6 (w32 ((U 26 6) + 1))) 28 ((am_upd U 26 6 (w32 ((U 26 6) + 1))) 26 6).toNat)) 26 8 ((am_upd (am_upd U 26 6 (w32 ((U 26 6) + 1))) 26 7 ((am_upd U 26 6 (w32 ((U 26 6) + 1))) 28 ((am_upd U 26 6 (w32 ((U 26 6) + 1))) 26 6).toNat)) 29 ((am_upd (am_upd U 26 6 (w32 ((U 26 6) + 1))) 26 7 ((am_upd U 26 6 (w32 ((U 26 6) + 1))) 28 ((am_upd U 26 6 (w32 ((U 26 6) + 1))) 26 6).toNat)) 26 6).toNat)) 30 ((am_upd (am_upd (am_upd U 26 6 (w32 ((U 26 6) + 1))) 26 7 ((am_upd U 26 6 (w32 ((U 26 6) + 1))) 28 ((am_upd U 26 6 (w32 ((U 26 6) + 1))) 26 6).toNat)) 26 8 ((am_upd (am_upd U 26 6 (w32 ((U 26 6) + 1))) 26 7 ((am_upd U 26 6 (w32 ((U 26 6) + 1))) 28 ((am_upd U 26 6 (w32 ((U 26 6) + 1))) 26 6).toNat)) 29 ((am_upd (am_upd U 26 6 (w32 ((U 26 6) + 1))) 26 7 ((am_upd U 26 6 (w32 ((U 26 6) + 1))) 28 ((am_upd U 26 6 (w32 ((U 26 6) + 1))) 26 6).toNat)) 26 6).toNat)) 26 6).toNat))))))) : Ev kz (d, 177, 0, [some (.inr (.inr 26))], [], (am_sh, am_mm U)) R := by
  refine ev_br (P := (U 27 3) ≤ (w32 ((U 26 6) + 1))) (σ1 := (d, 177, 91, [some (.inr (.inr 26))], [], (am_sh, am_mm U))) (σ2 := (d, 177, 16, [some (.inr (.inr 26))], [], (am_sh, am_mm U))) 8 (fun _ => rfl) (fun hc => ?_) (fun hc => ?_)
  · have h1 := h.1 hc
    subst h1
    exact ev_end 1 (fun _ => rfl)
  · have h2 := h.2 hc
    refine ev_br (P := 1601 ≤ (w32 ((U 26 6) + 1))) (σ1 := (d, 177, 91, [some (.inr (.inr 26))], [], (am_sh, am_mm U))) (σ2 := (d, 177, 33, [some (.inr (.inr 26))], [], (am_sh, am_mm U))) 9 (fun _ => rfl) (fun hc => ?_) (fun hc => ?_)
    · have h21 := h2.1 hc
      subst h21
      exact ev_end 1 (fun _ => rfl)
    · have h22 := h2.2 hc
      refine ev_seg (σ1 := (d, 177, 40, [some (.inr (.inr 26))], [.inl (w32 ((U 26 6) + 1)), .inr (.inr 26)], (am_sh, am_mm U))) 5 (fun _ => rfl) ?_
      refine eu_puti 26 (n := 12) rfl (by decide) rfl rfl ?_
      refine ev_seg (σ1 := (d, 177, 55, [some (.inr (.inr 26))], [.inl ((am_upd U 26 6 (w32 ((U 26 6) + 1))) 26 6), .inr (.inr 28), .inr (.inr 26)], (am_sh, am_mm (am_upd U 26 6 (w32 ((U 26 6) + 1)))))) 6 (fun _ => rfl) ?_
      refine eu_iald 28 (n := 1601) rfl (by decide) rfl (fun _ => rfl) h22.1 ?_
      have h22a := h22.2
      refine eu_puti 26 (n := 12) rfl (by decide) rfl rfl ?_
      refine ev_seg (σ1 := (d, 177, 71, [some (.inr (.inr 26))], [.inl ((am_upd (am_upd U 26 6 (w32 ((U 26 6) + 1))) 26 7 ((am_upd U 26 6 (w32 ((U 26 6) + 1))) 28 ((am_upd U 26 6 (w32 ((U 26 6) + 1))) 26 6).toNat)) 26 6), .inr (.inr 29), .inr (.inr 26)], (am_sh, am_mm (am_upd (am_upd U 26 6 (w32 ((U 26 6) + 1))) 26 7 ((am_upd U 26 6 (w32 ((U 26 6) + 1))) 28 ((am_upd U 26 6 (w32 ((U 26 6) + 1))) 26 6).toNat))))) 6 (fun _ => rfl) ?_
      refine eu_iald 29 (n := 1601) rfl (by decide) rfl (fun _ => rfl) h22a.1 ?_
      have h22aa := h22a.2
      refine eu_puti 26 (n := 12) rfl (by decide) rfl rfl ?_
      refine ev_seg (σ1 := (d, 177, 87, [some (.inr (.inr 26))], [.inl ((am_upd (am_upd (am_upd U 26 6 (w32 ((U 26 6) + 1))) 26 7 ((am_upd U 26 6 (w32 ((U 26 6) + 1))) 28 ((am_upd U 26 6 (w32 ((U 26 6) + 1))) 26 6).toNat)) 26 8 ((am_upd (am_upd U 26 6 (w32 ((U 26 6) + 1))) 26 7 ((am_upd U 26 6 (w32 ((U 26 6) + 1))) 28 ((am_upd U 26 6 (w32 ((U 26 6) + 1))) 26 6).toNat)) 29 ((am_upd (am_upd U 26 6 (w32 ((U 26 6) + 1))) 26 7 ((am_upd U 26 6 (w32 ((U 26 6) + 1))) 28 ((am_upd U 26 6 (w32 ((U 26 6) + 1))) 26 6).toNat)) 26 6).toNat)) 26 6), .inr (.inr 30), .inr (.inr 26)], (am_sh, am_mm (am_upd (am_upd (am_upd U 26 6 (w32 ((U 26 6) + 1))) 26 7 ((am_upd U 26 6 (w32 ((U 26 6) + 1))) 28 ((am_upd U 26 6 (w32 ((U 26 6) + 1))) 26 6).toNat)) 26 8 ((am_upd (am_upd U 26 6 (w32 ((U 26 6) + 1))) 26 7 ((am_upd U 26 6 (w32 ((U 26 6) + 1))) 28 ((am_upd U 26 6 (w32 ((U 26 6) + 1))) 26 6).toNat)) 29 ((am_upd (am_upd U 26 6 (w32 ((U 26 6) + 1))) 26 7 ((am_upd U 26 6 (w32 ((U 26 6) + 1))) 28 ((am_upd U 26 6 (w32 ((U 26 6) + 1))) 26 6).toNat)) 26 6).toNat))))) 6 (fun _ => rfl) ?_
      refine eu_iald 30 (n := 1601) rfl (by decide) rfl (fun _ => rfl) h22aa.1 ?_
      have h22aaa := h22aa.2
      refine eu_puti 26 (n := 12) rfl (by decide) rfl rfl ?_
      subst h22aaa
      exact ev_end 1 (fun _ => rfl)
