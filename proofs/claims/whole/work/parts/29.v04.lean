theorem st109_86_0 (kz : am_Z) (d : Nat) (x1 : Int) (U : Nat → Nat → Int) (R : Option am_V × am_M) (h : (0 ≤ (w32 ((w32 (12 * (U 86 13))) + x1)) ∧ (w32 ((w32 (12 * (U 86 13))) + x1)) < 24) ∧ R = (some (.inl (U 92 (w32 ((w32 (12 * (U 86 13))) + x1)).toNat)), (am_sh, am_mm U))) : Ev kz (d, 109, 0, [some (.inr (.inr 86)), some (.inl x1)], [], (am_sh, am_mm U)) R := by
  refine ev_seg (σ1 := (d, 109, 13, [some (.inr (.inr 86)), some (.inl x1)], [.inl (w32 ((w32 (12 * (U 86 13))) + x1)), .inr (.inr 92)], (am_sh, am_mm U))) 8 (fun _ => rfl) ?_
  refine eu_iald 92 (n := 24) rfl (by decide) rfl (fun _ => rfl) h.1 ?_
  have ha := h.2
  subst ha
  exact ev_end 1 (fun _ => rfl)
theorem st162_86_0 (kz : am_Z) (d : Nat) (x1 : Int) (U : Nat → Nat → Int) (R : Option am_V × am_M) (h : Ev kz (d, 162, 5, [some (.inr (.inr 86)), some (.inr (.inl x1)), none, some (.inr (.inl 0)), none, some (.inl 0)], [], (am_sh, am_mm U)) R) : Ev kz (d, 162, 0, [some (.inr (.inr 86)), some (.inr (.inl x1)), none, none, none, none], [], (am_sh, am_mm U)) R := by
  refine ev_seg (σ1 := (d, 162, 5, [some (.inr (.inr 86)), some (.inr (.inl x1)), none, some (.inr (.inl 0)), none, some (.inl 0)], [], (am_sh, am_mm U))) 4 (fun _ => rfl) ?_
  exact h
theorem st162_86_5 (kz : am_Z) (d : Nat) (x1 x3 x5 : Int) (U : Nat → Nat → Int) (R : Option am_V × am_M) (h : ((((U 86 80) ≤ x5 : Prop)) → Ev kz (d, 162, 52, [some (.inr (.inr 86)), some (.inr (.inl x1)), none, some (.inr (.inl x3)), none, some (.inl x5)], [], (am_sh, am_mm U)) R) ∧ (¬ ((U 86 80) ≤ x5) → (0 ≤ x5 ∧ x5 < 80) ∧ (0 ≤ x5 ∧ x5 < 80) ∧ Ev kz (d, 162, 5, [some (.inr (.inr 86)), some (.inr (.inl x1)), none, some (.inr (.inl (w64 (Int.tdiv (w64 (x3 + (w64 ((U 133 x5.toNat) * x1)))) 10)))), none, some (.inl (w32 (x5 + 1)))], [], (am_sh, am_mm (am_upd U 133 x5.toNat (w32 (Int.tmod (w64 (x3 + (w64 ((U 133 x5.toNat) * x1)))) 10))))) R)) : Ev kz (d, 162, 5, [some (.inr (.inr 86)), some (.inr (.inl x1)), none, some (.inr (.inl x3)), none, some (.inl x5)], [], (am_sh, am_mm U)) R := by
  refine ev_br (P := (U 86 80) ≤ x5) (σ1 := (d, 162, 52, [some (.inr (.inr 86)), some (.inr (.inl x1)), none, some (.inr (.inl x3)), none, some (.inl x5)], [], (am_sh, am_mm U))) (σ2 := (d, 162, 14, [some (.inr (.inr 86)), some (.inr (.inl x1)), none, some (.inr (.inl x3)), none, some (.inl x5)], [], (am_sh, am_mm U))) 4 (fun _ => rfl) (fun hc => ?_) (fun hc => ?_)
  · have h1 := h.1 hc
    exact h1
  · have h2 := h.2 hc
    refine ev_seg (σ1 := (d, 162, 21, [some (.inr (.inr 86)), some (.inr (.inl x1)), none, some (.inr (.inl x3)), none, some (.inl x5)], [.inl x5, .inr (.inr 133), .inr (.inl x3)], (am_sh, am_mm U))) 4 (fun _ => rfl) ?_
    refine eu_iald 133 (n := 80) rfl (by decide) rfl (fun _ => rfl) h2.1 ?_
    have h2a := h2.2
    refine ev_seg (σ1 := (d, 162, 37, [some (.inr (.inr 86)), some (.inr (.inl x1)), none, some (.inr (.inl (w64 (x3 + (w64 ((U 133 x5.toNat) * x1)))))), none, some (.inl x5)], [.inr (.inl 10), .inr (.inl (w64 (x3 + (w64 ((U 133 x5.toNat) * x1))))), .inl x5, .inr (.inr 133)], (am_sh, am_mm U))) 10 (fun _ => rfl) ?_
    refine ev_lrem rfl (by decide) ?_
    refine ev_seg (σ1 := (d, 162, 39, [some (.inr (.inr 86)), some (.inr (.inl x1)), none, some (.inr (.inl (w64 (x3 + (w64 ((U 133 x5.toNat) * x1)))))), none, some (.inl x5)], [.inl (w32 (Int.tmod (w64 (x3 + (w64 ((U 133 x5.toNat) * x1)))) 10)), .inl x5, .inr (.inr 133)], (am_sh, am_mm U))) 1 (fun _ => rfl) ?_
    refine eu_iast 133 (n := 80) rfl (by decide) rfl (fun _ => rfl) h2a.1 ?_
    have h2aa := h2a.2
    refine ev_seg (σ1 := (d, 162, 44, [some (.inr (.inr 86)), some (.inr (.inl x1)), none, some (.inr (.inl (w64 (x3 + (w64 ((U 133 x5.toNat) * x1)))))), none, some (.inl x5)], [.inr (.inl 10), .inr (.inl (w64 (x3 + (w64 ((U 133 x5.toNat) * x1)))))], (am_sh, am_mm (am_upd U 133 x5.toNat (w32 (Int.tmod (w64 (x3 + (w64 ((U 133 x5.toNat) * x1)))) 10)))))) 2 (fun _ => rfl) ?_
    refine ev_ldiv rfl (by decide) ?_
    refine ev_seg (σ1 := (d, 162, 5, [some (.inr (.inr 86)), some (.inr (.inl x1)), none, some (.inr (.inl (w64 (Int.tdiv (w64 (x3 + (w64 ((U 133 x5.toNat) * x1)))) 10)))), none, some (.inl (w32 (x5 + 1)))], [], (am_sh, am_mm (am_upd U 133 x5.toNat (w32 (Int.tmod (w64 (x3 + (w64 ((U 133 x5.toNat) * x1)))) 10)))))) 3 (fun _ => rfl) ?_
    exact h2aa
theorem st162_86_52 (kz : am_Z) (d : Nat) (x1 x3 x5 : Int) (U : Nat → Nat → Int) (R : Option am_V × am_M) (h : ((((am_lcmp x3 0) ≤ 0 : Prop)) → R = (none, (am_sh, am_mm U))) ∧ (¬ ((am_lcmp x3 0) ≤ 0) → (0 ≤ (U 86 80) ∧ (U 86 80) < 80) ∧ Ev kz (d, 162, 52, [some (.inr (.inr 86)), some (.inr (.inl x1)), none, some (.inr (.inl (w64 (Int.tdiv x3 10)))), none, some (.inl x5)], [], (am_sh, am_mm (am_upd (am_upd U 133 (U 86 80).toNat (w32 (Int.tmod x3 10))) 86 80 (w32 (((am_upd U 133 (U 86 80).toNat (w32 (Int.tmod x3 10))) 86 80) + 1))))) R)) : Ev kz (d, 162, 52, [some (.inr (.inr 86)), some (.inr (.inl x1)), none, some (.inr (.inl x3)), none, some (.inl x5)], [], (am_sh, am_mm U)) R := by
  refine ev_br (P := (am_lcmp x3 0) ≤ 0) (σ1 := (d, 162, 92, [some (.inr (.inr 86)), some (.inr (.inl x1)), none, some (.inr (.inl x3)), none, some (.inl x5)], [], (am_sh, am_mm U))) (σ2 := (d, 162, 58, [some (.inr (.inr 86)), some (.inr (.inl x1)), none, some (.inr (.inl x3)), none, some (.inl x5)], [], (am_sh, am_mm U))) 4 (fun _ => rfl) (fun hc => ?_) (fun hc => ?_)
  · have h1 := h.1 hc
    subst h1
    exact ev_end 1 (fun _ => rfl)
  · have h2 := h.2 hc
    refine ev_seg (σ1 := (d, 162, 70, [some (.inr (.inr 86)), some (.inr (.inl x1)), none, some (.inr (.inl x3)), none, some (.inl x5)], [.inr (.inl 10), .inr (.inl x3), .inl (U 86 80), .inr (.inr 133)], (am_sh, am_mm U))) 6 (fun _ => rfl) ?_
    refine ev_lrem rfl (by decide) ?_
    refine ev_seg (σ1 := (d, 162, 72, [some (.inr (.inr 86)), some (.inr (.inl x1)), none, some (.inr (.inl x3)), none, some (.inl x5)], [.inl (w32 (Int.tmod x3 10)), .inl (U 86 80), .inr (.inr 133)], (am_sh, am_mm U))) 1 (fun _ => rfl) ?_
    refine eu_iast 133 (n := 80) rfl (by decide) rfl (fun _ => rfl) h2.1 ?_
    have h2a := h2.2
    refine ev_seg (σ1 := (d, 162, 77, [some (.inr (.inr 86)), some (.inr (.inl x1)), none, some (.inr (.inl x3)), none, some (.inl x5)], [.inr (.inl 10), .inr (.inl x3)], (am_sh, am_mm (am_upd U 133 (U 86 80).toNat (w32 (Int.tmod x3 10)))))) 2 (fun _ => rfl) ?_
    refine ev_ldiv rfl (by decide) ?_
    refine ev_seg (σ1 := (d, 162, 86, [some (.inr (.inr 86)), some (.inr (.inl x1)), none, some (.inr (.inl (w64 (Int.tdiv x3 10)))), none, some (.inl x5)], [.inl (w32 (((am_upd U 133 (U 86 80).toNat (w32 (Int.tmod x3 10))) 86 80) + 1)), .inr (.inr 86)], (am_sh, am_mm (am_upd U 133 (U 86 80).toNat (w32 (Int.tmod x3 10)))))) 6 (fun _ => rfl) ?_
    refine eu_puti 86 (n := 90) rfl (by decide) rfl rfl ?_
    refine ev_seg (σ1 := (d, 162, 52, [some (.inr (.inr 86)), some (.inr (.inl x1)), none, some (.inr (.inl (w64 (Int.tdiv x3 10)))), none, some (.inl x5)], [], (am_sh, am_mm (am_upd (am_upd U 133 (U 86 80).toNat (w32 (Int.tmod x3 10))) 86 80 (w32 (((am_upd U 133 (U 86 80).toNat (w32 (Int.tmod x3 10))) 86 80) + 1)))))) 1 (fun _ => rfl) ?_
    exact h2a
theorem st163_86_0 (kz : am_Z) (d : Nat) (x1 : Int) (U : Nat → Nat → Int) (R : Option am_V × am_M) (h : Ev kz (d, 163, 4, [some (.inr (.inr 86)), some (.inl x1), some (.inl 0), some (.inl 0), none], [], (am_sh, am_mm U)) R) : Ev kz (d, 163, 0, [some (.inr (.inr 86)), some (.inl x1), none, none, none], [], (am_sh, am_mm U)) R := by
  refine ev_seg (σ1 := (d, 163, 4, [some (.inr (.inr 86)), some (.inl x1), some (.inl 0), some (.inl 0), none], [], (am_sh, am_mm U))) 4 (fun _ => rfl) ?_
  exact h
theorem st163_86_4 (kz : am_Z) (d : Nat) (x1 x2 x3 : Int) (U : Nat → Nat → Int) (R : Option am_V × am_M) (h : (0 ≤ (U 86 13) ∧ (U 86 13) < 2) ∧ ((((U 106 (U 86 13).toNat) ≤ x3 : Prop)) → R = (some (.inl x2), (am_sh, am_mm U))) ∧ (¬ ((U 106 (U 86 13).toNat) ≤ x3) → (0 ≤ (w32 ((w32 (16 * (U 86 13))) + x3)) ∧ (w32 ((w32 (16 * (U 86 13))) + x3)) < 32) ∧ (((¬ (U 108 (w32 ((w32 (16 * (U 86 13))) + x3)).toNat) = x1 : Prop)) → (0 ≤ (w32 ((w32 (16 * (U 86 13))) + x3)) ∧ (w32 ((w32 (16 * (U 86 13))) + x3)) < 32) ∧ (((¬ (U 107 (w32 ((w32 (16 * (U 86 13))) + x3)).toNat) = x1 : Prop)) → Ev kz (d, 163, 4, [some (.inr (.inr 86)), some (.inl x1), some (.inl (w32 ((w32 (x2 + 0)) - 0))), some (.inl (w32 (x3 + 1))), some (.inl (w32 ((w32 (16 * (U 86 13))) + x3)))], [], (am_sh, am_mm U)) R) ∧ (¬ (¬ (U 107 (w32 ((w32 (16 * (U 86 13))) + x3)).toNat) = x1) → (0 ≤ (w32 ((w32 (16 * (U 86 13))) + x3)) ∧ (w32 ((w32 (16 * (U 86 13))) + x3)) < 32) ∧ Ev kz (d, 163, 4, [some (.inr (.inr 86)), some (.inl x1), some (.inl (w32 ((w32 (x2 + 0)) - (U 109 (w32 ((w32 (16 * (U 86 13))) + x3)).toNat)))), some (.inl (w32 (x3 + 1))), some (.inl (w32 ((w32 (16 * (U 86 13))) + x3)))], [], (am_sh, am_mm U)) R)) ∧ (¬ (¬ (U 108 (w32 ((w32 (16 * (U 86 13))) + x3)).toNat) = x1) → (0 ≤ (w32 ((w32 (16 * (U 86 13))) + x3)) ∧ (w32 ((w32 (16 * (U 86 13))) + x3)) < 32) ∧ (0 ≤ (w32 ((w32 (16 * (U 86 13))) + x3)) ∧ (w32 ((w32 (16 * (U 86 13))) + x3)) < 32) ∧ (((¬ (U 107 (w32 ((w32 (16 * (U 86 13))) + x3)).toNat) = x1 : Prop)) → Ev kz (d, 163, 4, [some (.inr (.inr 86)), some (.inl x1), some (.inl (w32 ((w32 (x2 + (U 109 (w32 ((w32 (16 * (U 86 13))) + x3)).toNat))) - 0))), some (.inl (w32 (x3 + 1))), some (.inl (w32 ((w32 (16 * (U 86 13))) + x3)))], [], (am_sh, am_mm U)) R) ∧ (¬ (¬ (U 107 (w32 ((w32 (16 * (U 86 13))) + x3)).toNat) = x1) → (0 ≤ (w32 ((w32 (16 * (U 86 13))) + x3)) ∧ (w32 ((w32 (16 * (U 86 13))) + x3)) < 32) ∧ Ev kz (d, 163, 4, [some (.inr (.inr 86)), some (.inl x1), some (.inl (w32 ((w32 (x2 + (U 109 (w32 ((w32 (16 * (U 86 13))) + x3)).toNat))) - (U 109 (w32 ((w32 (16 * (U 86 13))) + x3)).toNat)))), some (.inl (w32 (x3 + 1))), some (.inl (w32 ((w32 (16 * (U 86 13))) + x3)))], [], (am_sh, am_mm U)) R)))) : Ev kz (d, 163, 4, [some (.inr (.inr 86)), some (.inl x1), some (.inl x2), some (.inl x3), none], [], (am_sh, am_mm U)) R := by
  refine ev_seg (σ1 := (d, 163, 13, [some (.inr (.inr 86)), some (.inl x1), some (.inl x2), some (.inl x3), none], [.inl (U 86 13), .inr (.inr 106), .inl x3], (am_sh, am_mm U))) 5 (fun _ => rfl) ?_
  refine eu_iald 106 (n := 2) rfl (by decide) rfl (fun _ => rfl) h.1 ?_
  have ha := h.2
  refine ev_br (P := (U 106 (U 86 13).toNat) ≤ x3) (σ1 := (d, 163, 84, [some (.inr (.inr 86)), some (.inl x1), some (.inl x2), some (.inl x3), none], [], (am_sh, am_mm U))) (σ2 := (d, 163, 17, [some (.inr (.inr 86)), some (.inl x1), some (.inl x2), some (.inl x3), none], [], (am_sh, am_mm U))) 1 (fun _ => rfl) (fun hc => ?_) (fun hc => ?_)
  · have ha1 := ha.1 hc
    subst ha1
    exact ev_end 2 (fun _ => rfl)
  · have ha2 := ha.2 hc
    refine ev_seg (σ1 := (d, 163, 35, [some (.inr (.inr 86)), some (.inl x1), some (.inl x2), some (.inl x3), some (.inl (w32 ((w32 (16 * (U 86 13))) + x3)))], [.inl (w32 ((w32 (16 * (U 86 13))) + x3)), .inr (.inr 108), .inl x2], (am_sh, am_mm U))) 11 (fun _ => rfl) ?_
    refine eu_iald 108 (n := 32) rfl (by decide) rfl (fun _ => rfl) ha2.1 ?_
    have ha2a := ha2.2
    refine ev_br (P := ¬ (U 108 (w32 ((w32 (16 * (U 86 13))) + x3)).toNat) = x1) (σ1 := (d, 163, 50, [some (.inr (.inr 86)), some (.inl x1), some (.inl x2), some (.inl x3), some (.inl (w32 ((w32 (16 * (U 86 13))) + x3)))], [.inl x2], (am_sh, am_mm U))) (σ2 := (d, 163, 40, [some (.inr (.inr 86)), some (.inl x1), some (.inl x2), some (.inl x3), some (.inl (w32 ((w32 (16 * (U 86 13))) + x3)))], [.inl x2], (am_sh, am_mm U))) 2 (fun _ => rfl) (fun hc => ?_) (fun hc => ?_)
    · have ha2a1 := ha2a.1 hc
      refine ev_seg (σ1 := (d, 163, 60, [some (.inr (.inr 86)), some (.inl x1), some (.inl (w32 (x2 + 0))), some (.inl x3), some (.inl (w32 ((w32 (16 * (U 86 13))) + x3)))], [.inl (w32 ((w32 (16 * (U 86 13))) + x3)), .inr (.inr 107), .inl (w32 (x2 + 0))], (am_sh, am_mm U))) 7 (fun _ => rfl) ?_
      refine eu_iald 107 (n := 32) rfl (by decide) rfl (fun _ => rfl) ha2a1.1 ?_
      have ha2a1a := ha2a1.2
      refine ev_br (P := ¬ (U 107 (w32 ((w32 (16 * (U 86 13))) + x3)).toNat) = x1) (σ1 := (d, 163, 75, [some (.inr (.inr 86)), some (.inl x1), some (.inl (w32 (x2 + 0))), some (.inl x3), some (.inl (w32 ((w32 (16 * (U 86 13))) + x3)))], [.inl (w32 (x2 + 0))], (am_sh, am_mm U))) (σ2 := (d, 163, 65, [some (.inr (.inr 86)), some (.inl x1), some (.inl (w32 (x2 + 0))), some (.inl x3), some (.inl (w32 ((w32 (16 * (U 86 13))) + x3)))], [.inl (w32 (x2 + 0))], (am_sh, am_mm U))) 2 (fun _ => rfl) (fun hc => ?_) (fun hc => ?_)
      · have ha2a1a1 := ha2a1a.1 hc
        refine ev_seg (σ1 := (d, 163, 4, [some (.inr (.inr 86)), some (.inl x1), some (.inl (w32 ((w32 (x2 + 0)) - 0))), some (.inl (w32 (x3 + 1))), some (.inl (w32 ((w32 (16 * (U 86 13))) + x3)))], [], (am_sh, am_mm U))) 5 (fun _ => rfl) ?_
        exact ha2a1a1
      · have ha2a1a2 := ha2a1a.2 hc
        refine ev_seg (σ1 := (d, 163, 71, [some (.inr (.inr 86)), some (.inl x1), some (.inl (w32 (x2 + 0))), some (.inl x3), some (.inl (w32 ((w32 (16 * (U 86 13))) + x3)))], [.inl (w32 ((w32 (16 * (U 86 13))) + x3)), .inr (.inr 109), .inl (w32 (x2 + 0))], (am_sh, am_mm U))) 3 (fun _ => rfl) ?_
        refine eu_iald 109 (n := 32) rfl (by decide) rfl (fun _ => rfl) ha2a1a2.1 ?_
        have ha2a1a2a := ha2a1a2.2
        refine ev_seg (σ1 := (d, 163, 4, [some (.inr (.inr 86)), some (.inl x1), some (.inl (w32 ((w32 (x2 + 0)) - (U 109 (w32 ((w32 (16 * (U 86 13))) + x3)).toNat)))), some (.inl (w32 (x3 + 1))), some (.inl (w32 ((w32 (16 * (U 86 13))) + x3)))], [], (am_sh, am_mm U))) 5 (fun _ => rfl) ?_
        exact ha2a1a2a
    · have ha2a2 := ha2a.2 hc
      refine ev_seg (σ1 := (d, 163, 46, [some (.inr (.inr 86)), some (.inl x1), some (.inl x2), some (.inl x3), some (.inl (w32 ((w32 (16 * (U 86 13))) + x3)))], [.inl (w32 ((w32 (16 * (U 86 13))) + x3)), .inr (.inr 109), .inl x2], (am_sh, am_mm U))) 3 (fun _ => rfl) ?_
      refine eu_iald 109 (n := 32) rfl (by decide) rfl (fun _ => rfl) ha2a2.1 ?_
      have ha2a2a := ha2a2.2
      refine ev_seg (σ1 := (d, 163, 60, [some (.inr (.inr 86)), some (.inl x1), some (.inl (w32 (x2 + (U 109 (w32 ((w32 (16 * (U 86 13))) + x3)).toNat)))), some (.inl x3), some (.inl (w32 ((w32 (16 * (U 86 13))) + x3)))], [.inl (w32 ((w32 (16 * (U 86 13))) + x3)), .inr (.inr 107), .inl (w32 (x2 + (U 109 (w32 ((w32 (16 * (U 86 13))) + x3)).toNat)))], (am_sh, am_mm U))) 7 (fun _ => rfl) ?_
      refine eu_iald 107 (n := 32) rfl (by decide) rfl (fun _ => rfl) ha2a2a.1 ?_
      have ha2a2aa := ha2a2a.2
      refine ev_br (P := ¬ (U 107 (w32 ((w32 (16 * (U 86 13))) + x3)).toNat) = x1) (σ1 := (d, 163, 75, [some (.inr (.inr 86)), some (.inl x1), some (.inl (w32 (x2 + (U 109 (w32 ((w32 (16 * (U 86 13))) + x3)).toNat)))), some (.inl x3), some (.inl (w32 ((w32 (16 * (U 86 13))) + x3)))], [.inl (w32 (x2 + (U 109 (w32 ((w32 (16 * (U 86 13))) + x3)).toNat)))], (am_sh, am_mm U))) (σ2 := (d, 163, 65, [some (.inr (.inr 86)), some (.inl x1), some (.inl (w32 (x2 + (U 109 (w32 ((w32 (16 * (U 86 13))) + x3)).toNat)))), some (.inl x3), some (.inl (w32 ((w32 (16 * (U 86 13))) + x3)))], [.inl (w32 (x2 + (U 109 (w32 ((w32 (16 * (U 86 13))) + x3)).toNat)))], (am_sh, am_mm U))) 2 (fun _ => rfl) (fun hc => ?_) (fun hc => ?_)
      · have ha2a2aa1 := ha2a2aa.1 hc
        refine ev_seg (σ1 := (d, 163, 4, [some (.inr (.inr 86)), some (.inl x1), some (.inl (w32 ((w32 (x2 + (U 109 (w32 ((w32 (16 * (U 86 13))) + x3)).toNat))) - 0))), some (.inl (w32 (x3 + 1))), some (.inl (w32 ((w32 (16 * (U 86 13))) + x3)))], [], (am_sh, am_mm U))) 5 (fun _ => rfl) ?_
        exact ha2a2aa1
      · have ha2a2aa2 := ha2a2aa.2 hc
        refine ev_seg (σ1 := (d, 163, 71, [some (.inr (.inr 86)), some (.inl x1), some (.inl (w32 (x2 + (U 109 (w32 ((w32 (16 * (U 86 13))) + x3)).toNat)))), some (.inl x3), some (.inl (w32 ((w32 (16 * (U 86 13))) + x3)))], [.inl (w32 ((w32 (16 * (U 86 13))) + x3)), .inr (.inr 109), .inl (w32 (x2 + (U 109 (w32 ((w32 (16 * (U 86 13))) + x3)).toNat)))], (am_sh, am_mm U))) 3 (fun _ => rfl) ?_
        refine eu_iald 109 (n := 32) rfl (by decide) rfl (fun _ => rfl) ha2a2aa2.1 ?_
        have ha2a2aa2a := ha2a2aa2.2
        refine ev_seg (σ1 := (d, 163, 4, [some (.inr (.inr 86)), some (.inl x1), some (.inl (w32 ((w32 (x2 + (U 109 (w32 ((w32 (16 * (U 86 13))) + x3)).toNat))) - (U 109 (w32 ((w32 (16 * (U 86 13))) + x3)).toNat)))), some (.inl (w32 (x3 + 1))), some (.inl (w32 ((w32 (16 * (U 86 13))) + x3)))], [], (am_sh, am_mm U))) 5 (fun _ => rfl) ?_
        exact ha2a2aa2a
theorem st164_3_44_0 (kz : am_Z) (d : Nat) (U : Nat → Nat → Int) (R : Option am_V × am_M) (h : Ev kz ((d + 1), 164, 4, [some (.inr (.inr 3)), some (.inr (.inr 44)), some (.inl 0), some (.inl 0)], [], (am_sh, am_mm U)) R) : Ev kz ((d + 1), 164, 0, [some (.inr (.inr 3)), some (.inr (.inr 44)), none, none], [], (am_sh, am_mm U)) R := by
  refine ev_seg (σ1 := ((d + 1), 164, 4, [some (.inr (.inr 3)), some (.inr (.inr 44)), some (.inl 0), some (.inl 0)], [], (am_sh, am_mm U))) 4 (fun _ => rfl) ?_
  exact h
theorem st164_3_44_4 (kz : am_Z) (d : Nat) (x2 x3 : Int) (U : Nat → Nat → Int) (R : Option am_V × am_M) (h : ((((U 3 1) ≤ x3 : Prop)) → ((((am_shl 1 x2) ≤ 4096 : Prop)) → Ev kz ((d + 1), 164, 58, [some (.inr (.inr 3)), some (.inr (.inr 44)), some (.inl x2), some (.inl 1)], [], (am_sh, am_mm (am_upd U 44 0 0))) R) ∧ (¬ ((am_shl 1 x2) ≤ 4096) → R = (some (.inl (-1)), (am_sh, am_mm U)))) ∧ (¬ ((U 3 1) ≤ x3) → (0 ≤ x3 ∧ x3 < 12) ∧ ((((U 10 x3.toNat) = 0 : Prop)) → Ev kz ((d + 1), 164, 4, [some (.inr (.inr 3)), some (.inr (.inr 44)), some (.inl x2), some (.inl (w32 (x3 + 1)))], [], (am_sh, am_mm U)) R) ∧ (¬ ((U 10 x3.toNat) = 0) → (0 ≤ x3 ∧ x3 < 12) ∧ (0 ≤ x2 ∧ x2 < 12) ∧ Ev kz ((d + 1), 164, 4, [some (.inr (.inr 3)), some (.inr (.inr 44)), some (.inl (w32 (x2 + 1))), some (.inl (w32 (x3 + 1)))], [], (am_sh, am_mm (am_upd U 11 x2.toNat (U 10 x3.toNat)))) R))) : Ev kz ((d + 1), 164, 4, [some (.inr (.inr 3)), some (.inr (.inr 44)), some (.inl x2), some (.inl x3)], [], (am_sh, am_mm U)) R := by
  refine ev_br (P := (U 3 1) ≤ x3) (σ1 := ((d + 1), 164, 42, [some (.inr (.inr 3)), some (.inr (.inr 44)), some (.inl x2), some (.inl x3)], [], (am_sh, am_mm U))) (σ2 := ((d + 1), 164, 12, [some (.inr (.inr 3)), some (.inr (.inr 44)), some (.inl x2), some (.inl x3)], [], (am_sh, am_mm U))) 4 (fun _ => rfl) (fun hc => ?_) (fun hc => ?_)
  · have h1 := h.1 hc
    refine ev_br (P := (am_shl 1 x2) ≤ 4096) (σ1 := ((d + 1), 164, 52, [some (.inr (.inr 3)), some (.inr (.inr 44)), some (.inl x2), some (.inl x3)], [], (am_sh, am_mm U))) (σ2 := ((d + 1), 164, 50, [some (.inr (.inr 3)), some (.inr (.inr 44)), some (.inl x2), some (.inl x3)], [], (am_sh, am_mm U))) 6 (fun _ => rfl) (fun hc => ?_) (fun hc => ?_)
    · have h11 := h1.1 hc
      refine ev_seg (σ1 := ((d + 1), 164, 55, [some (.inr (.inr 3)), some (.inr (.inr 44)), some (.inl x2), some (.inl x3)], [.inl 0, .inl 0, .inr (.inr 44)], (am_sh, am_mm U))) 3 (fun _ => rfl) ?_
      refine eu_iast 44 (n := 4096) rfl (by decide) rfl (fun _ => rfl) (by decide) ?_
      show Ev kz ((d + 1), 164, 56, [some (.inr (.inr 3)), some (.inr (.inr 44)), some (.inl x2), some (.inl x3)], [], (am_sh, am_mm (am_upd U 44 0 0))) R
      refine ev_seg (σ1 := ((d + 1), 164, 58, [some (.inr (.inr 3)), some (.inr (.inr 44)), some (.inl x2), some (.inl 1)], [], (am_sh, am_mm (am_upd U 44 0 0)))) 2 (fun _ => rfl) ?_
      exact h11
    · have h12 := h1.2 hc
      subst h12
      exact ev_end 2 (fun _ => rfl)
  · have h2 := h.2 hc
    refine ev_seg (σ1 := ((d + 1), 164, 17, [some (.inr (.inr 3)), some (.inr (.inr 44)), some (.inl x2), some (.inl x3)], [.inl x3, .inr (.inr 10)], (am_sh, am_mm U))) 3 (fun _ => rfl) ?_
    refine eu_iald 10 (n := 12) rfl (by decide) rfl (fun _ => rfl) h2.1 ?_
    have h2a := h2.2
    refine ev_br (P := (U 10 x3.toNat) = 0) (σ1 := ((d + 1), 164, 36, [some (.inr (.inr 3)), some (.inr (.inr 44)), some (.inl x2), some (.inl x3)], [], (am_sh, am_mm U))) (σ2 := ((d + 1), 164, 21, [some (.inr (.inr 3)), some (.inr (.inr 44)), some (.inl x2), some (.inl x3)], [], (am_sh, am_mm U))) 1 (fun _ => rfl) (fun hc => ?_) (fun hc => ?_)
    · have h2a1 := h2a.1 hc
      refine ev_seg (σ1 := ((d + 1), 164, 4, [some (.inr (.inr 3)), some (.inr (.inr 44)), some (.inl x2), some (.inl (w32 (x3 + 1)))], [], (am_sh, am_mm U))) 2 (fun _ => rfl) ?_
      exact h2a1
    · have h2a2 := h2a.2 hc
      refine ev_seg (σ1 := ((d + 1), 164, 31, [some (.inr (.inr 3)), some (.inr (.inr 44)), some (.inl x2), some (.inl x3)], [.inl x3, .inr (.inr 10), .inl x2, .inr (.inr 11)], (am_sh, am_mm U))) 6 (fun _ => rfl) ?_
      refine eu_iald 10 (n := 12) rfl (by decide) rfl (fun _ => rfl) h2a2.1 ?_
      have h2a2a := h2a2.2
      refine eu_iast 11 (n := 12) rfl (by decide) rfl (fun _ => rfl) h2a2a.1 ?_
      have h2a2aa := h2a2a.2
      refine ev_seg (σ1 := ((d + 1), 164, 4, [some (.inr (.inr 3)), some (.inr (.inr 44)), some (.inl (w32 (x2 + 1))), some (.inl (w32 (x3 + 1)))], [], (am_sh, am_mm (am_upd U 11 x2.toNat (U 10 x3.toNat))))) 3 (fun _ => rfl) ?_
      exact h2a2aa
theorem st164_3_44_58 (kz : am_Z) (d : Nat) (x2 x3 : Int) (U : Nat → Nat → Int) (R : Option am_V × am_M) (h : ((((am_shl 1 x2) ≤ x3 : Prop)) → (0 ≤ (w32 ((am_shl 1 x2) - 1)) ∧ (w32 ((am_shl 1 x2) - 1)) < 4096) ∧ R = (some (.inl (w32 (x2 - (am_and (U 44 (w32 ((am_shl 1 x2) - 1)).toNat) 15)))), (am_sh, am_mm U))) ∧ (¬ ((am_shl 1 x2) ≤ x3) → ∃ U1 : Nat → Nat → Int, Ev kz (d, 240, 0, [some (.inr (.inr 3)), some (.inr (.inr 44)), some (.inl x3), some (.inl x2), none, none, none, none], [], (am_sh, am_mm U)) (none, (am_sh, am_mm U1)) ∧ Ev kz ((d + 1), 164, 58, [some (.inr (.inr 3)), some (.inr (.inr 44)), some (.inl x2), some (.inl (w32 (x3 + 1)))], [], (am_sh, am_mm U1)) R)) : Ev kz ((d + 1), 164, 58, [some (.inr (.inr 3)), some (.inr (.inr 44)), some (.inl x2), some (.inl x3)], [], (am_sh, am_mm U)) R := by
  refine ev_br (P := (am_shl 1 x2) ≤ x3) (σ1 := ((d + 1), 164, 78, [some (.inr (.inr 3)), some (.inr (.inr 44)), some (.inl x2), some (.inl x3)], [], (am_sh, am_mm U))) (σ2 := ((d + 1), 164, 65, [some (.inr (.inr 3)), some (.inr (.inr 44)), some (.inl x2), some (.inl x3)], [], (am_sh, am_mm U))) 5 (fun _ => rfl) (fun hc => ?_) (fun hc => ?_)
  · have h1 := h.1 hc
    refine ev_seg (σ1 := ((d + 1), 164, 85, [some (.inr (.inr 3)), some (.inr (.inr 44)), some (.inl x2), some (.inl x3)], [.inl (w32 ((am_shl 1 x2) - 1)), .inr (.inr 44), .inl x2], (am_sh, am_mm U))) 7 (fun _ => rfl) ?_
    refine eu_iald 44 (n := 4096) rfl (by decide) rfl (fun _ => rfl) h1.1 ?_
    have h1a := h1.2
    subst h1a
    exact ev_end 4 (fun _ => rfl)
  · have h2 := h.2 hc
    refine ev_seg (σ1 := ((d + 1), 164, 69, [some (.inr (.inr 3)), some (.inr (.inr 44)), some (.inl x2), some (.inl x3)], [.inl x2, .inl x3, .inr (.inr 44), .inr (.inr 3)], (am_sh, am_mm U))) 4 (fun _ => rfl) ?_
    obtain ⟨U1, h2c, h2a⟩ := h2
    refine ev_cal (σc := (d, 240, 0, [some (.inr (.inr 3)), some (.inr (.inr 44)), some (.inl x3), some (.inl x2), none, none, none, none], [], (am_sh, am_mm U))) (fun _ => rfl) h2c ?_
    show Ev kz ((d + 1), 164, 72, [some (.inr (.inr 3)), some (.inr (.inr 44)), some (.inl x2), some (.inl x3)], [], (am_sh, am_mm U1)) R
    refine ev_seg (σ1 := ((d + 1), 164, 58, [some (.inr (.inr 3)), some (.inr (.inr 44)), some (.inl x2), some (.inl (w32 (x3 + 1)))], [], (am_sh, am_mm U1))) 2 (fun _ => rfl) ?_
    exact h2a
theorem st166_78_2_0 (kz : am_Z) (d : Nat) (U : Nat → Nat → Int) (R : Option am_V × am_M) (h : ∃ U1 : Nat → Nat → Int, Ev kz (d, 241, 0, [some (.inr (.inr 78)), none, none], [], (am_sh, am_mm (am_upd (am_upd (am_upd U 78 3 (U 2 0)) 78 4 (w32 ((am_shl 2 ((am_upd U 78 3 (U 2 0)) 2 1)) - 2))) 78 5 0))) (none, (am_sh, am_mm U1)) ∧ ∃ U2 : Nat → Nat → Int, Ev kz (d, 242, 0, [some (.inr (.inr 78)), some (.inl 0), some (.inr (.inr 2)), none, none, none], [], (am_sh, am_mm U1)) (none, (am_sh, am_mm U2)) ∧ R = (none, (am_sh, am_mm U2))) : Ev kz ((d + 1), 166, 0, [some (.inr (.inr 78)), some (.inr (.inr 2))], [], (am_sh, am_mm U)) R := by
  refine ev_seg (σ1 := ((d + 1), 166, 3, [some (.inr (.inr 78)), some (.inr (.inr 2))], [.inl 0, .inr (.inr 2), .inr (.inr 78)], (am_sh, am_mm U))) 3 (fun _ => rfl) ?_
  refine eu_iald 2 (n := 1600) rfl (by decide) rfl (fun _ => rfl) (by decide) ?_
  show Ev kz ((d + 1), 166, 4, [some (.inr (.inr 78)), some (.inr (.inr 2))], [.inl (U 2 0), .inr (.inr 78)], (am_sh, am_mm U)) R
  refine eu_puti 78 (n := 6) rfl (by decide) rfl rfl ?_
  refine ev_seg (σ1 := ((d + 1), 166, 11, [some (.inr (.inr 78)), some (.inr (.inr 2))], [.inl 1, .inr (.inr 2), .inl 2, .inr (.inr 78)], (am_sh, am_mm (am_upd U 78 3 (U 2 0))))) 4 (fun _ => rfl) ?_
  refine eu_iald 2 (n := 1600) rfl (by decide) rfl (fun _ => rfl) (by decide) ?_
  show Ev kz ((d + 1), 166, 12, [some (.inr (.inr 78)), some (.inr (.inr 2))], [.inl ((am_upd U 78 3 (U 2 0)) 2 1), .inl 2, .inr (.inr 78)], (am_sh, am_mm (am_upd U 78 3 (U 2 0)))) R
  refine ev_seg (σ1 := ((d + 1), 166, 15, [some (.inr (.inr 78)), some (.inr (.inr 2))], [.inl (w32 ((am_shl 2 ((am_upd U 78 3 (U 2 0)) 2 1)) - 2)), .inr (.inr 78)], (am_sh, am_mm (am_upd U 78 3 (U 2 0))))) 3 (fun _ => rfl) ?_
  refine eu_puti 78 (n := 6) rfl (by decide) rfl rfl ?_
  refine ev_seg (σ1 := ((d + 1), 166, 20, [some (.inr (.inr 78)), some (.inr (.inr 2))], [.inl 0, .inr (.inr 78)], (am_sh, am_mm (am_upd (am_upd U 78 3 (U 2 0)) 78 4 (w32 ((am_shl 2 ((am_upd U 78 3 (U 2 0)) 2 1)) - 2)))))) 2 (fun _ => rfl) ?_
  refine eu_puti 78 (n := 6) rfl (by decide) rfl rfl ?_
  refine ev_seg (σ1 := ((d + 1), 166, 24, [some (.inr (.inr 78)), some (.inr (.inr 2))], [.inr (.inr 78)], (am_sh, am_mm (am_upd (am_upd (am_upd U 78 3 (U 2 0)) 78 4 (w32 ((am_shl 2 ((am_upd U 78 3 (U 2 0)) 2 1)) - 2))) 78 5 0)))) 1 (fun _ => rfl) ?_
  obtain ⟨U1, hc, ha⟩ := h
  refine ev_cal (σc := (d, 241, 0, [some (.inr (.inr 78)), none, none], [], (am_sh, am_mm (am_upd (am_upd (am_upd U 78 3 (U 2 0)) 78 4 (w32 ((am_shl 2 ((am_upd U 78 3 (U 2 0)) 2 1)) - 2))) 78 5 0)))) (fun _ => rfl) hc ?_
  show Ev kz ((d + 1), 166, 27, [some (.inr (.inr 78)), some (.inr (.inr 2))], [], (am_sh, am_mm U1)) R
  refine ev_seg (σ1 := ((d + 1), 166, 30, [some (.inr (.inr 78)), some (.inr (.inr 2))], [.inr (.inr 2), .inl 0, .inr (.inr 78)], (am_sh, am_mm U1))) 3 (fun _ => rfl) ?_
  obtain ⟨U2, hac, haa⟩ := ha
  refine ev_cal (σc := (d, 242, 0, [some (.inr (.inr 78)), some (.inl 0), some (.inr (.inr 2)), none, none, none], [], (am_sh, am_mm U1))) (fun _ => rfl) hac ?_
  show Ev kz ((d + 1), 166, 33, [some (.inr (.inr 78)), some (.inr (.inr 2))], [], (am_sh, am_mm U2)) R
  subst haa
  exact ev_end 1 (fun _ => rfl)
theorem st165_2_0 (kz : am_Z) (d : Nat) (x1 : Int) (U : Nat → Nat → Int) (R : Option am_V × am_M) (h : (((x1 < 3 : Prop)) → R = (some (.inl 0), (am_sh, am_mm U))) ∧ (¬ (x1 < 3) → (((1600 < x1 : Prop)) → R = (some (.inl 0), (am_sh, am_mm U))) ∧ (¬ (1600 < x1) → ((((U 2 0) < 2 : Prop)) → R = (some (.inl 0), (am_sh, am_mm U))) ∧ (¬ ((U 2 0) < 2) → ((((U 2 0) ≤ 4 : Prop)) → ((((U 2 1) < 1 : Prop)) → R = (some (.inl 0), (am_sh, am_mm U))) ∧ (¬ ((U 2 1) < 1) → (((24 < (U 2 1) : Prop)) → R = (some (.inl 0), (am_sh, am_mm U))) ∧ (¬ (24 < (U 2 1)) → (((x1 = (w32 (2 + (w32 (Int.tdiv (w32 ((U 2 0) * (w32 ((U 2 0) - 1)))) 2)))) : Prop)) → Ev kz (d, 165, 63, [some (.inr (.inr 2)), some (.inl x1), some (.inl 2)], [], (am_sh, am_mm U)) R) ∧ (¬ (x1 = (w32 (2 + (w32 (Int.tdiv (w32 ((U 2 0) * (w32 ((U 2 0) - 1)))) 2))))) → R = (some (.inl 0), (am_sh, am_mm U)))))) ∧ (¬ ((U 2 0) ≤ 4) → R = (some (.inl 0), (am_sh, am_mm U))))))) : Ev kz (d, 165, 0, [some (.inr (.inr 2)), some (.inl x1), none], [], (am_sh, am_mm U)) R := by
  refine ev_br (P := x1 < 3) (σ1 := (d, 165, 25, [some (.inr (.inr 2)), some (.inl x1), none], [], (am_sh, am_mm U))) (σ2 := (d, 165, 5, [some (.inr (.inr 2)), some (.inl x1), none], [], (am_sh, am_mm U))) 3 (fun _ => rfl) (fun hc => ?_) (fun hc => ?_)
  · have h1 := h.1 hc
    subst h1
    exact ev_end 2 (fun _ => rfl)
  · have h2 := h.2 hc
    refine ev_br (P := 1600 < x1) (σ1 := (d, 165, 25, [some (.inr (.inr 2)), some (.inl x1), none], [], (am_sh, am_mm U))) (σ2 := (d, 165, 11, [some (.inr (.inr 2)), some (.inl x1), none], [], (am_sh, am_mm U))) 4 (fun _ => rfl) (fun hc => ?_) (fun hc => ?_)
    · have h21 := h2.1 hc
      subst h21
      exact ev_end 2 (fun _ => rfl)
    · have h22 := h2.2 hc
      refine ev_seg (σ1 := (d, 165, 13, [some (.inr (.inr 2)), some (.inl x1), none], [.inl 0, .inr (.inr 2)], (am_sh, am_mm U))) 2 (fun _ => rfl) ?_
      refine eu_iald 2 (n := 1600) rfl (by decide) rfl (fun _ => rfl) (by decide) ?_
      show Ev kz (d, 165, 14, [some (.inr (.inr 2)), some (.inl x1), none], [.inl (U 2 0)], (am_sh, am_mm U)) R
      refine ev_br (P := (U 2 0) < 2) (σ1 := (d, 165, 25, [some (.inr (.inr 2)), some (.inl x1), none], [], (am_sh, am_mm U))) (σ2 := (d, 165, 18, [some (.inr (.inr 2)), some (.inl x1), none], [], (am_sh, am_mm U))) 2 (fun _ => rfl) (fun hc => ?_) (fun hc => ?_)
      · have h221 := h22.1 hc
        subst h221
        exact ev_end 2 (fun _ => rfl)
      · have h222 := h22.2 hc
        refine ev_seg (σ1 := (d, 165, 20, [some (.inr (.inr 2)), some (.inl x1), none], [.inl 0, .inr (.inr 2)], (am_sh, am_mm U))) 2 (fun _ => rfl) ?_
        refine eu_iald 2 (n := 1600) rfl (by decide) rfl (fun _ => rfl) (by decide) ?_
        show Ev kz (d, 165, 21, [some (.inr (.inr 2)), some (.inl x1), none], [.inl (U 2 0)], (am_sh, am_mm U)) R
        refine ev_br (P := (U 2 0) ≤ 4) (σ1 := (d, 165, 27, [some (.inr (.inr 2)), some (.inl x1), none], [], (am_sh, am_mm U))) (σ2 := (d, 165, 25, [some (.inr (.inr 2)), some (.inl x1), none], [], (am_sh, am_mm U))) 2 (fun _ => rfl) (fun hc => ?_) (fun hc => ?_)
        · have h2221 := h222.1 hc
          refine ev_seg (σ1 := (d, 165, 29, [some (.inr (.inr 2)), some (.inl x1), none], [.inl 1, .inr (.inr 2)], (am_sh, am_mm U))) 2 (fun _ => rfl) ?_
          refine eu_iald 2 (n := 1600) rfl (by decide) rfl (fun _ => rfl) (by decide) ?_
          show Ev kz (d, 165, 30, [some (.inr (.inr 2)), some (.inl x1), none], [.inl (U 2 1)], (am_sh, am_mm U)) R
          refine ev_br (P := (U 2 1) < 1) (σ1 := (d, 165, 59, [some (.inr (.inr 2)), some (.inl x1), none], [], (am_sh, am_mm U))) (σ2 := (d, 165, 34, [some (.inr (.inr 2)), some (.inl x1), none], [], (am_sh, am_mm U))) 2 (fun _ => rfl) (fun hc => ?_) (fun hc => ?_)
          · have h22211 := h2221.1 hc
            subst h22211
            exact ev_end 2 (fun _ => rfl)
          · have h22212 := h2221.2 hc
            refine ev_seg (σ1 := (d, 165, 36, [some (.inr (.inr 2)), some (.inl x1), none], [.inl 1, .inr (.inr 2)], (am_sh, am_mm U))) 2 (fun _ => rfl) ?_
            refine eu_iald 2 (n := 1600) rfl (by decide) rfl (fun _ => rfl) (by decide) ?_
            show Ev kz (d, 165, 37, [some (.inr (.inr 2)), some (.inl x1), none], [.inl (U 2 1)], (am_sh, am_mm U)) R
            refine ev_br (P := 24 < (U 2 1)) (σ1 := (d, 165, 59, [some (.inr (.inr 2)), some (.inl x1), none], [], (am_sh, am_mm U))) (σ2 := (d, 165, 42, [some (.inr (.inr 2)), some (.inl x1), none], [], (am_sh, am_mm U))) 2 (fun _ => rfl) (fun hc => ?_) (fun hc => ?_)
            · have h222121 := h22212.1 hc
              subst h222121
              exact ev_end 2 (fun _ => rfl)
            · have h222122 := h22212.2 hc
              refine ev_seg (σ1 := (d, 165, 46, [some (.inr (.inr 2)), some (.inl x1), none], [.inl 0, .inr (.inr 2), .inl 2, .inl x1], (am_sh, am_mm U))) 4 (fun _ => rfl) ?_
              refine eu_iald 2 (n := 1600) rfl (by decide) rfl (fun _ => rfl) (by decide) ?_
              show Ev kz (d, 165, 47, [some (.inr (.inr 2)), some (.inl x1), none], [.inl (U 2 0), .inl 2, .inl x1], (am_sh, am_mm U)) R
              refine ev_seg (σ1 := (d, 165, 49, [some (.inr (.inr 2)), some (.inl x1), none], [.inl 0, .inr (.inr 2), .inl (U 2 0), .inl 2, .inl x1], (am_sh, am_mm U))) 2 (fun _ => rfl) ?_
              refine eu_iald 2 (n := 1600) rfl (by decide) rfl (fun _ => rfl) (by decide) ?_
              show Ev kz (d, 165, 50, [some (.inr (.inr 2)), some (.inl x1), none], [.inl (U 2 0), .inl (U 2 0), .inl 2, .inl x1], (am_sh, am_mm U)) R
              refine ev_seg (σ1 := (d, 165, 54, [some (.inr (.inr 2)), some (.inl x1), none], [.inl 2, .inl (w32 ((U 2 0) * (w32 ((U 2 0) - 1)))), .inl 2, .inl x1], (am_sh, am_mm U))) 4 (fun _ => rfl) ?_
              refine ev_idiv rfl (by decide) ?_
              refine ev_br (P := x1 = (w32 (2 + (w32 (Int.tdiv (w32 ((U 2 0) * (w32 ((U 2 0) - 1)))) 2))))) (σ1 := (d, 165, 61, [some (.inr (.inr 2)), some (.inl x1), none], [], (am_sh, am_mm U))) (σ2 := (d, 165, 59, [some (.inr (.inr 2)), some (.inl x1), none], [], (am_sh, am_mm U))) 2 (fun _ => rfl) (fun hc => ?_) (fun hc => ?_)
              · have h2221221 := h222122.1 hc
                refine ev_seg (σ1 := (d, 165, 63, [some (.inr (.inr 2)), some (.inl x1), some (.inl 2)], [], (am_sh, am_mm U))) 2 (fun _ => rfl) ?_
                exact h2221221
              · have h2221222 := h222122.2 hc
                subst h2221222
                exact ev_end 2 (fun _ => rfl)
        · have h2222 := h222.2 hc
          subst h2222
          exact ev_end 2 (fun _ => rfl)
theorem st165_2_63 (kz : am_Z) (d : Nat) (x1 x2 : Int) (U : Nat → Nat → Int) (R : Option am_V × am_M) (h : (((x1 ≤ x2 : Prop)) → R = (some (.inl 1), (am_sh, am_mm U))) ∧ (¬ (x1 ≤ x2) → (0 ≤ x2 ∧ x2 < 1600) ∧ ((((U 2 x2.toNat) ≤ 1 : Prop)) → Ev kz (d, 165, 63, [some (.inr (.inr 2)), some (.inl x1), some (.inl (w32 (x2 + 1)))], [], (am_sh, am_mm U)) R) ∧ (¬ ((U 2 x2.toNat) ≤ 1) → R = (some (.inl 0), (am_sh, am_mm U))))) : Ev kz (d, 165, 63, [some (.inr (.inr 2)), some (.inl x1), some (.inl x2)], [], (am_sh, am_mm U)) R := by
  refine ev_br (P := x1 ≤ x2) (σ1 := (d, 165, 83, [some (.inr (.inr 2)), some (.inl x1), some (.inl x2)], [], (am_sh, am_mm U))) (σ2 := (d, 165, 68, [some (.inr (.inr 2)), some (.inl x1), some (.inl x2)], [], (am_sh, am_mm U))) 3 (fun _ => rfl) (fun hc => ?_) (fun hc => ?_)
  · have h1 := h.1 hc
    subst h1
    exact ev_end 2 (fun _ => rfl)
  · have h2 := h.2 hc
    refine ev_seg (σ1 := (d, 165, 70, [some (.inr (.inr 2)), some (.inl x1), some (.inl x2)], [.inl x2, .inr (.inr 2)], (am_sh, am_mm U))) 2 (fun _ => rfl) ?_
    refine eu_iald 2 (n := 1600) rfl (by decide) rfl (fun _ => rfl) h2.1 ?_
    have h2a := h2.2
    refine ev_br (P := (U 2 x2.toNat) ≤ 1) (σ1 := (d, 165, 77, [some (.inr (.inr 2)), some (.inl x1), some (.inl x2)], [], (am_sh, am_mm U))) (σ2 := (d, 165, 75, [some (.inr (.inr 2)), some (.inl x1), some (.inl x2)], [], (am_sh, am_mm U))) 2 (fun _ => rfl) (fun hc => ?_) (fun hc => ?_)
    · have h2a1 := h2a.1 hc
      refine ev_seg (σ1 := (d, 165, 63, [some (.inr (.inr 2)), some (.inl x1), some (.inl (w32 (x2 + 1)))], [], (am_sh, am_mm U))) 2 (fun _ => rfl) ?_
      exact h2a1
    · have h2a2 := h2a.2 hc
      subst h2a2
      exact ev_end 2 (fun _ => rfl)
theorem st167_86_0 (kz : am_Z) (d : Nat) (U : Nat → Nat → Int) (R : Option am_V × am_M) (h : Ev kz ((d + 1), 167, 9, [some (.inr (.inr 86)), some (.inl 1), some (.inl 0), none, none], [], (am_sh, am_mm (am_upd U 86 84 0))) R) : Ev kz ((d + 1), 167, 0, [some (.inr (.inr 86)), none, none, none, none], [], (am_sh, am_mm U)) R := by
  refine ev_seg (σ1 := ((d + 1), 167, 2, [some (.inr (.inr 86)), none, none, none, none], [.inl 0, .inr (.inr 86)], (am_sh, am_mm U))) 2 (fun _ => rfl) ?_
  refine eu_puti 86 (n := 90) rfl (by decide) rfl rfl ?_
  refine ev_seg (σ1 := ((d + 1), 167, 9, [some (.inr (.inr 86)), some (.inl 1), some (.inl 0), none, none], [], (am_sh, am_mm (am_upd U 86 84 0)))) 4 (fun _ => rfl) ?_
  exact h
theorem st167_86_9 (kz : am_Z) (d : Nat) (x1 x2 : Int) (U : Nat → Nat → Int) (R : Option am_V × am_M) (h : ((((U 86 82) ≤ x2 : Prop)) → Ev kz ((d + 1), 167, 32, [some (.inr (.inr 86)), some (.inl x1), some (.inl 0), none, none], [], (am_sh, am_mm U)) R) ∧ (¬ ((U 86 82) ≤ x2) → Ev kz ((d + 1), 167, 9, [some (.inr (.inr 86)), some (.inl (w32 (x1 * (U 86 83)))), some (.inl (w32 (x2 + 1))), none, none], [], (am_sh, am_mm U)) R)) : Ev kz ((d + 1), 167, 9, [some (.inr (.inr 86)), some (.inl x1), some (.inl x2), none, none], [], (am_sh, am_mm U)) R := by
  refine ev_br (P := (U 86 82) ≤ x2) (σ1 := ((d + 1), 167, 30, [some (.inr (.inr 86)), some (.inl x1), some (.inl x2), none, none], [], (am_sh, am_mm U))) (σ2 := ((d + 1), 167, 17, [some (.inr (.inr 86)), some (.inl x1), some (.inl x2), none, none], [], (am_sh, am_mm U))) 4 (fun _ => rfl) (fun hc => ?_) (fun hc => ?_)
  · have h1 := h.1 hc
    refine ev_seg (σ1 := ((d + 1), 167, 32, [some (.inr (.inr 86)), some (.inl x1), some (.inl 0), none, none], [], (am_sh, am_mm U))) 2 (fun _ => rfl) ?_
    exact h1
  · have h2 := h.2 hc
    refine ev_seg (σ1 := ((d + 1), 167, 9, [some (.inr (.inr 86)), some (.inl (w32 (x1 * (U 86 83)))), some (.inl (w32 (x2 + 1))), none, none], [], (am_sh, am_mm U))) 7 (fun _ => rfl) ?_
    exact h2
theorem st167_86_32 (kz : am_Z) (d : Nat) (x1 x2 : Int) (U : Nat → Nat → Int) (R : Option am_V × am_M) (h : (((x1 ≤ x2 : Prop)) → R = (none, (am_sh, am_mm U))) ∧ (¬ (x1 ≤ x2) → Ev kz ((d + 1), 167, 47, [some (.inr (.inr 86)), some (.inl x1), some (.inl x2), some (.inl x2), some (.inl (w32 ((U 86 82) - 1)))], [], (am_sh, am_mm U)) R)) : Ev kz ((d + 1), 167, 32, [some (.inr (.inr 86)), some (.inl x1), some (.inl x2), none, none], [], (am_sh, am_mm U)) R := by
  refine ev_br (P := x1 ≤ x2) (σ1 := ((d + 1), 167, 145, [some (.inr (.inr 86)), some (.inl x1), some (.inl x2), none, none], [], (am_sh, am_mm U))) (σ2 := ((d + 1), 167, 37, [some (.inr (.inr 86)), some (.inl x1), some (.inl x2), none, none], [], (am_sh, am_mm U))) 3 (fun _ => rfl) (fun hc => ?_) (fun hc => ?_)
  · have h1 := h.1 hc
    subst h1
    exact ev_end 1 (fun _ => rfl)
  · have h2 := h.2 hc
    refine ev_seg (σ1 := ((d + 1), 167, 47, [some (.inr (.inr 86)), some (.inl x1), some (.inl x2), some (.inl x2), some (.inl (w32 ((U 86 82) - 1)))], [], (am_sh, am_mm U))) 7 (fun _ => rfl) ?_
    exact h2
theorem st167_86_47 (kz : am_Z) (d : Nat) (x1 x2 x3 x4 : Int) (U : Nat → Nat → Int) (R : Option am_V × am_M) (h : (((x4 < 0 : Prop)) → ∃ (r1 : Int) (U1 : Nat → Nat → Int), Ev kz (d, 243, 0, [some (.inr (.inr 86)), none, none, none], [], (am_sh, am_mm U)) (some (.inl r1), (am_sh, am_mm U1)) ∧ (((¬ r1 = 0 : Prop)) → Ev kz ((d + 1), 167, 93, [some (.inr (.inr 86)), some (.inl x1), some (.inl x2), some (.inl x3), some (.inl 0)], [], (am_sh, am_mm U1)) R) ∧ (¬ (¬ r1 = 0) → Ev kz ((d + 1), 167, 32, [some (.inr (.inr 86)), some (.inl x1), some (.inl (w32 (x2 + 1))), some (.inl x3), some (.inl x4)], [], (am_sh, am_mm U1)) R)) ∧ (¬ (x4 < 0) → (U 86 83) ≠ 0 ∧ (0 ≤ x4 ∧ x4 < 4) ∧ ((am_upd U 136 x4.toNat (w32 (1 + (Int.tmod x3 (U 86 83))))) 86 83) ≠ 0 ∧ Ev kz ((d + 1), 167, 47, [some (.inr (.inr 86)), some (.inl x1), some (.inl x2), some (.inl (w32 (Int.tdiv x3 ((am_upd U 136 x4.toNat (w32 (1 + (Int.tmod x3 (U 86 83))))) 86 83)))), some (.inl (w32 (x4 + (-1))))], [], (am_sh, am_mm (am_upd U 136 x4.toNat (w32 (1 + (Int.tmod x3 (U 86 83))))))) R)) : Ev kz ((d + 1), 167, 47, [some (.inr (.inr 86)), some (.inl x1), some (.inl x2), some (.inl x3), some (.inl x4)], [], (am_sh, am_mm U)) R := by
  refine ev_br (P := x4 < 0) (σ1 := ((d + 1), 167, 80, [some (.inr (.inr 86)), some (.inl x1), some (.inl x2), some (.inl x3), some (.inl x4)], [], (am_sh, am_mm U))) (σ2 := ((d + 1), 167, 52, [some (.inr (.inr 86)), some (.inl x1), some (.inl x2), some (.inl x3), some (.inl x4)], [], (am_sh, am_mm U))) 2 (fun _ => rfl) (fun hc => ?_) (fun hc => ?_)
  · have h1 := h.1 hc
    refine ev_seg (σ1 := ((d + 1), 167, 81, [some (.inr (.inr 86)), some (.inl x1), some (.inl x2), some (.inl x3), some (.inl x4)], [.inr (.inr 86)], (am_sh, am_mm U))) 1 (fun _ => rfl) ?_
    obtain ⟨r1, U1, h1c, h1a⟩ := h1
    refine ev_cal (σc := (d, 243, 0, [some (.inr (.inr 86)), none, none, none], [], (am_sh, am_mm U))) (fun _ => rfl) h1c ?_
    show Ev kz ((d + 1), 167, 84, [some (.inr (.inr 86)), some (.inl x1), some (.inl x2), some (.inl x3), some (.inl x4)], [.inl r1], (am_sh, am_mm U1)) R
    refine ev_br (P := ¬ r1 = 0) (σ1 := ((d + 1), 167, 90, [some (.inr (.inr 86)), some (.inl x1), some (.inl x2), some (.inl x3), some (.inl x4)], [], (am_sh, am_mm U1))) (σ2 := ((d + 1), 167, 87, [some (.inr (.inr 86)), some (.inl x1), some (.inl x2), some (.inl x3), some (.inl x4)], [], (am_sh, am_mm U1))) 1 (fun _ => rfl) (fun hc => ?_) (fun hc => ?_)
    · have h1a1 := h1a.1 hc
      refine ev_seg (σ1 := ((d + 1), 167, 93, [some (.inr (.inr 86)), some (.inl x1), some (.inl x2), some (.inl x3), some (.inl 0)], [], (am_sh, am_mm U1))) 2 (fun _ => rfl) ?_
      exact h1a1
    · have h1a2 := h1a.2 hc
      refine ev_seg (σ1 := ((d + 1), 167, 32, [some (.inr (.inr 86)), some (.inl x1), some (.inl (w32 (x2 + 1))), some (.inl x3), some (.inl x4)], [], (am_sh, am_mm U1))) 3 (fun _ => rfl) ?_
      exact h1a2
  · have h2 := h.2 hc
    refine ev_seg (σ1 := ((d + 1), 167, 64, [some (.inr (.inr 86)), some (.inl x1), some (.inl x2), some (.inl x3), some (.inl x4)], [.inl (U 86 83), .inl x3, .inl 1, .inl x4, .inr (.inr 136)], (am_sh, am_mm U))) 7 (fun _ => rfl) ?_
    refine ev_irem rfl h2.1 ?_
    have h2a := h2.2
    refine ev_seg (σ1 := ((d + 1), 167, 66, [some (.inr (.inr 86)), some (.inl x1), some (.inl x2), some (.inl x3), some (.inl x4)], [.inl (w32 (1 + (Int.tmod x3 (U 86 83)))), .inl x4, .inr (.inr 136)], (am_sh, am_mm U))) 1 (fun _ => rfl) ?_
    refine eu_iast 136 (n := 4) rfl (by decide) rfl (fun _ => rfl) h2a.1 ?_
    have h2aa := h2a.2
    refine ev_seg (σ1 := ((d + 1), 167, 72, [some (.inr (.inr 86)), some (.inl x1), some (.inl x2), some (.inl x3), some (.inl x4)], [.inl ((am_upd U 136 x4.toNat (w32 (1 + (Int.tmod x3 (U 86 83))))) 86 83), .inl x3], (am_sh, am_mm (am_upd U 136 x4.toNat (w32 (1 + (Int.tmod x3 (U 86 83)))))))) 3 (fun _ => rfl) ?_
    refine ev_idiv rfl h2aa.1 ?_
    have h2aaa := h2aa.2
    refine ev_seg (σ1 := ((d + 1), 167, 47, [some (.inr (.inr 86)), some (.inl x1), some (.inl x2), some (.inl (w32 (Int.tdiv x3 ((am_upd U 136 x4.toNat (w32 (1 + (Int.tmod x3 (U 86 83))))) 86 83)))), some (.inl (w32 (x4 + (-1))))], [], (am_sh, am_mm (am_upd U 136 x4.toNat (w32 (1 + (Int.tmod x3 (U 86 83)))))))) 3 (fun _ => rfl) ?_
    exact h2aaa
theorem st167_86_93 (kz : am_Z) (d : Nat) (x1 x2 x3 x4 : Int) (U : Nat → Nat → Int) (R : Option am_V × am_M) (h : ((((U 86 82) ≤ x4 : Prop)) → Ev kz ((d + 1), 167, 32, [some (.inr (.inr 86)), some (.inl x1), some (.inl (w32 (x2 + 1))), some (.inl x3), some (.inl x4)], [], (am_sh, am_mm (am_upd U 86 84 (w32 ((U 86 84) + 1))))) R) ∧ (¬ ((U 86 82) ≤ x4) → (((¬ (U 86 84) = 0 : Prop)) → Ev kz ((d + 1), 167, 32, [some (.inr (.inr 86)), some (.inl x1), some (.inl (w32 (x2 + 1))), some (.inl x3), some (.inl x4)], [], (am_sh, am_mm (am_upd U 86 84 (w32 ((U 86 84) + 1))))) R) ∧ (¬ (¬ (U 86 84) = 0) → (0 ≤ x4 ∧ x4 < 4) ∧ (0 ≤ x4 ∧ x4 < 4) ∧ Ev kz ((d + 1), 167, 93, [some (.inr (.inr 86)), some (.inl x1), some (.inl x2), some (.inl x3), some (.inl (w32 (x4 + 1)))], [], (am_sh, am_mm (am_upd U 137 x4.toNat (U 136 x4.toNat)))) R))) : Ev kz ((d + 1), 167, 93, [some (.inr (.inr 86)), some (.inl x1), some (.inl x2), some (.inl x3), some (.inl x4)], [], (am_sh, am_mm U)) R := by
  refine ev_br (P := (U 86 82) ≤ x4) (σ1 := ((d + 1), 167, 129, [some (.inr (.inr 86)), some (.inl x1), some (.inl x2), some (.inl x3), some (.inl x4)], [], (am_sh, am_mm U))) (σ2 := ((d + 1), 167, 102, [some (.inr (.inr 86)), some (.inl x1), some (.inl x2), some (.inl x3), some (.inl x4)], [], (am_sh, am_mm U))) 4 (fun _ => rfl) (fun hc => ?_) (fun hc => ?_)
  · have h1 := h.1 hc
    refine ev_seg (σ1 := ((d + 1), 167, 136, [some (.inr (.inr 86)), some (.inl x1), some (.inl x2), some (.inl x3), some (.inl x4)], [.inl (w32 ((U 86 84) + 1)), .inr (.inr 86)], (am_sh, am_mm U))) 5 (fun _ => rfl) ?_
    refine eu_puti 86 (n := 90) rfl (by decide) rfl rfl ?_
    refine ev_seg (σ1 := ((d + 1), 167, 32, [some (.inr (.inr 86)), some (.inl x1), some (.inl (w32 (x2 + 1))), some (.inl x3), some (.inl x4)], [], (am_sh, am_mm (am_upd U 86 84 (w32 ((U 86 84) + 1)))))) 2 (fun _ => rfl) ?_
    exact h1
  · have h2 := h.2 hc
    refine ev_br (P := ¬ (U 86 84) = 0) (σ1 := ((d + 1), 167, 129, [some (.inr (.inr 86)), some (.inl x1), some (.inl x2), some (.inl x3), some (.inl x4)], [], (am_sh, am_mm U))) (σ2 := ((d + 1), 167, 109, [some (.inr (.inr 86)), some (.inl x1), some (.inl x2), some (.inl x3), some (.inl x4)], [], (am_sh, am_mm U))) 3 (fun _ => rfl) (fun hc => ?_) (fun hc => ?_)
    · have h21 := h2.1 hc
      refine ev_seg (σ1 := ((d + 1), 167, 136, [some (.inr (.inr 86)), some (.inl x1), some (.inl x2), some (.inl x3), some (.inl x4)], [.inl (w32 ((U 86 84) + 1)), .inr (.inr 86)], (am_sh, am_mm U))) 5 (fun _ => rfl) ?_
      refine eu_puti 86 (n := 90) rfl (by decide) rfl rfl ?_
      refine ev_seg (σ1 := ((d + 1), 167, 32, [some (.inr (.inr 86)), some (.inl x1), some (.inl (w32 (x2 + 1))), some (.inl x3), some (.inl x4)], [], (am_sh, am_mm (am_upd U 86 84 (w32 ((U 86 84) + 1)))))) 2 (fun _ => rfl) ?_
      exact h21
    · have h22 := h2.2 hc
      refine ev_seg (σ1 := ((d + 1), 167, 121, [some (.inr (.inr 86)), some (.inl x1), some (.inl x2), some (.inl x3), some (.inl x4)], [.inl x4, .inr (.inr 136), .inl x4, .inr (.inr 137)], (am_sh, am_mm U))) 6 (fun _ => rfl) ?_
      refine eu_iald 136 (n := 4) rfl (by decide) rfl (fun _ => rfl) h22.1 ?_
      have h22a := h22.2
      refine eu_iast 137 (n := 4) rfl (by decide) rfl (fun _ => rfl) h22a.1 ?_
      have h22aa := h22a.2
      refine ev_seg (σ1 := ((d + 1), 167, 93, [some (.inr (.inr 86)), some (.inl x1), some (.inl x2), some (.inl x3), some (.inl (w32 (x4 + 1)))], [], (am_sh, am_mm (am_upd U 137 x4.toNat (U 136 x4.toNat))))) 2 (fun _ => rfl) ?_
      exact h22aa
theorem st168_78_0 (kz : am_Z) (d : Nat) (x1 : Int) (U : Nat → Nat → Int) (R : Option am_V × am_M) (h : ((((U 78 5) ≤ 0 : Prop)) → R = (some (.inl (-1)), (am_sh, am_mm U))) ∧ (¬ ((U 78 5) ≤ 0) → (((x1 < 0 : Prop)) → R = (some (.inl (-1)), (am_sh, am_mm U))) ∧ (¬ (x1 < 0) → ((((U 78 3) ≤ x1 : Prop)) → R = (some (.inl (-1)), (am_sh, am_mm U))) ∧ (¬ ((U 78 3) ≤ x1) → (0 ≤ x1 ∧ x1 < 4) ∧ R = (some (.inl (U 81 x1.toNat)), (am_sh, am_mm U)))))) : Ev kz (d, 168, 0, [some (.inr (.inr 78)), some (.inl x1)], [], (am_sh, am_mm U)) R := by
  refine ev_br (P := (U 78 5) ≤ 0) (σ1 := (d, 168, 28, [some (.inr (.inr 78)), some (.inl x1)], [], (am_sh, am_mm U))) (σ2 := (d, 168, 7, [some (.inr (.inr 78)), some (.inl x1)], [], (am_sh, am_mm U))) 3 (fun _ => rfl) (fun hc => ?_) (fun hc => ?_)
  · have h1 := h.1 hc
    subst h1
    exact ev_end 2 (fun _ => rfl)
  · have h2 := h.2 hc
    refine ev_br (P := x1 < 0) (σ1 := (d, 168, 28, [some (.inr (.inr 78)), some (.inl x1)], [], (am_sh, am_mm U))) (σ2 := (d, 168, 11, [some (.inr (.inr 78)), some (.inl x1)], [], (am_sh, am_mm U))) 2 (fun _ => rfl) (fun hc => ?_) (fun hc => ?_)
    · have h21 := h2.1 hc
      subst h21
      exact ev_end 2 (fun _ => rfl)
    · have h22 := h2.2 hc
      refine ev_br (P := (U 78 3) ≤ x1) (σ1 := (d, 168, 28, [some (.inr (.inr 78)), some (.inl x1)], [], (am_sh, am_mm U))) (σ2 := (d, 168, 19, [some (.inr (.inr 78)), some (.inl x1)], [], (am_sh, am_mm U))) 4 (fun _ => rfl) (fun hc => ?_) (fun hc => ?_)
      · have h221 := h22.1 hc
        subst h221
        exact ev_end 2 (fun _ => rfl)
      · have h222 := h22.2 hc
        refine ev_seg (σ1 := (d, 168, 24, [some (.inr (.inr 78)), some (.inl x1)], [.inl x1, .inr (.inr 81)], (am_sh, am_mm U))) 3 (fun _ => rfl) ?_
        refine eu_iald 81 (n := 4) rfl (by decide) rfl (fun _ => rfl) h222.1 ?_
        have h222a := h222.2
        subst h222a
        exact ev_end 2 (fun _ => rfl)
theorem st169_16_84_0 (kz : am_Z) (d : Nat) (U : Nat → Nat → Int) (R : Option am_V × am_M) (h : ((((w32 (5 + (w32 (5 * (U 16 0))))) ≤ 85 : Prop)) → (((((am_upd (am_upd U 84 0 (am_shr (U 16 1) 8)) 84 1 (am_and ((am_upd U 84 0 (am_shr (U 16 1) 8)) 16 1) 255)) 16 2) = 0 : Prop)) → Ev kz ((d + 1), 169, 62, [some (.inr (.inr 16)), some (.inr (.inr 84)), some (.inl (w32 (5 + (w32 (5 * (U 16 0)))))), some (.inl 0), none], [], (am_sh, am_mm (am_upd (am_upd (am_upd (am_upd U 84 0 (am_shr (U 16 1) 8)) 84 1 (am_and ((am_upd U 84 0 (am_shr (U 16 1) 8)) 16 1) 255)) 84 2 0) 84 3 ((am_upd (am_upd (am_upd U 84 0 (am_shr (U 16 1) 8)) 84 1 (am_and ((am_upd U 84 0 (am_shr (U 16 1) 8)) 16 1) 255)) 84 2 0) 16 0)))) R) ∧ (¬ (((am_upd (am_upd U 84 0 (am_shr (U 16 1) 8)) 84 1 (am_and ((am_upd U 84 0 (am_shr (U 16 1) 8)) 16 1) 255)) 16 2) = 0) → Ev kz ((d + 1), 169, 62, [some (.inr (.inr 16)), some (.inr (.inr 84)), some (.inl (w32 (5 + (w32 (5 * (U 16 0)))))), some (.inl 0), none], [], (am_sh, am_mm (am_upd (am_upd (am_upd (am_upd U 84 0 (am_shr (U 16 1) 8)) 84 1 (am_and ((am_upd U 84 0 (am_shr (U 16 1) 8)) 16 1) 255)) 84 2 1) 84 3 ((am_upd (am_upd (am_upd U 84 0 (am_shr (U 16 1) 8)) 84 1 (am_and ((am_upd U 84 0 (am_shr (U 16 1) 8)) 16 1) 255)) 84 2 1) 16 0)))) R)) ∧ (¬ ((w32 (5 + (w32 (5 * (U 16 0))))) ≤ 85) → R = (some (.inl 0), (am_sh, am_mm U)))) : Ev kz ((d + 1), 169, 0, [some (.inr (.inr 16)), some (.inr (.inr 84)), none, none, none], [], (am_sh, am_mm U)) R := by
  refine ev_br (P := (w32 (5 + (w32 (5 * (U 16 0))))) ≤ 85) (σ1 := ((d + 1), 169, 17, [some (.inr (.inr 16)), some (.inr (.inr 84)), some (.inl (w32 (5 + (w32 (5 * (U 16 0)))))), none, none], [], (am_sh, am_mm U))) (σ2 := ((d + 1), 169, 15, [some (.inr (.inr 16)), some (.inr (.inr 84)), some (.inl (w32 (5 + (w32 (5 * (U 16 0)))))), none, none], [], (am_sh, am_mm U))) 11 (fun _ => rfl) (fun hc => ?_) (fun hc => ?_)
  · have h1 := h.1 hc
    refine ev_seg (σ1 := ((d + 1), 169, 26, [some (.inr (.inr 16)), some (.inr (.inr 84)), some (.inl (w32 (5 + (w32 (5 * (U 16 0)))))), none, none], [.inl (am_shr (U 16 1) 8), .inl 0, .inr (.inr 84)], (am_sh, am_mm U))) 6 (fun _ => rfl) ?_
    refine eu_iast 84 (n := 85) rfl (by decide) rfl (fun _ => rfl) (by decide) ?_
    show Ev kz ((d + 1), 169, 27, [some (.inr (.inr 16)), some (.inr (.inr 84)), some (.inl (w32 (5 + (w32 (5 * (U 16 0)))))), none, none], [], (am_sh, am_mm (am_upd U 84 0 (am_shr (U 16 1) 8)))) R
    refine ev_seg (σ1 := ((d + 1), 169, 37, [some (.inr (.inr 16)), some (.inr (.inr 84)), some (.inl (w32 (5 + (w32 (5 * (U 16 0)))))), none, none], [.inl (am_and ((am_upd U 84 0 (am_shr (U 16 1) 8)) 16 1) 255), .inl 1, .inr (.inr 84)], (am_sh, am_mm (am_upd U 84 0 (am_shr (U 16 1) 8))))) 6 (fun _ => rfl) ?_
    refine eu_iast 84 (n := 85) rfl (by decide) rfl (fun _ => rfl) (by decide) ?_
    show Ev kz ((d + 1), 169, 38, [some (.inr (.inr 16)), some (.inr (.inr 84)), some (.inl (w32 (5 + (w32 (5 * (U 16 0)))))), none, none], [], (am_sh, am_mm (am_upd (am_upd U 84 0 (am_shr (U 16 1) 8)) 84 1 (am_and ((am_upd U 84 0 (am_shr (U 16 1) 8)) 16 1) 255)))) R
    refine ev_br (P := ((am_upd (am_upd U 84 0 (am_shr (U 16 1) 8)) 84 1 (am_and ((am_upd U 84 0 (am_shr (U 16 1) 8)) 16 1) 255)) 16 2) = 0) (σ1 := ((d + 1), 169, 51, [some (.inr (.inr 16)), some (.inr (.inr 84)), some (.inl (w32 (5 + (w32 (5 * (U 16 0)))))), none, none], [.inl 2, .inr (.inr 84)], (am_sh, am_mm (am_upd (am_upd U 84 0 (am_shr (U 16 1) 8)) 84 1 (am_and ((am_upd U 84 0 (am_shr (U 16 1) 8)) 16 1) 255))))) (σ2 := ((d + 1), 169, 47, [some (.inr (.inr 16)), some (.inr (.inr 84)), some (.inl (w32 (5 + (w32 (5 * (U 16 0)))))), none, none], [.inl 2, .inr (.inr 84)], (am_sh, am_mm (am_upd (am_upd U 84 0 (am_shr (U 16 1) 8)) 84 1 (am_and ((am_upd U 84 0 (am_shr (U 16 1) 8)) 16 1) 255))))) 5 (fun _ => rfl) (fun hc => ?_) (fun hc => ?_)
    · have h11 := h1.1 hc
      refine ev_seg (σ1 := ((d + 1), 169, 52, [some (.inr (.inr 16)), some (.inr (.inr 84)), some (.inl (w32 (5 + (w32 (5 * (U 16 0)))))), none, none], [.inl 0, .inl 2, .inr (.inr 84)], (am_sh, am_mm (am_upd (am_upd U 84 0 (am_shr (U 16 1) 8)) 84 1 (am_and ((am_upd U 84 0 (am_shr (U 16 1) 8)) 16 1) 255))))) 1 (fun _ => rfl) ?_
      refine eu_iast 84 (n := 85) rfl (by decide) rfl (fun _ => rfl) (by decide) ?_
      show Ev kz ((d + 1), 169, 53, [some (.inr (.inr 16)), some (.inr (.inr 84)), some (.inl (w32 (5 + (w32 (5 * (U 16 0)))))), none, none], [], (am_sh, am_mm (am_upd (am_upd (am_upd U 84 0 (am_shr (U 16 1) 8)) 84 1 (am_and ((am_upd U 84 0 (am_shr (U 16 1) 8)) 16 1) 255)) 84 2 0))) R
      refine ev_seg (σ1 := ((d + 1), 169, 59, [some (.inr (.inr 16)), some (.inr (.inr 84)), some (.inl (w32 (5 + (w32 (5 * (U 16 0)))))), none, none], [.inl ((am_upd (am_upd (am_upd U 84 0 (am_shr (U 16 1) 8)) 84 1 (am_and ((am_upd U 84 0 (am_shr (U 16 1) 8)) 16 1) 255)) 84 2 0) 16 0), .inl 3, .inr (.inr 84)], (am_sh, am_mm (am_upd (am_upd (am_upd U 84 0 (am_shr (U 16 1) 8)) 84 1 (am_and ((am_upd U 84 0 (am_shr (U 16 1) 8)) 16 1) 255)) 84 2 0)))) 4 (fun _ => rfl) ?_
      refine eu_iast 84 (n := 85) rfl (by decide) rfl (fun _ => rfl) (by decide) ?_
      show Ev kz ((d + 1), 169, 60, [some (.inr (.inr 16)), some (.inr (.inr 84)), some (.inl (w32 (5 + (w32 (5 * (U 16 0)))))), none, none], [], (am_sh, am_mm (am_upd (am_upd (am_upd (am_upd U 84 0 (am_shr (U 16 1) 8)) 84 1 (am_and ((am_upd U 84 0 (am_shr (U 16 1) 8)) 16 1) 255)) 84 2 0) 84 3 ((am_upd (am_upd (am_upd U 84 0 (am_shr (U 16 1) 8)) 84 1 (am_and ((am_upd U 84 0 (am_shr (U 16 1) 8)) 16 1) 255)) 84 2 0) 16 0)))) R
      refine ev_seg (σ1 := ((d + 1), 169, 62, [some (.inr (.inr 16)), some (.inr (.inr 84)), some (.inl (w32 (5 + (w32 (5 * (U 16 0)))))), some (.inl 0), none], [], (am_sh, am_mm (am_upd (am_upd (am_upd (am_upd U 84 0 (am_shr (U 16 1) 8)) 84 1 (am_and ((am_upd U 84 0 (am_shr (U 16 1) 8)) 16 1) 255)) 84 2 0) 84 3 ((am_upd (am_upd (am_upd U 84 0 (am_shr (U 16 1) 8)) 84 1 (am_and ((am_upd U 84 0 (am_shr (U 16 1) 8)) 16 1) 255)) 84 2 0) 16 0))))) 2 (fun _ => rfl) ?_
      exact h11
    · have h12 := h1.2 hc
      refine ev_seg (σ1 := ((d + 1), 169, 52, [some (.inr (.inr 16)), some (.inr (.inr 84)), some (.inl (w32 (5 + (w32 (5 * (U 16 0)))))), none, none], [.inl 1, .inl 2, .inr (.inr 84)], (am_sh, am_mm (am_upd (am_upd U 84 0 (am_shr (U 16 1) 8)) 84 1 (am_and ((am_upd U 84 0 (am_shr (U 16 1) 8)) 16 1) 255))))) 2 (fun _ => rfl) ?_
      refine eu_iast 84 (n := 85) rfl (by decide) rfl (fun _ => rfl) (by decide) ?_
      show Ev kz ((d + 1), 169, 53, [some (.inr (.inr 16)), some (.inr (.inr 84)), some (.inl (w32 (5 + (w32 (5 * (U 16 0)))))), none, none], [], (am_sh, am_mm (am_upd (am_upd (am_upd U 84 0 (am_shr (U 16 1) 8)) 84 1 (am_and ((am_upd U 84 0 (am_shr (U 16 1) 8)) 16 1) 255)) 84 2 1))) R
      refine ev_seg (σ1 := ((d + 1), 169, 59, [some (.inr (.inr 16)), some (.inr (.inr 84)), some (.inl (w32 (5 + (w32 (5 * (U 16 0)))))), none, none], [.inl ((am_upd (am_upd (am_upd U 84 0 (am_shr (U 16 1) 8)) 84 1 (am_and ((am_upd U 84 0 (am_shr (U 16 1) 8)) 16 1) 255)) 84 2 1) 16 0), .inl 3, .inr (.inr 84)], (am_sh, am_mm (am_upd (am_upd (am_upd U 84 0 (am_shr (U 16 1) 8)) 84 1 (am_and ((am_upd U 84 0 (am_shr (U 16 1) 8)) 16 1) 255)) 84 2 1)))) 4 (fun _ => rfl) ?_
      refine eu_iast 84 (n := 85) rfl (by decide) rfl (fun _ => rfl) (by decide) ?_
      show Ev kz ((d + 1), 169, 60, [some (.inr (.inr 16)), some (.inr (.inr 84)), some (.inl (w32 (5 + (w32 (5 * (U 16 0)))))), none, none], [], (am_sh, am_mm (am_upd (am_upd (am_upd (am_upd U 84 0 (am_shr (U 16 1) 8)) 84 1 (am_and ((am_upd U 84 0 (am_shr (U 16 1) 8)) 16 1) 255)) 84 2 1) 84 3 ((am_upd (am_upd (am_upd U 84 0 (am_shr (U 16 1) 8)) 84 1 (am_and ((am_upd U 84 0 (am_shr (U 16 1) 8)) 16 1) 255)) 84 2 1) 16 0)))) R
      refine ev_seg (σ1 := ((d + 1), 169, 62, [some (.inr (.inr 16)), some (.inr (.inr 84)), some (.inl (w32 (5 + (w32 (5 * (U 16 0)))))), some (.inl 0), none], [], (am_sh, am_mm (am_upd (am_upd (am_upd (am_upd U 84 0 (am_shr (U 16 1) 8)) 84 1 (am_and ((am_upd U 84 0 (am_shr (U 16 1) 8)) 16 1) 255)) 84 2 1) 84 3 ((am_upd (am_upd (am_upd U 84 0 (am_shr (U 16 1) 8)) 84 1 (am_and ((am_upd U 84 0 (am_shr (U 16 1) 8)) 16 1) 255)) 84 2 1) 16 0))))) 2 (fun _ => rfl) ?_
      exact h12
  · have h2 := h.2 hc
    subst h2
    exact ev_end 2 (fun _ => rfl)
theorem st169_16_84_62 (kz : am_Z) (d : Nat) (x2 x3 : Int) (U : Nat → Nat → Int) (R : Option am_V × am_M) (h : ((((U 16 0) ≤ x3 : Prop)) → ∃ (r1 : Int) (U1 : Nat → Nat → Int), Ev kz (d, 244, 0, [some (.inr (.inr 84)), some (.inl (w32 (x2 - 1))), none, none], [], (am_sh, am_mm U)) (some (.inl r1), (am_sh, am_mm U1)) ∧ (0 ≤ (w32 (x2 - 1)) ∧ (w32 (x2 - 1)) < 85) ∧ R = (some (.inl x2), (am_sh, am_mm (am_upd U1 84 (w32 (x2 - 1)).toNat r1)))) ∧ (¬ ((U 16 0) ≤ x3) → (0 ≤ x3 ∧ x3 < 16) ∧ (0 ≤ (w32 (4 + (w32 (5 * x3)))) ∧ (w32 (4 + (w32 (5 * x3)))) < 85) ∧ (0 ≤ x3 ∧ x3 < 16) ∧ (0 ≤ (w32 ((w32 (4 + (w32 (5 * x3)))) + 1)) ∧ (w32 ((w32 (4 + (w32 (5 * x3)))) + 1)) < 85) ∧ (0 ≤ x3 ∧ x3 < 16) ∧ (0 ≤ (w32 ((w32 (4 + (w32 (5 * x3)))) + 2)) ∧ (w32 ((w32 (4 + (w32 (5 * x3)))) + 2)) < 85) ∧ (0 ≤ x3 ∧ x3 < 16) ∧ (0 ≤ (w32 ((w32 (4 + (w32 (5 * x3)))) + 3)) ∧ (w32 ((w32 (4 + (w32 (5 * x3)))) + 3)) < 85) ∧ (0 ≤ x3 ∧ x3 < 16) ∧ (0 ≤ (w32 ((w32 (4 + (w32 (5 * x3)))) + 4)) ∧ (w32 ((w32 (4 + (w32 (5 * x3)))) + 4)) < 85) ∧ Ev kz ((d + 1), 169, 62, [some (.inr (.inr 16)), some (.inr (.inr 84)), some (.inl x2), some (.inl (w32 (x3 + 1))), some (.inl (w32 (4 + (w32 (5 * x3)))))], [], (am_sh, am_mm (am_upd (am_upd (am_upd (am_upd (am_upd U 84 (w32 (4 + (w32 (5 * x3)))).toNat (am_ushr (U 17 x3.toNat) 24)) 84 (w32 ((w32 (4 + (w32 (5 * x3)))) + 1)).toNat (am_and (am_shr ((am_upd U 84 (w32 (4 + (w32 (5 * x3)))).toNat (am_ushr (U 17 x3.toNat) 24)) 17 x3.toNat) 16) 255)) 84 (w32 ((w32 (4 + (w32 (5 * x3)))) + 2)).toNat (am_and (am_shr ((am_upd (am_upd U 84 (w32 (4 + (w32 (5 * x3)))).toNat (am_ushr (U 17 x3.toNat) 24)) 84 (w32 ((w32 (4 + (w32 (5 * x3)))) + 1)).toNat (am_and (am_shr ((am_upd U 84 (w32 (4 + (w32 (5 * x3)))).toNat (am_ushr (U 17 x3.toNat) 24)) 17 x3.toNat) 16) 255)) 17 x3.toNat) 8) 255)) 84 (w32 ((w32 (4 + (w32 (5 * x3)))) + 3)).toNat (am_and ((am_upd (am_upd (am_upd U 84 (w32 (4 + (w32 (5 * x3)))).toNat (am_ushr (U 17 x3.toNat) 24)) 84 (w32 ((w32 (4 + (w32 (5 * x3)))) + 1)).toNat (am_and (am_shr ((am_upd U 84 (w32 (4 + (w32 (5 * x3)))).toNat (am_ushr (U 17 x3.toNat) 24)) 17 x3.toNat) 16) 255)) 84 (w32 ((w32 (4 + (w32 (5 * x3)))) + 2)).toNat (am_and (am_shr ((am_upd (am_upd U 84 (w32 (4 + (w32 (5 * x3)))).toNat (am_ushr (U 17 x3.toNat) 24)) 84 (w32 ((w32 (4 + (w32 (5 * x3)))) + 1)).toNat (am_and (am_shr ((am_upd U 84 (w32 (4 + (w32 (5 * x3)))).toNat (am_ushr (U 17 x3.toNat) 24)) 17 x3.toNat) 16) 255)) 17 x3.toNat) 8) 255)) 17 x3.toNat) 255)) 84 (w32 ((w32 (4 + (w32 (5 * x3)))) + 4)).toNat (w32 (((am_upd (am_upd (am_upd (am_upd U 84 (w32 (4 + (w32 (5 * x3)))).toNat (am_ushr (U 17 x3.toNat) 24)) 84 (w32 ((w32 (4 + (w32 (5 * x3)))) + 1)).toNat (am_and (am_shr ((am_upd U 84 (w32 (4 + (w32 (5 * x3)))).toNat (am_ushr (U 17 x3.toNat) 24)) 17 x3.toNat) 16) 255)) 84 (w32 ((w32 (4 + (w32 (5 * x3)))) + 2)).toNat (am_and (am_shr ((am_upd (am_upd U 84 (w32 (4 + (w32 (5 * x3)))).toNat (am_ushr (U 17 x3.toNat) 24)) 84 (w32 ((w32 (4 + (w32 (5 * x3)))) + 1)).toNat (am_and (am_shr ((am_upd U 84 (w32 (4 + (w32 (5 * x3)))).toNat (am_ushr (U 17 x3.toNat) 24)) 17 x3.toNat) 16) 255)) 17 x3.toNat) 8) 255)) 84 (w32 ((w32 (4 + (w32 (5 * x3)))) + 3)).toNat (am_and ((am_upd (am_upd (am_upd U 84 (w32 (4 + (w32 (5 * x3)))).toNat (am_ushr (U 17 x3.toNat) 24)) 84 (w32 ((w32 (4 + (w32 (5 * x3)))) + 1)).toNat (am_and (am_shr ((am_upd U 84 (w32 (4 + (w32 (5 * x3)))).toNat (am_ushr (U 17 x3.toNat) 24)) 17 x3.toNat) 16) 255)) 84 (w32 ((w32 (4 + (w32 (5 * x3)))) + 2)).toNat (am_and (am_shr ((am_upd (am_upd U 84 (w32 (4 + (w32 (5 * x3)))).toNat (am_ushr (U 17 x3.toNat) 24)) 84 (w32 ((w32 (4 + (w32 (5 * x3)))) + 1)).toNat (am_and (am_shr ((am_upd U 84 (w32 (4 + (w32 (5 * x3)))).toNat (am_ushr (U 17 x3.toNat) 24)) 17 x3.toNat) 16) 255)) 17 x3.toNat) 8) 255)) 17 x3.toNat) 255)) 18 x3.toNat) + 1))))) R)) : Ev kz ((d + 1), 169, 62, [some (.inr (.inr 16)), some (.inr (.inr 84)), some (.inl x2), some (.inl x3), none], [], (am_sh, am_mm U)) R := by
  refine ev_br (P := (U 16 0) ≤ x3) (σ1 := ((d + 1), 169, 164, [some (.inr (.inr 16)), some (.inr (.inr 84)), some (.inl x2), some (.inl x3), none], [], (am_sh, am_mm U))) (σ2 := ((d + 1), 169, 70, [some (.inr (.inr 16)), some (.inr (.inr 84)), some (.inl x2), some (.inl x3), none], [], (am_sh, am_mm U))) 4 (fun _ => rfl) (fun hc => ?_) (fun hc => ?_)
  · have h1 := h.1 hc
    refine ev_seg (σ1 := ((d + 1), 169, 172, [some (.inr (.inr 16)), some (.inr (.inr 84)), some (.inl x2), some (.inl x3), none], [.inl (w32 (x2 - 1)), .inr (.inr 84), .inl (w32 (x2 - 1)), .inr (.inr 84)], (am_sh, am_mm U))) 8 (fun _ => rfl) ?_
    obtain ⟨r1, U1, h1c, h1a⟩ := h1
    refine ev_cal (σc := (d, 244, 0, [some (.inr (.inr 84)), some (.inl (w32 (x2 - 1))), none, none], [], (am_sh, am_mm U))) (fun _ => rfl) h1c ?_
    show Ev kz ((d + 1), 169, 175, [some (.inr (.inr 16)), some (.inr (.inr 84)), some (.inl x2), some (.inl x3), none], [.inl r1, .inl (w32 (x2 - 1)), .inr (.inr 84)], (am_sh, am_mm U1)) R
    refine eu_iast 84 (n := 85) rfl (by decide) rfl (fun _ => rfl) h1a.1 ?_
    have h1aa := h1a.2
    subst h1aa
    exact ev_end 2 (fun _ => rfl)
  · have h2 := h.2 hc
    refine ev_seg (σ1 := ((d + 1), 169, 85, [some (.inr (.inr 16)), some (.inr (.inr 84)), some (.inl x2), some (.inl x3), some (.inl (w32 (4 + (w32 (5 * x3)))))], [.inl x3, .inr (.inr 17), .inl (w32 (4 + (w32 (5 * x3)))), .inr (.inr 84)], (am_sh, am_mm U))) 11 (fun _ => rfl) ?_
    refine eu_iald 17 (n := 16) rfl (by decide) rfl (fun _ => rfl) h2.1 ?_
    have h2a := h2.2
    refine ev_seg (σ1 := ((d + 1), 169, 89, [some (.inr (.inr 16)), some (.inr (.inr 84)), some (.inl x2), some (.inl x3), some (.inl (w32 (4 + (w32 (5 * x3)))))], [.inl (am_ushr (U 17 x3.toNat) 24), .inl (w32 (4 + (w32 (5 * x3)))), .inr (.inr 84)], (am_sh, am_mm U))) 2 (fun _ => rfl) ?_
    refine eu_iast 84 (n := 85) rfl (by decide) rfl (fun _ => rfl) h2a.1 ?_
    have h2aa := h2a.2
    refine ev_seg (σ1 := ((d + 1), 169, 100, [some (.inr (.inr 16)), some (.inr (.inr 84)), some (.inl x2), some (.inl x3), some (.inl (w32 (4 + (w32 (5 * x3)))))], [.inl x3, .inr (.inr 17), .inl (w32 ((w32 (4 + (w32 (5 * x3)))) + 1)), .inr (.inr 84)], (am_sh, am_mm (am_upd U 84 (w32 (4 + (w32 (5 * x3)))).toNat (am_ushr (U 17 x3.toNat) 24))))) 7 (fun _ => rfl) ?_
    refine eu_iald 17 (n := 16) rfl (by decide) rfl (fun _ => rfl) h2aa.1 ?_
    have h2aaa := h2aa.2
    refine ev_seg (σ1 := ((d + 1), 169, 108, [some (.inr (.inr 16)), some (.inr (.inr 84)), some (.inl x2), some (.inl x3), some (.inl (w32 (4 + (w32 (5 * x3)))))], [.inl (am_and (am_shr ((am_upd U 84 (w32 (4 + (w32 (5 * x3)))).toNat (am_ushr (U 17 x3.toNat) 24)) 17 x3.toNat) 16) 255), .inl (w32 ((w32 (4 + (w32 (5 * x3)))) + 1)), .inr (.inr 84)], (am_sh, am_mm (am_upd U 84 (w32 (4 + (w32 (5 * x3)))).toNat (am_ushr (U 17 x3.toNat) 24))))) 4 (fun _ => rfl) ?_
    refine eu_iast 84 (n := 85) rfl (by decide) rfl (fun _ => rfl) h2aaa.1 ?_
    have h2aaaa := h2aaa.2
    refine ev_seg (σ1 := ((d + 1), 169, 119, [some (.inr (.inr 16)), some (.inr (.inr 84)), some (.inl x2), some (.inl x3), some (.inl (w32 (4 + (w32 (5 * x3)))))], [.inl x3, .inr (.inr 17), .inl (w32 ((w32 (4 + (w32 (5 * x3)))) + 2)), .inr (.inr 84)], (am_sh, am_mm (am_upd (am_upd U 84 (w32 (4 + (w32 (5 * x3)))).toNat (am_ushr (U 17 x3.toNat) 24)) 84 (w32 ((w32 (4 + (w32 (5 * x3)))) + 1)).toNat (am_and (am_shr ((am_upd U 84 (w32 (4 + (w32 (5 * x3)))).toNat (am_ushr (U 17 x3.toNat) 24)) 17 x3.toNat) 16) 255))))) 7 (fun _ => rfl) ?_
    refine eu_iald 17 (n := 16) rfl (by decide) rfl (fun _ => rfl) h2aaaa.1 ?_
    have h2aaaaa := h2aaaa.2
    refine ev_seg (σ1 := ((d + 1), 169, 127, [some (.inr (.inr 16)), some (.inr (.inr 84)), some (.inl x2), some (.inl x3), some (.inl (w32 (4 + (w32 (5 * x3)))))], [.inl (am_and (am_shr ((am_upd (am_upd U 84 (w32 (4 + (w32 (5 * x3)))).toNat (am_ushr (U 17 x3.toNat) 24)) 84 (w32 ((w32 (4 + (w32 (5 * x3)))) + 1)).toNat (am_and (am_shr ((am_upd U 84 (w32 (4 + (w32 (5 * x3)))).toNat (am_ushr (U 17 x3.toNat) 24)) 17 x3.toNat) 16) 255)) 17 x3.toNat) 8) 255), .inl (w32 ((w32 (4 + (w32 (5 * x3)))) + 2)), .inr (.inr 84)], (am_sh, am_mm (am_upd (am_upd U 84 (w32 (4 + (w32 (5 * x3)))).toNat (am_ushr (U 17 x3.toNat) 24)) 84 (w32 ((w32 (4 + (w32 (5 * x3)))) + 1)).toNat (am_and (am_shr ((am_upd U 84 (w32 (4 + (w32 (5 * x3)))).toNat (am_ushr (U 17 x3.toNat) 24)) 17 x3.toNat) 16) 255))))) 4 (fun _ => rfl) ?_
    refine eu_iast 84 (n := 85) rfl (by decide) rfl (fun _ => rfl) h2aaaaa.1 ?_
    have h2aaaaaa := h2aaaaa.2
    refine ev_seg (σ1 := ((d + 1), 169, 138, [some (.inr (.inr 16)), some (.inr (.inr 84)), some (.inl x2), some (.inl x3), some (.inl (w32 (4 + (w32 (5 * x3)))))], [.inl x3, .inr (.inr 17), .inl (w32 ((w32 (4 + (w32 (5 * x3)))) + 3)), .inr (.inr 84)], (am_sh, am_mm (am_upd (am_upd (am_upd U 84 (w32 (4 + (w32 (5 * x3)))).toNat (am_ushr (U 17 x3.toNat) 24)) 84 (w32 ((w32 (4 + (w32 (5 * x3)))) + 1)).toNat (am_and (am_shr ((am_upd U 84 (w32 (4 + (w32 (5 * x3)))).toNat (am_ushr (U 17 x3.toNat) 24)) 17 x3.toNat) 16) 255)) 84 (w32 ((w32 (4 + (w32 (5 * x3)))) + 2)).toNat (am_and (am_shr ((am_upd (am_upd U 84 (w32 (4 + (w32 (5 * x3)))).toNat (am_ushr (U 17 x3.toNat) 24)) 84 (w32 ((w32 (4 + (w32 (5 * x3)))) + 1)).toNat (am_and (am_shr ((am_upd U 84 (w32 (4 + (w32 (5 * x3)))).toNat (am_ushr (U 17 x3.toNat) 24)) 17 x3.toNat) 16) 255)) 17 x3.toNat) 8) 255))))) 7 (fun _ => rfl) ?_
    refine eu_iald 17 (n := 16) rfl (by decide) rfl (fun _ => rfl) h2aaaaaa.1 ?_
    have h2aaaaaaa := h2aaaaaa.2
    refine ev_seg (σ1 := ((d + 1), 169, 143, [some (.inr (.inr 16)), some (.inr (.inr 84)), some (.inl x2), some (.inl x3), some (.inl (w32 (4 + (w32 (5 * x3)))))], [.inl (am_and ((am_upd (am_upd (am_upd U 84 (w32 (4 + (w32 (5 * x3)))).toNat (am_ushr (U 17 x3.toNat) 24)) 84 (w32 ((w32 (4 + (w32 (5 * x3)))) + 1)).toNat (am_and (am_shr ((am_upd U 84 (w32 (4 + (w32 (5 * x3)))).toNat (am_ushr (U 17 x3.toNat) 24)) 17 x3.toNat) 16) 255)) 84 (w32 ((w32 (4 + (w32 (5 * x3)))) + 2)).toNat (am_and (am_shr ((am_upd (am_upd U 84 (w32 (4 + (w32 (5 * x3)))).toNat (am_ushr (U 17 x3.toNat) 24)) 84 (w32 ((w32 (4 + (w32 (5 * x3)))) + 1)).toNat (am_and (am_shr ((am_upd U 84 (w32 (4 + (w32 (5 * x3)))).toNat (am_ushr (U 17 x3.toNat) 24)) 17 x3.toNat) 16) 255)) 17 x3.toNat) 8) 255)) 17 x3.toNat) 255), .inl (w32 ((w32 (4 + (w32 (5 * x3)))) + 3)), .inr (.inr 84)], (am_sh, am_mm (am_upd (am_upd (am_upd U 84 (w32 (4 + (w32 (5 * x3)))).toNat (am_ushr (U 17 x3.toNat) 24)) 84 (w32 ((w32 (4 + (w32 (5 * x3)))) + 1)).toNat (am_and (am_shr ((am_upd U 84 (w32 (4 + (w32 (5 * x3)))).toNat (am_ushr (U 17 x3.toNat) 24)) 17 x3.toNat) 16) 255)) 84 (w32 ((w32 (4 + (w32 (5 * x3)))) + 2)).toNat (am_and (am_shr ((am_upd (am_upd U 84 (w32 (4 + (w32 (5 * x3)))).toNat (am_ushr (U 17 x3.toNat) 24)) 84 (w32 ((w32 (4 + (w32 (5 * x3)))) + 1)).toNat (am_and (am_shr ((am_upd U 84 (w32 (4 + (w32 (5 * x3)))).toNat (am_ushr (U 17 x3.toNat) 24)) 17 x3.toNat) 16) 255)) 17 x3.toNat) 8) 255))))) 2 (fun _ => rfl) ?_
    refine eu_iast 84 (n := 85) rfl (by decide) rfl (fun _ => rfl) h2aaaaaaa.1 ?_
    have h2aaaaaaaa := h2aaaaaaa.2
    refine ev_seg (σ1 := ((d + 1), 169, 154, [some (.inr (.inr 16)), some (.inr (.inr 84)), some (.inl x2), some (.inl x3), some (.inl (w32 (4 + (w32 (5 * x3)))))], [.inl x3, .inr (.inr 18), .inl (w32 ((w32 (4 + (w32 (5 * x3)))) + 4)), .inr (.inr 84)], (am_sh, am_mm (am_upd (am_upd (am_upd (am_upd U 84 (w32 (4 + (w32 (5 * x3)))).toNat (am_ushr (U 17 x3.toNat) 24)) 84 (w32 ((w32 (4 + (w32 (5 * x3)))) + 1)).toNat (am_and (am_shr ((am_upd U 84 (w32 (4 + (w32 (5 * x3)))).toNat (am_ushr (U 17 x3.toNat) 24)) 17 x3.toNat) 16) 255)) 84 (w32 ((w32 (4 + (w32 (5 * x3)))) + 2)).toNat (am_and (am_shr ((am_upd (am_upd U 84 (w32 (4 + (w32 (5 * x3)))).toNat (am_ushr (U 17 x3.toNat) 24)) 84 (w32 ((w32 (4 + (w32 (5 * x3)))) + 1)).toNat (am_and (am_shr ((am_upd U 84 (w32 (4 + (w32 (5 * x3)))).toNat (am_ushr (U 17 x3.toNat) 24)) 17 x3.toNat) 16) 255)) 17 x3.toNat) 8) 255)) 84 (w32 ((w32 (4 + (w32 (5 * x3)))) + 3)).toNat (am_and ((am_upd (am_upd (am_upd U 84 (w32 (4 + (w32 (5 * x3)))).toNat (am_ushr (U 17 x3.toNat) 24)) 84 (w32 ((w32 (4 + (w32 (5 * x3)))) + 1)).toNat (am_and (am_shr ((am_upd U 84 (w32 (4 + (w32 (5 * x3)))).toNat (am_ushr (U 17 x3.toNat) 24)) 17 x3.toNat) 16) 255)) 84 (w32 ((w32 (4 + (w32 (5 * x3)))) + 2)).toNat (am_and (am_shr ((am_upd (am_upd U 84 (w32 (4 + (w32 (5 * x3)))).toNat (am_ushr (U 17 x3.toNat) 24)) 84 (w32 ((w32 (4 + (w32 (5 * x3)))) + 1)).toNat (am_and (am_shr ((am_upd U 84 (w32 (4 + (w32 (5 * x3)))).toNat (am_ushr (U 17 x3.toNat) 24)) 17 x3.toNat) 16) 255)) 17 x3.toNat) 8) 255)) 17 x3.toNat) 255))))) 7 (fun _ => rfl) ?_
    refine eu_iald 18 (n := 16) rfl (by decide) rfl (fun _ => rfl) h2aaaaaaaa.1 ?_
    have h2aaaaaaaaa := h2aaaaaaaa.2
    refine ev_seg (σ1 := ((d + 1), 169, 157, [some (.inr (.inr 16)), some (.inr (.inr 84)), some (.inl x2), some (.inl x3), some (.inl (w32 (4 + (w32 (5 * x3)))))], [.inl (w32 (((am_upd (am_upd (am_upd (am_upd U 84 (w32 (4 + (w32 (5 * x3)))).toNat (am_ushr (U 17 x3.toNat) 24)) 84 (w32 ((w32 (4 + (w32 (5 * x3)))) + 1)).toNat (am_and (am_shr ((am_upd U 84 (w32 (4 + (w32 (5 * x3)))).toNat (am_ushr (U 17 x3.toNat) 24)) 17 x3.toNat) 16) 255)) 84 (w32 ((w32 (4 + (w32 (5 * x3)))) + 2)).toNat (am_and (am_shr ((am_upd (am_upd U 84 (w32 (4 + (w32 (5 * x3)))).toNat (am_ushr (U 17 x3.toNat) 24)) 84 (w32 ((w32 (4 + (w32 (5 * x3)))) + 1)).toNat (am_and (am_shr ((am_upd U 84 (w32 (4 + (w32 (5 * x3)))).toNat (am_ushr (U 17 x3.toNat) 24)) 17 x3.toNat) 16) 255)) 17 x3.toNat) 8) 255)) 84 (w32 ((w32 (4 + (w32 (5 * x3)))) + 3)).toNat (am_and ((am_upd (am_upd (am_upd U 84 (w32 (4 + (w32 (5 * x3)))).toNat (am_ushr (U 17 x3.toNat) 24)) 84 (w32 ((w32 (4 + (w32 (5 * x3)))) + 1)).toNat (am_and (am_shr ((am_upd U 84 (w32 (4 + (w32 (5 * x3)))).toNat (am_ushr (U 17 x3.toNat) 24)) 17 x3.toNat) 16) 255)) 84 (w32 ((w32 (4 + (w32 (5 * x3)))) + 2)).toNat (am_and (am_shr ((am_upd (am_upd U 84 (w32 (4 + (w32 (5 * x3)))).toNat (am_ushr (U 17 x3.toNat) 24)) 84 (w32 ((w32 (4 + (w32 (5 * x3)))) + 1)).toNat (am_and (am_shr ((am_upd U 84 (w32 (4 + (w32 (5 * x3)))).toNat (am_ushr (U 17 x3.toNat) 24)) 17 x3.toNat) 16) 255)) 17 x3.toNat) 8) 255)) 17 x3.toNat) 255)) 18 x3.toNat) + 1)), .inl (w32 ((w32 (4 + (w32 (5 * x3)))) + 4)), .inr (.inr 84)], (am_sh, am_mm (am_upd (am_upd (am_upd (am_upd U 84 (w32 (4 + (w32 (5 * x3)))).toNat (am_ushr (U 17 x3.toNat) 24)) 84 (w32 ((w32 (4 + (w32 (5 * x3)))) + 1)).toNat (am_and (am_shr ((am_upd U 84 (w32 (4 + (w32 (5 * x3)))).toNat (am_ushr (U 17 x3.toNat) 24)) 17 x3.toNat) 16) 255)) 84 (w32 ((w32 (4 + (w32 (5 * x3)))) + 2)).toNat (am_and (am_shr ((am_upd (am_upd U 84 (w32 (4 + (w32 (5 * x3)))).toNat (am_ushr (U 17 x3.toNat) 24)) 84 (w32 ((w32 (4 + (w32 (5 * x3)))) + 1)).toNat (am_and (am_shr ((am_upd U 84 (w32 (4 + (w32 (5 * x3)))).toNat (am_ushr (U 17 x3.toNat) 24)) 17 x3.toNat) 16) 255)) 17 x3.toNat) 8) 255)) 84 (w32 ((w32 (4 + (w32 (5 * x3)))) + 3)).toNat (am_and ((am_upd (am_upd (am_upd U 84 (w32 (4 + (w32 (5 * x3)))).toNat (am_ushr (U 17 x3.toNat) 24)) 84 (w32 ((w32 (4 + (w32 (5 * x3)))) + 1)).toNat (am_and (am_shr ((am_upd U 84 (w32 (4 + (w32 (5 * x3)))).toNat (am_ushr (U 17 x3.toNat) 24)) 17 x3.toNat) 16) 255)) 84 (w32 ((w32 (4 + (w32 (5 * x3)))) + 2)).toNat (am_and (am_shr ((am_upd (am_upd U 84 (w32 (4 + (w32 (5 * x3)))).toNat (am_ushr (U 17 x3.toNat) 24)) 84 (w32 ((w32 (4 + (w32 (5 * x3)))) + 1)).toNat (am_and (am_shr ((am_upd U 84 (w32 (4 + (w32 (5 * x3)))).toNat (am_ushr (U 17 x3.toNat) 24)) 17 x3.toNat) 16) 255)) 17 x3.toNat) 8) 255)) 17 x3.toNat) 255))))) 2 (fun _ => rfl) ?_
    refine eu_iast 84 (n := 85) rfl (by decide) rfl (fun _ => rfl) h2aaaaaaaaa.1 ?_
    have h2aaaaaaaaaa := h2aaaaaaaaa.2
    refine ev_seg (σ1 := ((d + 1), 169, 62, [some (.inr (.inr 16)), some (.inr (.inr 84)), some (.inl x2), some (.inl (w32 (x3 + 1))), some (.inl (w32 (4 + (w32 (5 * x3)))))], [], (am_sh, am_mm (am_upd (am_upd (am_upd (am_upd (am_upd U 84 (w32 (4 + (w32 (5 * x3)))).toNat (am_ushr (U 17 x3.toNat) 24)) 84 (w32 ((w32 (4 + (w32 (5 * x3)))) + 1)).toNat (am_and (am_shr ((am_upd U 84 (w32 (4 + (w32 (5 * x3)))).toNat (am_ushr (U 17 x3.toNat) 24)) 17 x3.toNat) 16) 255)) 84 (w32 ((w32 (4 + (w32 (5 * x3)))) + 2)).toNat (am_and (am_shr ((am_upd (am_upd U 84 (w32 (4 + (w32 (5 * x3)))).toNat (am_ushr (U 17 x3.toNat) 24)) 84 (w32 ((w32 (4 + (w32 (5 * x3)))) + 1)).toNat (am_and (am_shr ((am_upd U 84 (w32 (4 + (w32 (5 * x3)))).toNat (am_ushr (U 17 x3.toNat) 24)) 17 x3.toNat) 16) 255)) 17 x3.toNat) 8) 255)) 84 (w32 ((w32 (4 + (w32 (5 * x3)))) + 3)).toNat (am_and ((am_upd (am_upd (am_upd U 84 (w32 (4 + (w32 (5 * x3)))).toNat (am_ushr (U 17 x3.toNat) 24)) 84 (w32 ((w32 (4 + (w32 (5 * x3)))) + 1)).toNat (am_and (am_shr ((am_upd U 84 (w32 (4 + (w32 (5 * x3)))).toNat (am_ushr (U 17 x3.toNat) 24)) 17 x3.toNat) 16) 255)) 84 (w32 ((w32 (4 + (w32 (5 * x3)))) + 2)).toNat (am_and (am_shr ((am_upd (am_upd U 84 (w32 (4 + (w32 (5 * x3)))).toNat (am_ushr (U 17 x3.toNat) 24)) 84 (w32 ((w32 (4 + (w32 (5 * x3)))) + 1)).toNat (am_and (am_shr ((am_upd U 84 (w32 (4 + (w32 (5 * x3)))).toNat (am_ushr (U 17 x3.toNat) 24)) 17 x3.toNat) 16) 255)) 17 x3.toNat) 8) 255)) 17 x3.toNat) 255)) 84 (w32 ((w32 (4 + (w32 (5 * x3)))) + 4)).toNat (w32 (((am_upd (am_upd (am_upd (am_upd U 84 (w32 (4 + (w32 (5 * x3)))).toNat (am_ushr (U 17 x3.toNat) 24)) 84 (w32 ((w32 (4 + (w32 (5 * x3)))) + 1)).toNat (am_and (am_shr ((am_upd U 84 (w32 (4 + (w32 (5 * x3)))).toNat (am_ushr (U 17 x3.toNat) 24)) 17 x3.toNat) 16) 255)) 84 (w32 ((w32 (4 + (w32 (5 * x3)))) + 2)).toNat (am_and (am_shr ((am_upd (am_upd U 84 (w32 (4 + (w32 (5 * x3)))).toNat (am_ushr (U 17 x3.toNat) 24)) 84 (w32 ((w32 (4 + (w32 (5 * x3)))) + 1)).toNat (am_and (am_shr ((am_upd U 84 (w32 (4 + (w32 (5 * x3)))).toNat (am_ushr (U 17 x3.toNat) 24)) 17 x3.toNat) 16) 255)) 17 x3.toNat) 8) 255)) 84 (w32 ((w32 (4 + (w32 (5 * x3)))) + 3)).toNat (am_and ((am_upd (am_upd (am_upd U 84 (w32 (4 + (w32 (5 * x3)))).toNat (am_ushr (U 17 x3.toNat) 24)) 84 (w32 ((w32 (4 + (w32 (5 * x3)))) + 1)).toNat (am_and (am_shr ((am_upd U 84 (w32 (4 + (w32 (5 * x3)))).toNat (am_ushr (U 17 x3.toNat) 24)) 17 x3.toNat) 16) 255)) 84 (w32 ((w32 (4 + (w32 (5 * x3)))) + 2)).toNat (am_and (am_shr ((am_upd (am_upd U 84 (w32 (4 + (w32 (5 * x3)))).toNat (am_ushr (U 17 x3.toNat) 24)) 84 (w32 ((w32 (4 + (w32 (5 * x3)))) + 1)).toNat (am_and (am_shr ((am_upd U 84 (w32 (4 + (w32 (5 * x3)))).toNat (am_ushr (U 17 x3.toNat) 24)) 17 x3.toNat) 16) 255)) 17 x3.toNat) 8) 255)) 17 x3.toNat) 255)) 18 x3.toNat) + 1)))))) 2 (fun _ => rfl) ?_
    exact h2aaaaaaaaaa
theorem st170_86_0 (kz : am_Z) (d : Nat) (x1 : Int) (U : Nat → Nat → Int) (R : Option am_V × am_M) (h : (0 ≤ (U 86 89) ∧ (U 86 89) < 90) ∧ R = (none, (am_sh, am_mm (am_upd (am_upd U 138 (U 86 89).toNat (am_and x1 255)) 86 89 (w32 (((am_upd U 138 (U 86 89).toNat (am_and x1 255)) 86 89) + 1)))))) : Ev kz (d, 170, 0, [some (.inr (.inr 86)), some (.inl x1)], [], (am_sh, am_mm U)) R := by
  refine ev_seg (σ1 := (d, 170, 13, [some (.inr (.inr 86)), some (.inl x1)], [.inl (am_and x1 255), .inl (U 86 89), .inr (.inr 138)], (am_sh, am_mm U))) 7 (fun _ => rfl) ?_
  refine eu_iast 138 (n := 90) rfl (by decide) rfl (fun _ => rfl) h.1 ?_
  have ha := h.2
  refine ev_seg (σ1 := (d, 170, 21, [some (.inr (.inr 86)), some (.inl x1)], [.inl (w32 (((am_upd U 138 (U 86 89).toNat (am_and x1 255)) 86 89) + 1)), .inr (.inr 86)], (am_sh, am_mm (am_upd U 138 (U 86 89).toNat (am_and x1 255))))) 5 (fun _ => rfl) ?_
  refine eu_puti 86 (n := 90) rfl (by decide) rfl rfl ?_
  subst ha
  exact ev_end 1 (fun _ => rfl)
theorem st171_21_2_3_0 (kz : am_Z) (d : Nat) (x2 : Int) (U : Nat → Nat → Int) (R : Option am_V × am_M) (h : ∃ U1 : Nat → Nat → Int, Ev kz (d, 176, 0, [some (.inr (.inr 21))], [], (am_sh, am_mm U)) (none, (am_sh, am_mm U1)) ∧ (((x2 < 5 : Prop)) → R = (some (.inl 0), (am_sh, am_mm U1))) ∧ (¬ (x2 < 5) → (((1600 < x2 : Prop)) → R = (some (.inl 0), (am_sh, am_mm U1))) ∧ (¬ (1600 < x2) → (((16 < (U1 2 3) : Prop)) → R = (some (.inl 0), (am_sh, am_mm U1))) ∧ (¬ (16 < (U1 2 3)) → (((x2 = (w32 (5 + (w32 (5 * (U1 2 3))))) : Prop)) → (((¬ ((am_upd U1 21 1 (w32 ((w32 (256 * (U1 2 0))) + (U1 2 1)))) 2 2) = 1 : Prop)) → (((9999 < ((am_upd (am_upd U1 21 1 (w32 ((w32 (256 * (U1 2 0))) + (U1 2 1)))) 21 2 0) 21 1) : Prop)) → R = (some (.inl 0), (am_sh, am_mm (am_upd (am_upd U1 21 1 (w32 ((w32 (256 * (U1 2 0))) + (U1 2 1)))) 21 2 0)))) ∧ (¬ (9999 < ((am_upd (am_upd U1 21 1 (w32 ((w32 (256 * (U1 2 0))) + (U1 2 1)))) 21 2 0) 21 1)) → (((1 < ((am_upd (am_upd U1 21 1 (w32 ((w32 (256 * (U1 2 0))) + (U1 2 1)))) 21 2 0) 2 2) : Prop)) → R = (some (.inl 0), (am_sh, am_mm (am_upd (am_upd U1 21 1 (w32 ((w32 (256 * (U1 2 0))) + (U1 2 1)))) 21 2 0)))) ∧ (¬ (1 < ((am_upd (am_upd U1 21 1 (w32 ((w32 (256 * (U1 2 0))) + (U1 2 1)))) 21 2 0) 2 2)) → (0 ≤ (w32 (x2 - 1)) ∧ (w32 (x2 - 1)) < 1600) ∧ ∃ (r2 : Int) (U2 : Nat → Nat → Int), Ev kz (d, 244, 0, [some (.inr (.inr 2)), some (.inl (w32 (x2 - 1))), none, none], [], (am_sh, am_mm (am_upd (am_upd U1 21 1 (w32 ((w32 (256 * (U1 2 0))) + (U1 2 1)))) 21 2 0))) (some (.inl r2), (am_sh, am_mm U2)) ∧ (((((am_upd (am_upd U1 21 1 (w32 ((w32 (256 * (U1 2 0))) + (U1 2 1)))) 21 2 0) 2 (w32 (x2 - 1)).toNat) = r2 : Prop)) → Ev kz ((d + 1), 171, 104, [some (.inr (.inr 21)), some (.inr (.inr 2)), some (.inl x2), some (.inr (.inr 3)), some (.inl 4), none], [], (am_sh, am_mm U2)) R) ∧ (¬ (((am_upd (am_upd U1 21 1 (w32 ((w32 (256 * (U1 2 0))) + (U1 2 1)))) 21 2 0) 2 (w32 (x2 - 1)).toNat) = r2) → R = (some (.inl 0), (am_sh, am_mm U2)))))) ∧ (¬ (¬ ((am_upd U1 21 1 (w32 ((w32 (256 * (U1 2 0))) + (U1 2 1)))) 2 2) = 1) → (((9999 < ((am_upd (am_upd U1 21 1 (w32 ((w32 (256 * (U1 2 0))) + (U1 2 1)))) 21 2 1) 21 1) : Prop)) → R = (some (.inl 0), (am_sh, am_mm (am_upd (am_upd U1 21 1 (w32 ((w32 (256 * (U1 2 0))) + (U1 2 1)))) 21 2 1)))) ∧ (¬ (9999 < ((am_upd (am_upd U1 21 1 (w32 ((w32 (256 * (U1 2 0))) + (U1 2 1)))) 21 2 1) 21 1)) → (((1 < ((am_upd (am_upd U1 21 1 (w32 ((w32 (256 * (U1 2 0))) + (U1 2 1)))) 21 2 1) 2 2) : Prop)) → R = (some (.inl 0), (am_sh, am_mm (am_upd (am_upd U1 21 1 (w32 ((w32 (256 * (U1 2 0))) + (U1 2 1)))) 21 2 1)))) ∧ (¬ (1 < ((am_upd (am_upd U1 21 1 (w32 ((w32 (256 * (U1 2 0))) + (U1 2 1)))) 21 2 1) 2 2)) → (0 ≤ (w32 (x2 - 1)) ∧ (w32 (x2 - 1)) < 1600) ∧ ∃ (r3 : Int) (U3 : Nat → Nat → Int), Ev kz (d, 244, 0, [some (.inr (.inr 2)), some (.inl (w32 (x2 - 1))), none, none], [], (am_sh, am_mm (am_upd (am_upd U1 21 1 (w32 ((w32 (256 * (U1 2 0))) + (U1 2 1)))) 21 2 1))) (some (.inl r3), (am_sh, am_mm U3)) ∧ (((((am_upd (am_upd U1 21 1 (w32 ((w32 (256 * (U1 2 0))) + (U1 2 1)))) 21 2 1) 2 (w32 (x2 - 1)).toNat) = r3 : Prop)) → Ev kz ((d + 1), 171, 104, [some (.inr (.inr 21)), some (.inr (.inr 2)), some (.inl x2), some (.inr (.inr 3)), some (.inl 4), none], [], (am_sh, am_mm U3)) R) ∧ (¬ (((am_upd (am_upd U1 21 1 (w32 ((w32 (256 * (U1 2 0))) + (U1 2 1)))) 21 2 1) 2 (w32 (x2 - 1)).toNat) = r3) → R = (some (.inl 0), (am_sh, am_mm U3))))))) ∧ (¬ (x2 = (w32 (5 + (w32 (5 * (U1 2 3)))))) → R = (some (.inl 0), (am_sh, am_mm U1))))))) : Ev kz ((d + 1), 171, 0, [some (.inr (.inr 21)), some (.inr (.inr 2)), some (.inl x2), some (.inr (.inr 3)), none, none], [], (am_sh, am_mm U)) R := by
  refine ev_seg (σ1 := ((d + 1), 171, 1, [some (.inr (.inr 21)), some (.inr (.inr 2)), some (.inl x2), some (.inr (.inr 3)), none, none], [.inr (.inr 21)], (am_sh, am_mm U))) 1 (fun _ => rfl) ?_
  obtain ⟨U1, hc, ha⟩ := h
  refine ev_cal (σc := (d, 176, 0, [some (.inr (.inr 21))], [], (am_sh, am_mm U))) (fun _ => rfl) hc ?_
  show Ev kz ((d + 1), 171, 4, [some (.inr (.inr 21)), some (.inr (.inr 2)), some (.inl x2), some (.inr (.inr 3)), none, none], [], (am_sh, am_mm U1)) R
  refine ev_br (P := x2 < 5) (σ1 := ((d + 1), 171, 34, [some (.inr (.inr 21)), some (.inr (.inr 2)), some (.inl x2), some (.inr (.inr 3)), none, none], [], (am_sh, am_mm U1))) (σ2 := ((d + 1), 171, 9, [some (.inr (.inr 21)), some (.inr (.inr 2)), some (.inl x2), some (.inr (.inr 3)), none, none], [], (am_sh, am_mm U1))) 3 (fun _ => rfl) (fun hc => ?_) (fun hc => ?_)
  · have ha1 := ha.1 hc
    subst ha1
    exact ev_end 2 (fun _ => rfl)
  · have ha2 := ha.2 hc
    refine ev_br (P := 1600 < x2) (σ1 := ((d + 1), 171, 34, [some (.inr (.inr 21)), some (.inr (.inr 2)), some (.inl x2), some (.inr (.inr 3)), none, none], [], (am_sh, am_mm U1))) (σ2 := ((d + 1), 171, 15, [some (.inr (.inr 21)), some (.inr (.inr 2)), some (.inl x2), some (.inr (.inr 3)), none, none], [], (am_sh, am_mm U1))) 4 (fun _ => rfl) (fun hc => ?_) (fun hc => ?_)
    · have ha21 := ha2.1 hc
      subst ha21
      exact ev_end 2 (fun _ => rfl)
    · have ha22 := ha2.2 hc
      refine ev_seg (σ1 := ((d + 1), 171, 17, [some (.inr (.inr 21)), some (.inr (.inr 2)), some (.inl x2), some (.inr (.inr 3)), none, none], [.inl 3, .inr (.inr 2)], (am_sh, am_mm U1))) 2 (fun _ => rfl) ?_
      refine eu_iald 2 (n := 1600) rfl (by decide) rfl (fun _ => rfl) (by decide) ?_
      show Ev kz ((d + 1), 171, 18, [some (.inr (.inr 21)), some (.inr (.inr 2)), some (.inl x2), some (.inr (.inr 3)), none, none], [.inl (U1 2 3)], (am_sh, am_mm U1)) R
      refine ev_br (P := 16 < (U1 2 3)) (σ1 := ((d + 1), 171, 34, [some (.inr (.inr 21)), some (.inr (.inr 2)), some (.inl x2), some (.inr (.inr 3)), none, none], [], (am_sh, am_mm U1))) (σ2 := ((d + 1), 171, 23, [some (.inr (.inr 21)), some (.inr (.inr 2)), some (.inl x2), some (.inr (.inr 3)), none, none], [], (am_sh, am_mm U1))) 2 (fun _ => rfl) (fun hc => ?_) (fun hc => ?_)
      · have ha221 := ha22.1 hc
        subst ha221
        exact ev_end 2 (fun _ => rfl)
      · have ha222 := ha22.2 hc
        refine ev_seg (σ1 := ((d + 1), 171, 28, [some (.inr (.inr 21)), some (.inr (.inr 2)), some (.inl x2), some (.inr (.inr 3)), none, none], [.inl 3, .inr (.inr 2), .inl 5, .inl 5, .inl x2], (am_sh, am_mm U1))) 5 (fun _ => rfl) ?_
        refine eu_iald 2 (n := 1600) rfl (by decide) rfl (fun _ => rfl) (by decide) ?_
        show Ev kz ((d + 1), 171, 29, [some (.inr (.inr 21)), some (.inr (.inr 2)), some (.inl x2), some (.inr (.inr 3)), none, none], [.inl (U1 2 3), .inl 5, .inl 5, .inl x2], (am_sh, am_mm U1)) R
        refine ev_br (P := x2 = (w32 (5 + (w32 (5 * (U1 2 3)))))) (σ1 := ((d + 1), 171, 36, [some (.inr (.inr 21)), some (.inr (.inr 2)), some (.inl x2), some (.inr (.inr 3)), none, none], [], (am_sh, am_mm U1))) (σ2 := ((d + 1), 171, 34, [some (.inr (.inr 21)), some (.inr (.inr 2)), some (.inl x2), some (.inr (.inr 3)), none, none], [], (am_sh, am_mm U1))) 3 (fun _ => rfl) (fun hc => ?_) (fun hc => ?_)
        · have ha2221 := ha222.1 hc
          refine ev_seg (σ1 := ((d + 1), 171, 42, [some (.inr (.inr 21)), some (.inr (.inr 2)), some (.inl x2), some (.inr (.inr 3)), none, none], [.inl 0, .inr (.inr 2), .inl 256, .inr (.inr 21)], (am_sh, am_mm U1))) 4 (fun _ => rfl) ?_
          refine eu_iald 2 (n := 1600) rfl (by decide) rfl (fun _ => rfl) (by decide) ?_
          show Ev kz ((d + 1), 171, 43, [some (.inr (.inr 21)), some (.inr (.inr 2)), some (.inl x2), some (.inr (.inr 3)), none, none], [.inl (U1 2 0), .inl 256, .inr (.inr 21)], (am_sh, am_mm U1)) R
          refine ev_seg (σ1 := ((d + 1), 171, 46, [some (.inr (.inr 21)), some (.inr (.inr 2)), some (.inl x2), some (.inr (.inr 3)), none, none], [.inl 1, .inr (.inr 2), .inl (w32 (256 * (U1 2 0))), .inr (.inr 21)], (am_sh, am_mm U1))) 3 (fun _ => rfl) ?_
          refine eu_iald 2 (n := 1600) rfl (by decide) rfl (fun _ => rfl) (by decide) ?_
          show Ev kz ((d + 1), 171, 47, [some (.inr (.inr 21)), some (.inr (.inr 2)), some (.inl x2), some (.inr (.inr 3)), none, none], [.inl (U1 2 1), .inl (w32 (256 * (U1 2 0))), .inr (.inr 21)], (am_sh, am_mm U1)) R
          refine ev_seg (σ1 := ((d + 1), 171, 48, [some (.inr (.inr 21)), some (.inr (.inr 2)), some (.inl x2), some (.inr (.inr 3)), none, none], [.inl (w32 ((w32 (256 * (U1 2 0))) + (U1 2 1))), .inr (.inr 21)], (am_sh, am_mm U1))) 1 (fun _ => rfl) ?_
          refine eu_puti 21 (n := 7) rfl (by decide) rfl rfl ?_
          refine ev_seg (σ1 := ((d + 1), 171, 54, [some (.inr (.inr 21)), some (.inr (.inr 2)), some (.inl x2), some (.inr (.inr 3)), none, none], [.inl 2, .inr (.inr 2), .inr (.inr 21)], (am_sh, am_mm (am_upd U1 21 1 (w32 ((w32 (256 * (U1 2 0))) + (U1 2 1))))))) 3 (fun _ => rfl) ?_
          refine eu_iald 2 (n := 1600) rfl (by decide) rfl (fun _ => rfl) (by decide) ?_
          show Ev kz ((d + 1), 171, 55, [some (.inr (.inr 21)), some (.inr (.inr 2)), some (.inl x2), some (.inr (.inr 3)), none, none], [.inl ((am_upd U1 21 1 (w32 ((w32 (256 * (U1 2 0))) + (U1 2 1)))) 2 2), .inr (.inr 21)], (am_sh, am_mm (am_upd U1 21 1 (w32 ((w32 (256 * (U1 2 0))) + (U1 2 1)))))) R
          refine ev_br (P := ¬ ((am_upd U1 21 1 (w32 ((w32 (256 * (U1 2 0))) + (U1 2 1)))) 2 2) = 1) (σ1 := ((d + 1), 171, 63, [some (.inr (.inr 21)), some (.inr (.inr 2)), some (.inl x2), some (.inr (.inr 3)), none, none], [.inr (.inr 21)], (am_sh, am_mm (am_upd U1 21 1 (w32 ((w32 (256 * (U1 2 0))) + (U1 2 1))))))) (σ2 := ((d + 1), 171, 59, [some (.inr (.inr 21)), some (.inr (.inr 2)), some (.inl x2), some (.inr (.inr 3)), none, none], [.inr (.inr 21)], (am_sh, am_mm (am_upd U1 21 1 (w32 ((w32 (256 * (U1 2 0))) + (U1 2 1))))))) 2 (fun _ => rfl) (fun hc => ?_) (fun hc => ?_)
          · have ha22211 := ha2221.1 hc
            refine ev_seg (σ1 := ((d + 1), 171, 64, [some (.inr (.inr 21)), some (.inr (.inr 2)), some (.inl x2), some (.inr (.inr 3)), none, none], [.inl 0, .inr (.inr 21)], (am_sh, am_mm (am_upd U1 21 1 (w32 ((w32 (256 * (U1 2 0))) + (U1 2 1))))))) 1 (fun _ => rfl) ?_
            refine eu_putz 21 (n := 7) rfl (by decide) rfl rfl (by decide) ?_
            refine ev_br (P := 9999 < ((am_upd (am_upd U1 21 1 (w32 ((w32 (256 * (U1 2 0))) + (U1 2 1)))) 21 2 0) 21 1)) (σ1 := ((d + 1), 171, 99, [some (.inr (.inr 21)), some (.inr (.inr 2)), some (.inl x2), some (.inr (.inr 3)), none, none], [], (am_sh, am_mm (am_upd (am_upd U1 21 1 (w32 ((w32 (256 * (U1 2 0))) + (U1 2 1)))) 21 2 0)))) (σ2 := ((d + 1), 171, 77, [some (.inr (.inr 21)), some (.inr (.inr 2)), some (.inl x2), some (.inr (.inr 3)), none, none], [], (am_sh, am_mm (am_upd (am_upd U1 21 1 (w32 ((w32 (256 * (U1 2 0))) + (U1 2 1)))) 21 2 0)))) 4 (fun _ => rfl) (fun hc => ?_) (fun hc => ?_)
            · have ha222111 := ha22211.1 hc
              subst ha222111
              exact ev_end 2 (fun _ => rfl)
            · have ha222112 := ha22211.2 hc
              refine ev_seg (σ1 := ((d + 1), 171, 79, [some (.inr (.inr 21)), some (.inr (.inr 2)), some (.inl x2), some (.inr (.inr 3)), none, none], [.inl 2, .inr (.inr 2)], (am_sh, am_mm (am_upd (am_upd U1 21 1 (w32 ((w32 (256 * (U1 2 0))) + (U1 2 1)))) 21 2 0)))) 2 (fun _ => rfl) ?_
              refine eu_iald 2 (n := 1600) rfl (by decide) rfl (fun _ => rfl) (by decide) ?_
              show Ev kz ((d + 1), 171, 80, [some (.inr (.inr 21)), some (.inr (.inr 2)), some (.inl x2), some (.inr (.inr 3)), none, none], [.inl ((am_upd (am_upd U1 21 1 (w32 ((w32 (256 * (U1 2 0))) + (U1 2 1)))) 21 2 0) 2 2)], (am_sh, am_mm (am_upd (am_upd U1 21 1 (w32 ((w32 (256 * (U1 2 0))) + (U1 2 1)))) 21 2 0))) R
              refine ev_br (P := 1 < ((am_upd (am_upd U1 21 1 (w32 ((w32 (256 * (U1 2 0))) + (U1 2 1)))) 21 2 0) 2 2)) (σ1 := ((d + 1), 171, 99, [some (.inr (.inr 21)), some (.inr (.inr 2)), some (.inl x2), some (.inr (.inr 3)), none, none], [], (am_sh, am_mm (am_upd (am_upd U1 21 1 (w32 ((w32 (256 * (U1 2 0))) + (U1 2 1)))) 21 2 0)))) (σ2 := ((d + 1), 171, 84, [some (.inr (.inr 21)), some (.inr (.inr 2)), some (.inl x2), some (.inr (.inr 3)), none, none], [], (am_sh, am_mm (am_upd (am_upd U1 21 1 (w32 ((w32 (256 * (U1 2 0))) + (U1 2 1)))) 21 2 0)))) 2 (fun _ => rfl) (fun hc => ?_) (fun hc => ?_)
              · have ha2221121 := ha222112.1 hc
                subst ha2221121
                exact ev_end 2 (fun _ => rfl)
              · have ha2221122 := ha222112.2 hc
                refine ev_seg (σ1 := ((d + 1), 171, 88, [some (.inr (.inr 21)), some (.inr (.inr 2)), some (.inl x2), some (.inr (.inr 3)), none, none], [.inl (w32 (x2 - 1)), .inr (.inr 2)], (am_sh, am_mm (am_upd (am_upd U1 21 1 (w32 ((w32 (256 * (U1 2 0))) + (U1 2 1)))) 21 2 0)))) 4 (fun _ => rfl) ?_
                refine eu_iald 2 (n := 1600) rfl (by decide) rfl (fun _ => rfl) ha2221122.1 ?_
                have ha2221122a := ha2221122.2
                refine ev_seg (σ1 := ((d + 1), 171, 93, [some (.inr (.inr 21)), some (.inr (.inr 2)), some (.inl x2), some (.inr (.inr 3)), none, none], [.inl (w32 (x2 - 1)), .inr (.inr 2), .inl ((am_upd (am_upd U1 21 1 (w32 ((w32 (256 * (U1 2 0))) + (U1 2 1)))) 21 2 0) 2 (w32 (x2 - 1)).toNat)], (am_sh, am_mm (am_upd (am_upd U1 21 1 (w32 ((w32 (256 * (U1 2 0))) + (U1 2 1)))) 21 2 0)))) 4 (fun _ => rfl) ?_
                obtain ⟨r2, U2, ha2221122ac, ha2221122aa⟩ := ha2221122a
                refine ev_cal (σc := (d, 244, 0, [some (.inr (.inr 2)), some (.inl (w32 (x2 - 1))), none, none], [], (am_sh, am_mm (am_upd (am_upd U1 21 1 (w32 ((w32 (256 * (U1 2 0))) + (U1 2 1)))) 21 2 0)))) (fun _ => rfl) ha2221122ac ?_
                show Ev kz ((d + 1), 171, 96, [some (.inr (.inr 21)), some (.inr (.inr 2)), some (.inl x2), some (.inr (.inr 3)), none, none], [.inl r2, .inl ((am_upd (am_upd U1 21 1 (w32 ((w32 (256 * (U1 2 0))) + (U1 2 1)))) 21 2 0) 2 (w32 (x2 - 1)).toNat)], (am_sh, am_mm U2)) R
                refine ev_br (P := ((am_upd (am_upd U1 21 1 (w32 ((w32 (256 * (U1 2 0))) + (U1 2 1)))) 21 2 0) 2 (w32 (x2 - 1)).toNat) = r2) (σ1 := ((d + 1), 171, 101, [some (.inr (.inr 21)), some (.inr (.inr 2)), some (.inl x2), some (.inr (.inr 3)), none, none], [], (am_sh, am_mm U2))) (σ2 := ((d + 1), 171, 99, [some (.inr (.inr 21)), some (.inr (.inr 2)), some (.inl x2), some (.inr (.inr 3)), none, none], [], (am_sh, am_mm U2))) 1 (fun _ => rfl) (fun hc => ?_) (fun hc => ?_)
                · have ha2221122aa1 := ha2221122aa.1 hc
                  refine ev_seg (σ1 := ((d + 1), 171, 104, [some (.inr (.inr 21)), some (.inr (.inr 2)), some (.inl x2), some (.inr (.inr 3)), some (.inl 4), none], [], (am_sh, am_mm U2))) 2 (fun _ => rfl) ?_
                  exact ha2221122aa1
                · have ha2221122aa2 := ha2221122aa.2 hc
                  subst ha2221122aa2
                  exact ev_end 2 (fun _ => rfl)
          · have ha22212 := ha2221.2 hc
            refine ev_seg (σ1 := ((d + 1), 171, 64, [some (.inr (.inr 21)), some (.inr (.inr 2)), some (.inl x2), some (.inr (.inr 3)), none, none], [.inl 1, .inr (.inr 21)], (am_sh, am_mm (am_upd U1 21 1 (w32 ((w32 (256 * (U1 2 0))) + (U1 2 1))))))) 2 (fun _ => rfl) ?_
            refine eu_putz 21 (n := 7) rfl (by decide) rfl rfl (by decide) ?_
            refine ev_br (P := 9999 < ((am_upd (am_upd U1 21 1 (w32 ((w32 (256 * (U1 2 0))) + (U1 2 1)))) 21 2 1) 21 1)) (σ1 := ((d + 1), 171, 99, [some (.inr (.inr 21)), some (.inr (.inr 2)), some (.inl x2), some (.inr (.inr 3)), none, none], [], (am_sh, am_mm (am_upd (am_upd U1 21 1 (w32 ((w32 (256 * (U1 2 0))) + (U1 2 1)))) 21 2 1)))) (σ2 := ((d + 1), 171, 77, [some (.inr (.inr 21)), some (.inr (.inr 2)), some (.inl x2), some (.inr (.inr 3)), none, none], [], (am_sh, am_mm (am_upd (am_upd U1 21 1 (w32 ((w32 (256 * (U1 2 0))) + (U1 2 1)))) 21 2 1)))) 4 (fun _ => rfl) (fun hc => ?_) (fun hc => ?_)
            · have ha222121 := ha22212.1 hc
              subst ha222121
              exact ev_end 2 (fun _ => rfl)
            · have ha222122 := ha22212.2 hc
              refine ev_seg (σ1 := ((d + 1), 171, 79, [some (.inr (.inr 21)), some (.inr (.inr 2)), some (.inl x2), some (.inr (.inr 3)), none, none], [.inl 2, .inr (.inr 2)], (am_sh, am_mm (am_upd (am_upd U1 21 1 (w32 ((w32 (256 * (U1 2 0))) + (U1 2 1)))) 21 2 1)))) 2 (fun _ => rfl) ?_
              refine eu_iald 2 (n := 1600) rfl (by decide) rfl (fun _ => rfl) (by decide) ?_
              show Ev kz ((d + 1), 171, 80, [some (.inr (.inr 21)), some (.inr (.inr 2)), some (.inl x2), some (.inr (.inr 3)), none, none], [.inl ((am_upd (am_upd U1 21 1 (w32 ((w32 (256 * (U1 2 0))) + (U1 2 1)))) 21 2 1) 2 2)], (am_sh, am_mm (am_upd (am_upd U1 21 1 (w32 ((w32 (256 * (U1 2 0))) + (U1 2 1)))) 21 2 1))) R
              refine ev_br (P := 1 < ((am_upd (am_upd U1 21 1 (w32 ((w32 (256 * (U1 2 0))) + (U1 2 1)))) 21 2 1) 2 2)) (σ1 := ((d + 1), 171, 99, [some (.inr (.inr 21)), some (.inr (.inr 2)), some (.inl x2), some (.inr (.inr 3)), none, none], [], (am_sh, am_mm (am_upd (am_upd U1 21 1 (w32 ((w32 (256 * (U1 2 0))) + (U1 2 1)))) 21 2 1)))) (σ2 := ((d + 1), 171, 84, [some (.inr (.inr 21)), some (.inr (.inr 2)), some (.inl x2), some (.inr (.inr 3)), none, none], [], (am_sh, am_mm (am_upd (am_upd U1 21 1 (w32 ((w32 (256 * (U1 2 0))) + (U1 2 1)))) 21 2 1)))) 2 (fun _ => rfl) (fun hc => ?_) (fun hc => ?_)
              · have ha2221221 := ha222122.1 hc
                subst ha2221221
                exact ev_end 2 (fun _ => rfl)
              · have ha2221222 := ha222122.2 hc
                refine ev_seg (σ1 := ((d + 1), 171, 88, [some (.inr (.inr 21)), some (.inr (.inr 2)), some (.inl x2), some (.inr (.inr 3)), none, none], [.inl (w32 (x2 - 1)), .inr (.inr 2)], (am_sh, am_mm (am_upd (am_upd U1 21 1 (w32 ((w32 (256 * (U1 2 0))) + (U1 2 1)))) 21 2 1)))) 4 (fun _ => rfl) ?_
                refine eu_iald 2 (n := 1600) rfl (by decide) rfl (fun _ => rfl) ha2221222.1 ?_
                have ha2221222a := ha2221222.2
                refine ev_seg (σ1 := ((d + 1), 171, 93, [some (.inr (.inr 21)), some (.inr (.inr 2)), some (.inl x2), some (.inr (.inr 3)), none, none], [.inl (w32 (x2 - 1)), .inr (.inr 2), .inl ((am_upd (am_upd U1 21 1 (w32 ((w32 (256 * (U1 2 0))) + (U1 2 1)))) 21 2 1) 2 (w32 (x2 - 1)).toNat)], (am_sh, am_mm (am_upd (am_upd U1 21 1 (w32 ((w32 (256 * (U1 2 0))) + (U1 2 1)))) 21 2 1)))) 4 (fun _ => rfl) ?_
                obtain ⟨r3, U3, ha2221222ac, ha2221222aa⟩ := ha2221222a
                refine ev_cal (σc := (d, 244, 0, [some (.inr (.inr 2)), some (.inl (w32 (x2 - 1))), none, none], [], (am_sh, am_mm (am_upd (am_upd U1 21 1 (w32 ((w32 (256 * (U1 2 0))) + (U1 2 1)))) 21 2 1)))) (fun _ => rfl) ha2221222ac ?_
                show Ev kz ((d + 1), 171, 96, [some (.inr (.inr 21)), some (.inr (.inr 2)), some (.inl x2), some (.inr (.inr 3)), none, none], [.inl r3, .inl ((am_upd (am_upd U1 21 1 (w32 ((w32 (256 * (U1 2 0))) + (U1 2 1)))) 21 2 1) 2 (w32 (x2 - 1)).toNat)], (am_sh, am_mm U3)) R
                refine ev_br (P := ((am_upd (am_upd U1 21 1 (w32 ((w32 (256 * (U1 2 0))) + (U1 2 1)))) 21 2 1) 2 (w32 (x2 - 1)).toNat) = r3) (σ1 := ((d + 1), 171, 101, [some (.inr (.inr 21)), some (.inr (.inr 2)), some (.inl x2), some (.inr (.inr 3)), none, none], [], (am_sh, am_mm U3))) (σ2 := ((d + 1), 171, 99, [some (.inr (.inr 21)), some (.inr (.inr 2)), some (.inl x2), some (.inr (.inr 3)), none, none], [], (am_sh, am_mm U3))) 1 (fun _ => rfl) (fun hc => ?_) (fun hc => ?_)
                · have ha2221222aa1 := ha2221222aa.1 hc
                  refine ev_seg (σ1 := ((d + 1), 171, 104, [some (.inr (.inr 21)), some (.inr (.inr 2)), some (.inl x2), some (.inr (.inr 3)), some (.inl 4), none], [], (am_sh, am_mm U3))) 2 (fun _ => rfl) ?_
                  exact ha2221222aa1
                · have ha2221222aa2 := ha2221222aa.2 hc
                  subst ha2221222aa2
                  exact ev_end 2 (fun _ => rfl)
        · have ha2222 := ha222.2 hc
          subst ha2222
          exact ev_end 2 (fun _ => rfl)
theorem st171_21_2_3_104 (kz : am_Z) (d : Nat) (x2 x4 : Int) (U : Nat → Nat → Int) (R : Option am_V × am_M) (h : (((x2 ≤ (w32 (x4 + 5)) : Prop)) → R = (some (.inl 1), (am_sh, am_mm U))) ∧ (¬ (x2 ≤ (w32 (x4 + 5))) → (0 ≤ x4 ∧ x4 < 1600) ∧ (0 ≤ (w32 (x4 + 1)) ∧ (w32 (x4 + 1)) < 1600) ∧ (0 ≤ (w32 (x4 + 2)) ∧ (w32 (x4 + 2)) < 1600) ∧ (0 ≤ (w32 (x4 + 3)) ∧ (w32 (x4 + 3)) < 1600) ∧ (0 ≤ (w32 (x4 + 4)) ∧ (w32 (x4 + 4)) < 1600) ∧ ∃ (r1 : Int) (U1 : Nat → Nat → Int), Ev kz (d, 245, 0, [some (.inr (.inr 21)), some (.inl (am_or (am_or (am_or (am_shl (U 2 x4.toNat) 24) (am_shl (U 2 (w32 (x4 + 1)).toNat) 16)) (am_shl (U 2 (w32 (x4 + 2)).toNat) 8)) (U 2 (w32 (x4 + 3)).toNat))), some (.inl (w32 ((U 2 (w32 (x4 + 4)).toNat) - 1))), some (.inr (.inr 3))], [], (am_sh, am_mm U)) (some (.inl r1), (am_sh, am_mm U1)) ∧ (((¬ r1 = 0 : Prop)) → Ev kz ((d + 1), 171, 104, [some (.inr (.inr 21)), some (.inr (.inr 2)), some (.inl x2), some (.inr (.inr 3)), some (.inl (w32 (x4 + 5))), some (.inl (am_or (am_or (am_or (am_shl (U 2 x4.toNat) 24) (am_shl (U 2 (w32 (x4 + 1)).toNat) 16)) (am_shl (U 2 (w32 (x4 + 2)).toNat) 8)) (U 2 (w32 (x4 + 3)).toNat)))], [], (am_sh, am_mm U1)) R) ∧ (¬ (¬ r1 = 0) → R = (some (.inl 0), (am_sh, am_mm U1))))) : Ev kz ((d + 1), 171, 104, [some (.inr (.inr 21)), some (.inr (.inr 2)), some (.inl x2), some (.inr (.inr 3)), some (.inl x4), none], [], (am_sh, am_mm U)) R := by
  refine ev_br (P := x2 ≤ (w32 (x4 + 5))) (σ1 := ((d + 1), 171, 174, [some (.inr (.inr 21)), some (.inr (.inr 2)), some (.inl x2), some (.inr (.inr 3)), some (.inl x4), none], [], (am_sh, am_mm U))) (σ2 := ((d + 1), 171, 112, [some (.inr (.inr 21)), some (.inr (.inr 2)), some (.inl x2), some (.inr (.inr 3)), some (.inl x4), none], [], (am_sh, am_mm U))) 5 (fun _ => rfl) (fun hc => ?_) (fun hc => ?_)
  · have h1 := h.1 hc
    subst h1
    exact ev_end 2 (fun _ => rfl)
  · have h2 := h.2 hc
    refine ev_seg (σ1 := ((d + 1), 171, 115, [some (.inr (.inr 21)), some (.inr (.inr 2)), some (.inl x2), some (.inr (.inr 3)), some (.inl x4), none], [.inl x4, .inr (.inr 2)], (am_sh, am_mm U))) 2 (fun _ => rfl) ?_
    refine eu_iald 2 (n := 1600) rfl (by decide) rfl (fun _ => rfl) h2.1 ?_
    have h2a := h2.2
    refine ev_seg (σ1 := ((d + 1), 171, 124, [some (.inr (.inr 21)), some (.inr (.inr 2)), some (.inl x2), some (.inr (.inr 3)), some (.inl x4), none], [.inl (w32 (x4 + 1)), .inr (.inr 2), .inl (am_shl (U 2 x4.toNat) 24)], (am_sh, am_mm U))) 6 (fun _ => rfl) ?_
    refine eu_iald 2 (n := 1600) rfl (by decide) rfl (fun _ => rfl) h2a.1 ?_
    have h2aa := h2a.2
    refine ev_seg (σ1 := ((d + 1), 171, 134, [some (.inr (.inr 21)), some (.inr (.inr 2)), some (.inl x2), some (.inr (.inr 3)), some (.inl x4), none], [.inl (w32 (x4 + 2)), .inr (.inr 2), .inl (am_or (am_shl (U 2 x4.toNat) 24) (am_shl (U 2 (w32 (x4 + 1)).toNat) 16))], (am_sh, am_mm U))) 7 (fun _ => rfl) ?_
    refine eu_iald 2 (n := 1600) rfl (by decide) rfl (fun _ => rfl) h2aa.1 ?_
    have h2aaa := h2aa.2
    refine ev_seg (σ1 := ((d + 1), 171, 144, [some (.inr (.inr 21)), some (.inr (.inr 2)), some (.inl x2), some (.inr (.inr 3)), some (.inl x4), none], [.inl (w32 (x4 + 3)), .inr (.inr 2), .inl (am_or (am_or (am_shl (U 2 x4.toNat) 24) (am_shl (U 2 (w32 (x4 + 1)).toNat) 16)) (am_shl (U 2 (w32 (x4 + 2)).toNat) 8))], (am_sh, am_mm U))) 7 (fun _ => rfl) ?_
    refine eu_iald 2 (n := 1600) rfl (by decide) rfl (fun _ => rfl) h2aaa.1 ?_
    have h2aaaa := h2aaa.2
    refine ev_seg (σ1 := ((d + 1), 171, 156, [some (.inr (.inr 21)), some (.inr (.inr 2)), some (.inl x2), some (.inr (.inr 3)), some (.inl x4), some (.inl (am_or (am_or (am_or (am_shl (U 2 x4.toNat) 24) (am_shl (U 2 (w32 (x4 + 1)).toNat) 16)) (am_shl (U 2 (w32 (x4 + 2)).toNat) 8)) (U 2 (w32 (x4 + 3)).toNat)))], [.inl (w32 (x4 + 4)), .inr (.inr 2), .inl (am_or (am_or (am_or (am_shl (U 2 x4.toNat) 24) (am_shl (U 2 (w32 (x4 + 1)).toNat) 16)) (am_shl (U 2 (w32 (x4 + 2)).toNat) 8)) (U 2 (w32 (x4 + 3)).toNat)), .inr (.inr 21)], (am_sh, am_mm U))) 8 (fun _ => rfl) ?_
    refine eu_iald 2 (n := 1600) rfl (by decide) rfl (fun _ => rfl) h2aaaa.1 ?_
    have h2aaaaa := h2aaaa.2
    refine ev_seg (σ1 := ((d + 1), 171, 160, [some (.inr (.inr 21)), some (.inr (.inr 2)), some (.inl x2), some (.inr (.inr 3)), some (.inl x4), some (.inl (am_or (am_or (am_or (am_shl (U 2 x4.toNat) 24) (am_shl (U 2 (w32 (x4 + 1)).toNat) 16)) (am_shl (U 2 (w32 (x4 + 2)).toNat) 8)) (U 2 (w32 (x4 + 3)).toNat)))], [.inr (.inr 3), .inl (w32 ((U 2 (w32 (x4 + 4)).toNat) - 1)), .inl (am_or (am_or (am_or (am_shl (U 2 x4.toNat) 24) (am_shl (U 2 (w32 (x4 + 1)).toNat) 16)) (am_shl (U 2 (w32 (x4 + 2)).toNat) 8)) (U 2 (w32 (x4 + 3)).toNat)), .inr (.inr 21)], (am_sh, am_mm U))) 3 (fun _ => rfl) ?_
    obtain ⟨r1, U1, h2aaaaac, h2aaaaaa⟩ := h2aaaaa
    refine ev_cal (σc := (d, 245, 0, [some (.inr (.inr 21)), some (.inl (am_or (am_or (am_or (am_shl (U 2 x4.toNat) 24) (am_shl (U 2 (w32 (x4 + 1)).toNat) 16)) (am_shl (U 2 (w32 (x4 + 2)).toNat) 8)) (U 2 (w32 (x4 + 3)).toNat))), some (.inl (w32 ((U 2 (w32 (x4 + 4)).toNat) - 1))), some (.inr (.inr 3))], [], (am_sh, am_mm U))) (fun _ => rfl) h2aaaaac ?_
    show Ev kz ((d + 1), 171, 163, [some (.inr (.inr 21)), some (.inr (.inr 2)), some (.inl x2), some (.inr (.inr 3)), some (.inl x4), some (.inl (am_or (am_or (am_or (am_shl (U 2 x4.toNat) 24) (am_shl (U 2 (w32 (x4 + 1)).toNat) 16)) (am_shl (U 2 (w32 (x4 + 2)).toNat) 8)) (U 2 (w32 (x4 + 3)).toNat)))], [.inl r1], (am_sh, am_mm U1)) R
    refine ev_br (P := ¬ r1 = 0) (σ1 := ((d + 1), 171, 168, [some (.inr (.inr 21)), some (.inr (.inr 2)), some (.inl x2), some (.inr (.inr 3)), some (.inl x4), some (.inl (am_or (am_or (am_or (am_shl (U 2 x4.toNat) 24) (am_shl (U 2 (w32 (x4 + 1)).toNat) 16)) (am_shl (U 2 (w32 (x4 + 2)).toNat) 8)) (U 2 (w32 (x4 + 3)).toNat)))], [], (am_sh, am_mm U1))) (σ2 := ((d + 1), 171, 166, [some (.inr (.inr 21)), some (.inr (.inr 2)), some (.inl x2), some (.inr (.inr 3)), some (.inl x4), some (.inl (am_or (am_or (am_or (am_shl (U 2 x4.toNat) 24) (am_shl (U 2 (w32 (x4 + 1)).toNat) 16)) (am_shl (U 2 (w32 (x4 + 2)).toNat) 8)) (U 2 (w32 (x4 + 3)).toNat)))], [], (am_sh, am_mm U1))) 1 (fun _ => rfl) (fun hc => ?_) (fun hc => ?_)
    · have h2aaaaaa1 := h2aaaaaa.1 hc
      refine ev_seg (σ1 := ((d + 1), 171, 104, [some (.inr (.inr 21)), some (.inr (.inr 2)), some (.inl x2), some (.inr (.inr 3)), some (.inl (w32 (x4 + 5))), some (.inl (am_or (am_or (am_or (am_shl (U 2 x4.toNat) 24) (am_shl (U 2 (w32 (x4 + 1)).toNat) 16)) (am_shl (U 2 (w32 (x4 + 2)).toNat) 8)) (U 2 (w32 (x4 + 3)).toNat)))], [], (am_sh, am_mm U1))) 2 (fun _ => rfl) ?_
      exact h2aaaaaa1
    · have h2aaaaaa2 := h2aaaaaa.2 hc
      subst h2aaaaaa2
      exact ev_end 2 (fun _ => rfl)
theorem st172_86_0 (kz : am_Z) (d : Nat) (x1 : Int) (U : Nat → Nat → Int) (R : Option am_V × am_M) (h : (((x1 < 5 : Prop)) → R = (some (.inl 0), (am_sh, am_mm U))) ∧ (¬ (x1 < 5) → (((9999 < (am_or (am_shl (U 87 0) 8) (U 87 1)) : Prop)) → R = (some (.inl 0), (am_sh, am_mm U))) ∧ (¬ (9999 < (am_or (am_shl (U 87 0) 8) (U 87 1))) → (((1 < (U 87 2) : Prop)) → R = (some (.inl 0), (am_sh, am_mm U))) ∧ (¬ (1 < (U 87 2)) → (((16 < (U 87 3) : Prop)) → R = (some (.inl 0), (am_sh, am_mm U))) ∧ (¬ (16 < (U 87 3)) → (((x1 = (w32 (5 + (w32 (5 * (U 87 3))))) : Prop)) → Ev kz ((d + 1), 172, 69, [some (.inr (.inr 86)), some (.inl x1), some (.inl 73), some (.inl 0), none, none], [], (am_sh, am_mm U)) R) ∧ (¬ (x1 = (w32 (5 + (w32 (5 * (U 87 3)))))) → R = (some (.inl 0), (am_sh, am_mm U)))))))) : Ev kz ((d + 1), 172, 0, [some (.inr (.inr 86)), some (.inl x1), none, none, none, none], [], (am_sh, am_mm U)) R := by
  refine ev_br (P := x1 < 5) (σ1 := ((d + 1), 172, 62, [some (.inr (.inr 86)), some (.inl x1), none, none, none, none], [], (am_sh, am_mm U))) (σ2 := ((d + 1), 172, 5, [some (.inr (.inr 86)), some (.inl x1), none, none, none, none], [], (am_sh, am_mm U))) 3 (fun _ => rfl) (fun hc => ?_) (fun hc => ?_)
  · have h1 := h.1 hc
    subst h1
    exact ev_end 2 (fun _ => rfl)
  · have h2 := h.2 hc
    refine ev_seg (σ1 := ((d + 1), 172, 10, [some (.inr (.inr 86)), some (.inl x1), none, none, none, none], [.inl 0, .inr (.inr 87)], (am_sh, am_mm U))) 3 (fun _ => rfl) ?_
    refine eu_iald 87 (n := 1800) rfl (by decide) rfl (fun _ => rfl) (by decide) ?_
    show Ev kz ((d + 1), 172, 11, [some (.inr (.inr 86)), some (.inl x1), none, none, none, none], [.inl (U 87 0)], (am_sh, am_mm U)) R
    refine ev_seg (σ1 := ((d + 1), 172, 19, [some (.inr (.inr 86)), some (.inl x1), none, none, none, none], [.inl 1, .inr (.inr 87), .inl (am_shl (U 87 0) 8)], (am_sh, am_mm U))) 5 (fun _ => rfl) ?_
    refine eu_iald 87 (n := 1800) rfl (by decide) rfl (fun _ => rfl) (by decide) ?_
    show Ev kz ((d + 1), 172, 20, [some (.inr (.inr 86)), some (.inl x1), none, none, none, none], [.inl (U 87 1), .inl (am_shl (U 87 0) 8)], (am_sh, am_mm U)) R
    refine ev_br (P := 9999 < (am_or (am_shl (U 87 0) 8) (U 87 1))) (σ1 := ((d + 1), 172, 62, [some (.inr (.inr 86)), some (.inl x1), none, none, none, none], [], (am_sh, am_mm U))) (σ2 := ((d + 1), 172, 27, [some (.inr (.inr 86)), some (.inl x1), none, none, none, none], [], (am_sh, am_mm U))) 3 (fun _ => rfl) (fun hc => ?_) (fun hc => ?_)
    · have h21 := h2.1 hc
      subst h21
      exact ev_end 2 (fun _ => rfl)
    · have h22 := h2.2 hc
      refine ev_seg (σ1 := ((d + 1), 172, 32, [some (.inr (.inr 86)), some (.inl x1), none, none, none, none], [.inl 2, .inr (.inr 87)], (am_sh, am_mm U))) 3 (fun _ => rfl) ?_
      refine eu_iald 87 (n := 1800) rfl (by decide) rfl (fun _ => rfl) (by decide) ?_
      show Ev kz ((d + 1), 172, 33, [some (.inr (.inr 86)), some (.inl x1), none, none, none, none], [.inl (U 87 2)], (am_sh, am_mm U)) R
      refine ev_br (P := 1 < (U 87 2)) (σ1 := ((d + 1), 172, 62, [some (.inr (.inr 86)), some (.inl x1), none, none, none, none], [], (am_sh, am_mm U))) (σ2 := ((d + 1), 172, 37, [some (.inr (.inr 86)), some (.inl x1), none, none, none, none], [], (am_sh, am_mm U))) 2 (fun _ => rfl) (fun hc => ?_) (fun hc => ?_)
      · have h221 := h22.1 hc
        subst h221
        exact ev_end 2 (fun _ => rfl)
      · have h222 := h22.2 hc
        refine ev_seg (σ1 := ((d + 1), 172, 42, [some (.inr (.inr 86)), some (.inl x1), none, none, none, none], [.inl 3, .inr (.inr 87)], (am_sh, am_mm U))) 3 (fun _ => rfl) ?_
        refine eu_iald 87 (n := 1800) rfl (by decide) rfl (fun _ => rfl) (by decide) ?_
        show Ev kz ((d + 1), 172, 43, [some (.inr (.inr 86)), some (.inl x1), none, none, none, none], [.inl (U 87 3)], (am_sh, am_mm U)) R
        refine ev_br (P := 16 < (U 87 3)) (σ1 := ((d + 1), 172, 62, [some (.inr (.inr 86)), some (.inl x1), none, none, none, none], [], (am_sh, am_mm U))) (σ2 := ((d + 1), 172, 48, [some (.inr (.inr 86)), some (.inl x1), none, none, none, none], [], (am_sh, am_mm U))) 2 (fun _ => rfl) (fun hc => ?_) (fun hc => ?_)
        · have h2221 := h222.1 hc
          subst h2221
          exact ev_end 2 (fun _ => rfl)
        · have h2222 := h222.2 hc
          refine ev_seg (σ1 := ((d + 1), 172, 56, [some (.inr (.inr 86)), some (.inl x1), none, none, none, none], [.inl 3, .inr (.inr 87), .inl 5, .inl 5, .inl x1], (am_sh, am_mm U))) 6 (fun _ => rfl) ?_
          refine eu_iald 87 (n := 1800) rfl (by decide) rfl (fun _ => rfl) (by decide) ?_
          show Ev kz ((d + 1), 172, 57, [some (.inr (.inr 86)), some (.inl x1), none, none, none, none], [.inl (U 87 3), .inl 5, .inl 5, .inl x1], (am_sh, am_mm U)) R
          refine ev_br (P := x1 = (w32 (5 + (w32 (5 * (U 87 3)))))) (σ1 := ((d + 1), 172, 64, [some (.inr (.inr 86)), some (.inl x1), none, none, none, none], [], (am_sh, am_mm U))) (σ2 := ((d + 1), 172, 62, [some (.inr (.inr 86)), some (.inl x1), none, none, none, none], [], (am_sh, am_mm U))) 3 (fun _ => rfl) (fun hc => ?_) (fun hc => ?_)
          · have h22221 := h2222.1 hc
            refine ev_seg (σ1 := ((d + 1), 172, 69, [some (.inr (.inr 86)), some (.inl x1), some (.inl 73), some (.inl 0), none, none], [], (am_sh, am_mm U))) 4 (fun _ => rfl) ?_
            exact h22221
          · have h22222 := h2222.2 hc
            subst h22222
            exact ev_end 2 (fun _ => rfl)
theorem st172_86_69 (kz : am_Z) (d : Nat) (x1 x2 x3 : Int) (U : Nat → Nat → Int) (R : Option am_V × am_M) (h : ((((w32 (x1 - 1)) ≤ x3 : Prop)) → (0 ≤ (w32 (x1 - 1)) ∧ (w32 (x1 - 1)) < 1800) ∧ ((((U 87 (w32 (x1 - 1)).toNat) = x2 : Prop)) → Ev kz ((d + 1), 172, 125, [some (.inr (.inr 86)), some (.inl x1), some (.inl x2), some (.inl 0), none, none], [], (am_sh, am_mm (am_upd U 122 1 (U 87 3)))) R) ∧ (¬ ((U 87 (w32 (x1 - 1)).toNat) = x2) → R = (some (.inl 0), (am_sh, am_mm U)))) ∧ (¬ ((w32 (x1 - 1)) ≤ x3) → (0 ≤ x3 ∧ x3 < 1800) ∧ Ev kz ((d + 1), 172, 69, [some (.inr (.inr 86)), some (.inl x1), some (.inl (Int.tmod (w32 ((w32 (5 * x2)) + (U 87 x3.toNat))) 251)), some (.inl (w32 (x3 + 1))), none, none], [], (am_sh, am_mm U)) R)) : Ev kz ((d + 1), 172, 69, [some (.inr (.inr 86)), some (.inl x1), some (.inl x2), some (.inl x3), none, none], [], (am_sh, am_mm U)) R := by
  refine ev_br (P := (w32 (x1 - 1)) ≤ x3) (σ1 := ((d + 1), 172, 97, [some (.inr (.inr 86)), some (.inl x1), some (.inl x2), some (.inl x3), none, none], [], (am_sh, am_mm U))) (σ2 := ((d + 1), 172, 76, [some (.inr (.inr 86)), some (.inl x1), some (.inl x2), some (.inl x3), none, none], [], (am_sh, am_mm U))) 5 (fun _ => rfl) (fun hc => ?_) (fun hc => ?_)
  · have h1 := h.1 hc
    refine ev_seg (σ1 := ((d + 1), 172, 104, [some (.inr (.inr 86)), some (.inl x1), some (.inl x2), some (.inl x3), none, none], [.inl (w32 (x1 - 1)), .inr (.inr 87)], (am_sh, am_mm U))) 5 (fun _ => rfl) ?_
    refine eu_iald 87 (n := 1800) rfl (by decide) rfl (fun _ => rfl) h1.1 ?_
    have h1a := h1.2
    refine ev_br (P := (U 87 (w32 (x1 - 1)).toNat) = x2) (σ1 := ((d + 1), 172, 111, [some (.inr (.inr 86)), some (.inl x1), some (.inl x2), some (.inl x3), none, none], [], (am_sh, am_mm U))) (σ2 := ((d + 1), 172, 109, [some (.inr (.inr 86)), some (.inl x1), some (.inl x2), some (.inl x3), none, none], [], (am_sh, am_mm U))) 2 (fun _ => rfl) (fun hc => ?_) (fun hc => ?_)
    · have h1a1 := h1a.1 hc
      refine ev_seg (σ1 := ((d + 1), 172, 121, [some (.inr (.inr 86)), some (.inl x1), some (.inl x2), some (.inl x3), none, none], [.inl 3, .inr (.inr 87), .inl 1, .inr (.inr 122)], (am_sh, am_mm U))) 6 (fun _ => rfl) ?_
      refine eu_iald 87 (n := 1800) rfl (by decide) rfl (fun _ => rfl) (by decide) ?_
      show Ev kz ((d + 1), 172, 122, [some (.inr (.inr 86)), some (.inl x1), some (.inl x2), some (.inl x3), none, none], [.inl (U 87 3), .inl 1, .inr (.inr 122)], (am_sh, am_mm U)) R
      refine eu_iast 122 (n := 22) rfl (by decide) rfl (fun _ => rfl) (by decide) ?_
      show Ev kz ((d + 1), 172, 123, [some (.inr (.inr 86)), some (.inl x1), some (.inl x2), some (.inl x3), none, none], [], (am_sh, am_mm (am_upd U 122 1 (U 87 3)))) R
      refine ev_seg (σ1 := ((d + 1), 172, 125, [some (.inr (.inr 86)), some (.inl x1), some (.inl x2), some (.inl 0), none, none], [], (am_sh, am_mm (am_upd U 122 1 (U 87 3))))) 2 (fun _ => rfl) ?_
      exact h1a1
    · have h1a2 := h1a.2 hc
      subst h1a2
      exact ev_end 2 (fun _ => rfl)
  · have h2 := h.2 hc
    refine ev_seg (σ1 := ((d + 1), 172, 84, [some (.inr (.inr 86)), some (.inl x1), some (.inl x2), some (.inl x3), none, none], [.inl x3, .inr (.inr 87), .inl (w32 (5 * x2))], (am_sh, am_mm U))) 6 (fun _ => rfl) ?_
    refine eu_iald 87 (n := 1800) rfl (by decide) rfl (fun _ => rfl) h2.1 ?_
    have h2a := h2.2
    refine ev_seg (σ1 := ((d + 1), 172, 89, [some (.inr (.inr 86)), some (.inl x1), some (.inl x2), some (.inl x3), none, none], [.inl 251, .inl (w32 ((w32 (5 * x2)) + (U 87 x3.toNat)))], (am_sh, am_mm U))) 2 (fun _ => rfl) ?_
    refine ev_irem rfl (by decide) ?_
    refine ev_seg (σ1 := ((d + 1), 172, 69, [some (.inr (.inr 86)), some (.inl x1), some (.inl (Int.tmod (w32 ((w32 (5 * x2)) + (U 87 x3.toNat))) 251)), some (.inl (w32 (x3 + 1))), none, none], [], (am_sh, am_mm U))) 3 (fun _ => rfl) ?_
    exact h2a
theorem st172_86_125 (kz : am_Z) (d : Nat) (x1 x2 x3 : Int) (U : Nat → Nat → Int) (R : Option am_V × am_M) (h : ((((U 87 3) ≤ x3 : Prop)) → ∃ (r1 : Int) (U1 : Nat → Nat → Int), Ev kz (d, 217, 0, [some (.inr (.inr 86)), some (.inl 1), none], [], (am_sh, am_mm U)) (some (.inl r1), (am_sh, am_mm U1)) ∧ (r1 = 0 ∨ r1 = 1) ∧ R = (some (.inl r1), (am_sh, am_mm U1))) ∧ (¬ ((U 87 3) ≤ x3) → ∃ (r2 : Int) (U2 : Nat → Nat → Int), Ev kz (d, 246, 0, [some (.inr (.inr 86)), some (.inl (w32 (4 + (w32 (5 * x3)))))], [], (am_sh, am_mm U)) (some (.inl r2), (am_sh, am_mm U2)) ∧ (((r2 = 0 : Prop)) → R = (some (.inl 0), (am_sh, am_mm U2))) ∧ (¬ (r2 = 0) → (((999999999 < r2 : Prop)) → R = (some (.inl 0), (am_sh, am_mm U2))) ∧ (¬ (999999999 < r2) → (((r2 < (-999999999) : Prop)) → R = (some (.inl 0), (am_sh, am_mm U2))) ∧ (¬ (r2 < (-999999999)) → (0 ≤ (w32 (8 + (w32 (5 * x3)))) ∧ (w32 (8 + (w32 (5 * x3)))) < 1800) ∧ (0 ≤ (U2 86 13) ∧ (U2 86 13) < 2) ∧ ((((U2 87 (w32 (8 + (w32 (5 * x3)))).toNat) ≤ (U2 90 (U2 86 13).toNat) : Prop)) → Ev kz ((d + 1), 172, 195, [some (.inr (.inr 86)), some (.inl x1), some (.inl x2), some (.inl x3), some (.inl r2), some (.inl 0)], [], (am_sh, am_mm U2)) R) ∧ (¬ ((U2 87 (w32 (8 + (w32 (5 * x3)))).toNat) ≤ (U2 90 (U2 86 13).toNat)) → R = (some (.inl 0), (am_sh, am_mm U2)))))))) : Ev kz ((d + 1), 172, 125, [some (.inr (.inr 86)), some (.inl x1), some (.inl x2), some (.inl x3), none, none], [], (am_sh, am_mm U)) R := by
  refine ev_seg (σ1 := ((d + 1), 172, 131, [some (.inr (.inr 86)), some (.inl x1), some (.inl x2), some (.inl x3), none, none], [.inl 3, .inr (.inr 87), .inl x3], (am_sh, am_mm U))) 4 (fun _ => rfl) ?_
  refine eu_iald 87 (n := 1800) rfl (by decide) rfl (fun _ => rfl) (by decide) ?_
  show Ev kz ((d + 1), 172, 132, [some (.inr (.inr 86)), some (.inl x1), some (.inl x2), some (.inl x3), none, none], [.inl (U 87 3), .inl x3], (am_sh, am_mm U)) R
  refine ev_br (P := (U 87 3) ≤ x3) (σ1 := ((d + 1), 172, 260, [some (.inr (.inr 86)), some (.inl x1), some (.inl x2), some (.inl x3), none, none], [], (am_sh, am_mm U))) (σ2 := ((d + 1), 172, 135, [some (.inr (.inr 86)), some (.inl x1), some (.inl x2), some (.inl x3), none, none], [], (am_sh, am_mm U))) 1 (fun _ => rfl) (fun hc => ?_) (fun hc => ?_)
  · have h1 := h.1 hc
    refine ev_seg (σ1 := ((d + 1), 172, 262, [some (.inr (.inr 86)), some (.inl x1), some (.inl x2), some (.inl x3), none, none], [.inl 1, .inr (.inr 86)], (am_sh, am_mm U))) 2 (fun _ => rfl) ?_
    obtain ⟨r1, U1, h1c, h1a⟩ := h1
    refine ev_cal (σc := (d, 217, 0, [some (.inr (.inr 86)), some (.inl 1), none], [], (am_sh, am_mm U))) (fun _ => rfl) h1c ?_
    show Ev kz ((d + 1), 172, 265, [some (.inr (.inr 86)), some (.inl x1), some (.inl x2), some (.inl x3), none, none], [.inl r1], (am_sh, am_mm U1)) R
    rw [h1a.2]
    exact ev_retz rfl rfl h1a.1
  · have h2 := h.2 hc
    refine ev_seg (σ1 := ((d + 1), 172, 141, [some (.inr (.inr 86)), some (.inl x1), some (.inl x2), some (.inl x3), none, none], [.inl (w32 (4 + (w32 (5 * x3)))), .inr (.inr 86)], (am_sh, am_mm U))) 6 (fun _ => rfl) ?_
    obtain ⟨r2, U2, h2c, h2a⟩ := h2
    refine ev_cal (σc := (d, 246, 0, [some (.inr (.inr 86)), some (.inl (w32 (4 + (w32 (5 * x3)))))], [], (am_sh, am_mm U))) (fun _ => rfl) h2c ?_
    show Ev kz ((d + 1), 172, 144, [some (.inr (.inr 86)), some (.inl x1), some (.inl x2), some (.inl x3), none, none], [.inl r2], (am_sh, am_mm U2)) R
    refine ev_br (P := r2 = 0) (σ1 := ((d + 1), 172, 190, [some (.inr (.inr 86)), some (.inl x1), some (.inl x2), some (.inl x3), some (.inl r2), none], [], (am_sh, am_mm U2))) (σ2 := ((d + 1), 172, 151, [some (.inr (.inr 86)), some (.inl x1), some (.inl x2), some (.inl x3), some (.inl r2), none], [], (am_sh, am_mm U2))) 3 (fun _ => rfl) (fun hc => ?_) (fun hc => ?_)
    · have h2a1 := h2a.1 hc
      subst h2a1
      exact ev_end 2 (fun _ => rfl)
    · have h2a2 := h2a.2 hc
      refine ev_br (P := 999999999 < r2) (σ1 := ((d + 1), 172, 190, [some (.inr (.inr 86)), some (.inl x1), some (.inl x2), some (.inl x3), some (.inl r2), none], [], (am_sh, am_mm U2))) (σ2 := ((d + 1), 172, 159, [some (.inr (.inr 86)), some (.inl x1), some (.inl x2), some (.inl x3), some (.inl r2), none], [], (am_sh, am_mm U2))) 3 (fun _ => rfl) (fun hc => ?_) (fun hc => ?_)
      · have h2a21 := h2a2.1 hc
        subst h2a21
        exact ev_end 2 (fun _ => rfl)
      · have h2a22 := h2a2.2 hc
        refine ev_br (P := r2 < (-999999999)) (σ1 := ((d + 1), 172, 190, [some (.inr (.inr 86)), some (.inl x1), some (.inl x2), some (.inl x3), some (.inl r2), none], [], (am_sh, am_mm U2))) (σ2 := ((d + 1), 172, 167, [some (.inr (.inr 86)), some (.inl x1), some (.inl x2), some (.inl x3), some (.inl r2), none], [], (am_sh, am_mm U2))) 3 (fun _ => rfl) (fun hc => ?_) (fun hc => ?_)
        · have h2a221 := h2a22.1 hc
          subst h2a221
          exact ev_end 2 (fun _ => rfl)
        · have h2a222 := h2a22.2 hc
          refine ev_seg (σ1 := ((d + 1), 172, 177, [some (.inr (.inr 86)), some (.inl x1), some (.inl x2), some (.inl x3), some (.inl r2), none], [.inl (w32 (8 + (w32 (5 * x3)))), .inr (.inr 87)], (am_sh, am_mm U2))) 7 (fun _ => rfl) ?_
          refine eu_iald 87 (n := 1800) rfl (by decide) rfl (fun _ => rfl) h2a222.1 ?_
          have h2a222a := h2a222.2
          refine ev_seg (σ1 := ((d + 1), 172, 186, [some (.inr (.inr 86)), some (.inl x1), some (.inl x2), some (.inl x3), some (.inl r2), none], [.inl (U2 86 13), .inr (.inr 90), .inl (U2 87 (w32 (8 + (w32 (5 * x3)))).toNat)], (am_sh, am_mm U2))) 4 (fun _ => rfl) ?_
          refine eu_iald 90 (n := 2) rfl (by decide) rfl (fun _ => rfl) h2a222a.1 ?_
          have h2a222aa := h2a222a.2
          refine ev_br (P := (U2 87 (w32 (8 + (w32 (5 * x3)))).toNat) ≤ (U2 90 (U2 86 13).toNat)) (σ1 := ((d + 1), 172, 192, [some (.inr (.inr 86)), some (.inl x1), some (.inl x2), some (.inl x3), some (.inl r2), none], [], (am_sh, am_mm U2))) (σ2 := ((d + 1), 172, 190, [some (.inr (.inr 86)), some (.inl x1), some (.inl x2), some (.inl x3), some (.inl r2), none], [], (am_sh, am_mm U2))) 1 (fun _ => rfl) (fun hc => ?_) (fun hc => ?_)
          · have h2a222aa1 := h2a222aa.1 hc
            refine ev_seg (σ1 := ((d + 1), 172, 195, [some (.inr (.inr 86)), some (.inl x1), some (.inl x2), some (.inl x3), some (.inl r2), some (.inl 0)], [], (am_sh, am_mm U2))) 2 (fun _ => rfl) ?_
            exact h2a222aa1
          · have h2a222aa2 := h2a222aa.2 hc
            subst h2a222aa2
            exact ev_end 2 (fun _ => rfl)
theorem st172_86_195 (kz : am_Z) (d : Nat) (x1 x2 x3 x4 x5 : Int) (U : Nat → Nat → Int) (R : Option am_V × am_M) (h : (((x3 ≤ x5 : Prop)) → (0 ≤ (w32 (16 + x3)) ∧ (w32 (16 + x3)) < 352) ∧ (0 ≤ (w32 (8 + (w32 (5 * x3)))) ∧ (w32 (8 + (w32 (5 * x3)))) < 1800) ∧ (0 ≤ (w32 (16 + x3)) ∧ (w32 (16 + x3)) < 352) ∧ Ev kz ((d + 1), 172, 125, [some (.inr (.inr 86)), some (.inl x1), some (.inl x2), some (.inl (w32 (x3 + 1))), some (.inl x4), some (.inl x5)], [], (am_sh, am_mm (am_upd (am_upd U 123 (w32 (16 + x3)).toNat x4) 124 (w32 (16 + x3)).toNat (w32 (((am_upd U 123 (w32 (16 + x3)).toNat x4) 87 (w32 (8 + (w32 (5 * x3)))).toNat) - 1))))) R) ∧ (¬ (x3 ≤ x5) → ∃ (r1 : Int) (U1 : Nat → Nat → Int), Ev kz (d, 203, 0, [some (.inr (.inr 86)), some (.inl 1), some (.inl x5)], [], (am_sh, am_mm U)) (some (.inl r1), (am_sh, am_mm U1)) ∧ (((¬ r1 = x4 : Prop)) → Ev kz ((d + 1), 172, 195, [some (.inr (.inr 86)), some (.inl x1), some (.inl x2), some (.inl x3), some (.inl x4), some (.inl (w32 (x5 + 1)))], [], (am_sh, am_mm U1)) R) ∧ (¬ (¬ r1 = x4) → R = (some (.inl 0), (am_sh, am_mm U1))))) : Ev kz ((d + 1), 172, 195, [some (.inr (.inr 86)), some (.inl x1), some (.inl x2), some (.inl x3), some (.inl x4), some (.inl x5)], [], (am_sh, am_mm U)) R := by
  refine ev_br (P := x3 ≤ x5) (σ1 := ((d + 1), 172, 221, [some (.inr (.inr 86)), some (.inl x1), some (.inl x2), some (.inl x3), some (.inl x4), some (.inl x5)], [], (am_sh, am_mm U))) (σ2 := ((d + 1), 172, 201, [some (.inr (.inr 86)), some (.inl x1), some (.inl x2), some (.inl x3), some (.inl x4), some (.inl x5)], [], (am_sh, am_mm U))) 3 (fun _ => rfl) (fun hc => ?_) (fun hc => ?_)
  · have h1 := h.1 hc
    refine ev_seg (σ1 := ((d + 1), 172, 231, [some (.inr (.inr 86)), some (.inl x1), some (.inl x2), some (.inl x3), some (.inl x4), some (.inl x5)], [.inl x4, .inl (w32 (16 + x3)), .inr (.inr 123)], (am_sh, am_mm U))) 6 (fun _ => rfl) ?_
    refine eu_iast 123 (n := 352) rfl (by decide) rfl (fun _ => rfl) h1.1 ?_
    have h1a := h1.2
    refine ev_seg (σ1 := ((d + 1), 172, 250, [some (.inr (.inr 86)), some (.inl x1), some (.inl x2), some (.inl x3), some (.inl x4), some (.inl x5)], [.inl (w32 (8 + (w32 (5 * x3)))), .inr (.inr 87), .inl (w32 (16 + x3)), .inr (.inr 124)], (am_sh, am_mm (am_upd U 123 (w32 (16 + x3)).toNat x4)))) 12 (fun _ => rfl) ?_
    refine eu_iald 87 (n := 1800) rfl (by decide) rfl (fun _ => rfl) h1a.1 ?_
    have h1aa := h1a.2
    refine ev_seg (σ1 := ((d + 1), 172, 253, [some (.inr (.inr 86)), some (.inl x1), some (.inl x2), some (.inl x3), some (.inl x4), some (.inl x5)], [.inl (w32 (((am_upd U 123 (w32 (16 + x3)).toNat x4) 87 (w32 (8 + (w32 (5 * x3)))).toNat) - 1)), .inl (w32 (16 + x3)), .inr (.inr 124)], (am_sh, am_mm (am_upd U 123 (w32 (16 + x3)).toNat x4)))) 2 (fun _ => rfl) ?_
    refine eu_iast 124 (n := 352) rfl (by decide) rfl (fun _ => rfl) h1aa.1 ?_
    have h1aaa := h1aa.2
    refine ev_seg (σ1 := ((d + 1), 172, 125, [some (.inr (.inr 86)), some (.inl x1), some (.inl x2), some (.inl (w32 (x3 + 1))), some (.inl x4), some (.inl x5)], [], (am_sh, am_mm (am_upd (am_upd U 123 (w32 (16 + x3)).toNat x4) 124 (w32 (16 + x3)).toNat (w32 (((am_upd U 123 (w32 (16 + x3)).toNat x4) 87 (w32 (8 + (w32 (5 * x3)))).toNat) - 1)))))) 2 (fun _ => rfl) ?_
    exact h1aaa
  · have h2 := h.2 hc
    refine ev_seg (σ1 := ((d + 1), 172, 205, [some (.inr (.inr 86)), some (.inl x1), some (.inl x2), some (.inl x3), some (.inl x4), some (.inl x5)], [.inl x5, .inl 1, .inr (.inr 86)], (am_sh, am_mm U))) 3 (fun _ => rfl) ?_
    obtain ⟨r1, U1, h2c, h2a⟩ := h2
    refine ev_cal (σc := (d, 203, 0, [some (.inr (.inr 86)), some (.inl 1), some (.inl x5)], [], (am_sh, am_mm U))) (fun _ => rfl) h2c ?_
    show Ev kz ((d + 1), 172, 208, [some (.inr (.inr 86)), some (.inl x1), some (.inl x2), some (.inl x3), some (.inl x4), some (.inl x5)], [.inl r1], (am_sh, am_mm U1)) R
    refine ev_br (P := ¬ r1 = x4) (σ1 := ((d + 1), 172, 215, [some (.inr (.inr 86)), some (.inl x1), some (.inl x2), some (.inl x3), some (.inl x4), some (.inl x5)], [], (am_sh, am_mm U1))) (σ2 := ((d + 1), 172, 213, [some (.inr (.inr 86)), some (.inl x1), some (.inl x2), some (.inl x3), some (.inl x4), some (.inl x5)], [], (am_sh, am_mm U1))) 2 (fun _ => rfl) (fun hc => ?_) (fun hc => ?_)
    · have h2a1 := h2a.1 hc
      refine ev_seg (σ1 := ((d + 1), 172, 195, [some (.inr (.inr 86)), some (.inl x1), some (.inl x2), some (.inl x3), some (.inl x4), some (.inl (w32 (x5 + 1)))], [], (am_sh, am_mm U1))) 2 (fun _ => rfl) ?_
      exact h2a1
    · have h2a2 := h2a.2 hc
      subst h2a2
      exact ev_end 2 (fun _ => rfl)
theorem st176_21_0 (kz : am_Z) (d : Nat) (U : Nat → Nat → Int) (R : Option am_V × am_M) (h : ∃ U1 : Nat → Nat → Int, Ev kz (d, 211, 0, [some (.inr (.inr 24)), some (.inl 0), none, none], [], (am_sh, am_mm (am_upd (am_upd (am_upd U 21 0 0) 21 1 0) 21 2 0))) (none, (am_sh, am_mm U1)) ∧ R = (none, (am_sh, am_mm U1))) : Ev kz ((d + 1), 176, 0, [some (.inr (.inr 21))], [], (am_sh, am_mm U)) R := by
  refine ev_seg (σ1 := ((d + 1), 176, 2, [some (.inr (.inr 21))], [.inl 0, .inr (.inr 21)], (am_sh, am_mm U))) 2 (fun _ => rfl) ?_
  refine eu_puti 21 (n := 7) rfl (by decide) rfl rfl ?_
  refine ev_seg (σ1 := ((d + 1), 176, 7, [some (.inr (.inr 21))], [.inl 0, .inr (.inr 21)], (am_sh, am_mm (am_upd U 21 0 0)))) 2 (fun _ => rfl) ?_
  refine eu_puti 21 (n := 7) rfl (by decide) rfl rfl ?_
  refine ev_seg (σ1 := ((d + 1), 176, 12, [some (.inr (.inr 21))], [.inl 0, .inr (.inr 21)], (am_sh, am_mm (am_upd (am_upd U 21 0 0) 21 1 0)))) 2 (fun _ => rfl) ?_
  refine eu_putz 21 (n := 7) rfl (by decide) rfl rfl (by decide) ?_
  refine ev_seg (σ1 := ((d + 1), 176, 20, [some (.inr (.inr 21))], [.inl 0, .inr (.inr 24)], (am_sh, am_mm (am_upd (am_upd (am_upd U 21 0 0) 21 1 0) 21 2 0)))) 3 (fun _ => rfl) ?_
  obtain ⟨U1, hc, ha⟩ := h
  refine ev_cal (σc := (d, 211, 0, [some (.inr (.inr 24)), some (.inl 0), none, none], [], (am_sh, am_mm (am_upd (am_upd (am_upd U 21 0 0) 21 1 0) 21 2 0)))) (fun _ => rfl) hc ?_
  show Ev kz ((d + 1), 176, 23, [some (.inr (.inr 21))], [], (am_sh, am_mm U1)) R
  subst ha
  exact ev_end 1 (fun _ => rfl)
theorem st174_27_2_0 (kz : am_Z) (d : Nat) (x2 : Int) (U : Nat → Nat → Int) (R : Option am_V × am_M) (h : Ev kz ((d + 1), 174, 20, [some (.inr (.inr 27)), some (.inr (.inr 2)), some (.inl x2), some (.inl 0), some (.inl 0)], [], (am_sh, am_mm (am_upd (am_upd (am_upd U 27 3 0) 27 4 x2) 27 5 (-1)))) R) : Ev kz ((d + 1), 174, 0, [some (.inr (.inr 27)), some (.inr (.inr 2)), some (.inl x2), none, none], [], (am_sh, am_mm U)) R := by
  refine ev_seg (σ1 := ((d + 1), 174, 2, [some (.inr (.inr 27)), some (.inr (.inr 2)), some (.inl x2), none, none], [.inl 0, .inr (.inr 27)], (am_sh, am_mm U))) 2 (fun _ => rfl) ?_
  refine eu_puti 27 (n := 6) rfl (by decide) rfl rfl ?_
  refine ev_seg (σ1 := ((d + 1), 174, 7, [some (.inr (.inr 27)), some (.inr (.inr 2)), some (.inl x2), none, none], [.inl x2, .inr (.inr 27)], (am_sh, am_mm (am_upd U 27 3 0)))) 2 (fun _ => rfl) ?_
  refine eu_puti 27 (n := 6) rfl (by decide) rfl rfl ?_
  refine ev_seg (σ1 := ((d + 1), 174, 12, [some (.inr (.inr 27)), some (.inr (.inr 2)), some (.inl x2), none, none], [.inl (-1), .inr (.inr 27)], (am_sh, am_mm (am_upd (am_upd U 27 3 0) 27 4 x2)))) 2 (fun _ => rfl) ?_
  refine eu_puti 27 (n := 6) rfl (by decide) rfl rfl ?_
  refine ev_seg (σ1 := ((d + 1), 174, 20, [some (.inr (.inr 27)), some (.inr (.inr 2)), some (.inl x2), some (.inl 0), some (.inl 0)], [], (am_sh, am_mm (am_upd (am_upd (am_upd U 27 3 0) 27 4 x2) 27 5 (-1))))) 4 (fun _ => rfl) ?_
  exact h
theorem st174_27_2_20 (kz : am_Z) (d : Nat) (x2 x3 x4 : Int) (U : Nat → Nat → Int) (R : Option am_V × am_M) (h : (((x2 ≤ x4 : Prop)) → ∃ U1 : Nat → Nat → Int, Ev kz (d, 248, 0, [some (.inr (.inr 27)), some (.inl 0), some (.inl 0), some (.inl x2)], [], (am_sh, am_mm U)) (none, (am_sh, am_mm U1)) ∧ R = (none, (am_sh, am_mm U1))) ∧ (¬ (x2 ≤ x4) → (((x2 ≤ x3 : Prop)) → ∃ U2 : Nat → Nat → Int, Ev kz (d, 248, 0, [some (.inr (.inr 27)), some (.inl 0), some (.inl 0), some (.inl x2)], [], (am_sh, am_mm U)) (none, (am_sh, am_mm U2)) ∧ R = (none, (am_sh, am_mm U2))) ∧ (¬ (x2 ≤ x3) → ∃ (r3 : Int) (U3 : Nat → Nat → Int), Ev kz (d, 247, 0, [some (.inr (.inr 27)), some (.inr (.inr 2)), some (.inl x2), some (.inl x3), none], [], (am_sh, am_mm U)) (some (.inl r3), (am_sh, am_mm U3)) ∧ Ev kz ((d + 1), 174, 20, [some (.inr (.inr 27)), some (.inr (.inr 2)), some (.inl x2), some (.inl r3), some (.inl (w32 (x4 + 1)))], [], (am_sh, am_mm U3)) R))) : Ev kz ((d + 1), 174, 20, [some (.inr (.inr 27)), some (.inr (.inr 2)), some (.inl x2), some (.inl x3), some (.inl x4)], [], (am_sh, am_mm U)) R := by
  refine ev_br (P := x2 ≤ x4) (σ1 := ((d + 1), 174, 45, [some (.inr (.inr 27)), some (.inr (.inr 2)), some (.inl x2), some (.inl x3), some (.inl x4)], [], (am_sh, am_mm U))) (σ2 := ((d + 1), 174, 26, [some (.inr (.inr 27)), some (.inr (.inr 2)), some (.inl x2), some (.inl x3), some (.inl x4)], [], (am_sh, am_mm U))) 3 (fun _ => rfl) (fun hc => ?_) (fun hc => ?_)
  · have h1 := h.1 hc
    refine ev_seg (σ1 := ((d + 1), 174, 49, [some (.inr (.inr 27)), some (.inr (.inr 2)), some (.inl x2), some (.inl x3), some (.inl x4)], [.inl x2, .inl 0, .inl 0, .inr (.inr 27)], (am_sh, am_mm U))) 4 (fun _ => rfl) ?_
    obtain ⟨U1, h1c, h1a⟩ := h1
    refine ev_cal (σc := (d, 248, 0, [some (.inr (.inr 27)), some (.inl 0), some (.inl 0), some (.inl x2)], [], (am_sh, am_mm U))) (fun _ => rfl) h1c ?_
    show Ev kz ((d + 1), 174, 52, [some (.inr (.inr 27)), some (.inr (.inr 2)), some (.inl x2), some (.inl x3), some (.inl x4)], [], (am_sh, am_mm U1)) R
    subst h1a
    exact ev_end 1 (fun _ => rfl)
  · have h2 := h.2 hc
    refine ev_br (P := x2 ≤ x3) (σ1 := ((d + 1), 174, 45, [some (.inr (.inr 27)), some (.inr (.inr 2)), some (.inl x2), some (.inl x3), some (.inl x4)], [], (am_sh, am_mm U))) (σ2 := ((d + 1), 174, 31, [some (.inr (.inr 27)), some (.inr (.inr 2)), some (.inl x2), some (.inl x3), some (.inl x4)], [], (am_sh, am_mm U))) 3 (fun _ => rfl) (fun hc => ?_) (fun hc => ?_)
    · have h21 := h2.1 hc
      refine ev_seg (σ1 := ((d + 1), 174, 49, [some (.inr (.inr 27)), some (.inr (.inr 2)), some (.inl x2), some (.inl x3), some (.inl x4)], [.inl x2, .inl 0, .inl 0, .inr (.inr 27)], (am_sh, am_mm U))) 4 (fun _ => rfl) ?_
      obtain ⟨U2, h21c, h21a⟩ := h21
      refine ev_cal (σc := (d, 248, 0, [some (.inr (.inr 27)), some (.inl 0), some (.inl 0), some (.inl x2)], [], (am_sh, am_mm U))) (fun _ => rfl) h21c ?_
      show Ev kz ((d + 1), 174, 52, [some (.inr (.inr 27)), some (.inr (.inr 2)), some (.inl x2), some (.inl x3), some (.inl x4)], [], (am_sh, am_mm U2)) R
      subst h21a
      exact ev_end 1 (fun _ => rfl)
    · have h22 := h2.2 hc
      refine ev_seg (σ1 := ((d + 1), 174, 35, [some (.inr (.inr 27)), some (.inr (.inr 2)), some (.inl x2), some (.inl x3), some (.inl x4)], [.inl x3, .inl x2, .inr (.inr 2), .inr (.inr 27)], (am_sh, am_mm U))) 4 (fun _ => rfl) ?_
      obtain ⟨r3, U3, h22c, h22a⟩ := h22
      refine ev_cal (σc := (d, 247, 0, [some (.inr (.inr 27)), some (.inr (.inr 2)), some (.inl x2), some (.inl x3), none], [], (am_sh, am_mm U))) (fun _ => rfl) h22c ?_
      show Ev kz ((d + 1), 174, 38, [some (.inr (.inr 27)), some (.inr (.inr 2)), some (.inl x2), some (.inl x3), some (.inl x4)], [.inl r3], (am_sh, am_mm U3)) R
      refine ev_seg (σ1 := ((d + 1), 174, 20, [some (.inr (.inr 27)), some (.inr (.inr 2)), some (.inl x2), some (.inl r3), some (.inl (w32 (x4 + 1)))], [], (am_sh, am_mm U3))) 3 (fun _ => rfl) ?_
      exact h22a
theorem st175_31_0 (kz : am_Z) (d : Nat) (U : Nat → Nat → Int) (R : Option am_V × am_M) (h : R = (none, (am_sh, am_mm (am_upd (am_upd (am_upd (am_upd (am_upd (am_upd (am_upd (am_upd (am_upd U 31 0 0) 31 1 0) 31 2 0) 31 3 0) 31 4 0) 31 5 0) 31 18 0) 41 8 0) 42 8 0)))) : Ev kz (d, 175, 0, [some (.inr (.inr 31))], [], (am_sh, am_mm U)) R := by
  refine ev_seg (σ1 := (d, 175, 2, [some (.inr (.inr 31))], [.inl 0, .inr (.inr 31)], (am_sh, am_mm U))) 2 (fun _ => rfl) ?_
  refine eu_puti 31 (n := 19) rfl (by decide) rfl rfl ?_
  refine ev_seg (σ1 := (d, 175, 7, [some (.inr (.inr 31))], [.inl 0, .inr (.inr 31)], (am_sh, am_mm (am_upd U 31 0 0)))) 2 (fun _ => rfl) ?_
  refine eu_puti 31 (n := 19) rfl (by decide) rfl rfl ?_
  refine ev_seg (σ1 := (d, 175, 12, [some (.inr (.inr 31))], [.inl 0, .inr (.inr 31)], (am_sh, am_mm (am_upd (am_upd U 31 0 0) 31 1 0)))) 2 (fun _ => rfl) ?_
  refine eu_puti 31 (n := 19) rfl (by decide) rfl rfl ?_
  refine ev_seg (σ1 := (d, 175, 17, [some (.inr (.inr 31))], [.inl 0, .inr (.inr 31)], (am_sh, am_mm (am_upd (am_upd (am_upd U 31 0 0) 31 1 0) 31 2 0)))) 2 (fun _ => rfl) ?_
  refine eu_puti 31 (n := 19) rfl (by decide) rfl rfl ?_
  refine ev_seg (σ1 := (d, 175, 22, [some (.inr (.inr 31))], [.inl 0, .inr (.inr 31)], (am_sh, am_mm (am_upd (am_upd (am_upd (am_upd U 31 0 0) 31 1 0) 31 2 0) 31 3 0)))) 2 (fun _ => rfl) ?_
  refine eu_puti 31 (n := 19) rfl (by decide) rfl rfl ?_
  refine ev_seg (σ1 := (d, 175, 27, [some (.inr (.inr 31))], [.inl 0, .inr (.inr 31)], (am_sh, am_mm (am_upd (am_upd (am_upd (am_upd (am_upd U 31 0 0) 31 1 0) 31 2 0) 31 3 0) 31 4 0)))) 2 (fun _ => rfl) ?_
  refine eu_puti 31 (n := 19) rfl (by decide) rfl rfl ?_
  refine ev_seg (σ1 := (d, 175, 32, [some (.inr (.inr 31))], [.inl 0, .inr (.inr 31)], (am_sh, am_mm (am_upd (am_upd (am_upd (am_upd (am_upd (am_upd U 31 0 0) 31 1 0) 31 2 0) 31 3 0) 31 4 0) 31 5 0)))) 2 (fun _ => rfl) ?_
  refine eu_puti 31 (n := 19) rfl (by decide) rfl rfl ?_
  refine ev_seg (σ1 := (d, 175, 42, [some (.inr (.inr 31))], [.inl 0, .inl 8, .inr (.inr 41)], (am_sh, am_mm (am_upd (am_upd (am_upd (am_upd (am_upd (am_upd (am_upd U 31 0 0) 31 1 0) 31 2 0) 31 3 0) 31 4 0) 31 5 0) 31 18 0)))) 4 (fun _ => rfl) ?_
  refine eu_iast 41 (n := 9) rfl (by decide) rfl (fun _ => rfl) (by decide) ?_
  show Ev kz (d, 175, 43, [some (.inr (.inr 31))], [], (am_sh, am_mm (am_upd (am_upd (am_upd (am_upd (am_upd (am_upd (am_upd (am_upd U 31 0 0) 31 1 0) 31 2 0) 31 3 0) 31 4 0) 31 5 0) 31 18 0) 41 8 0))) R
  refine ev_seg (σ1 := (d, 175, 50, [some (.inr (.inr 31))], [.inl 0, .inl 8, .inr (.inr 42)], (am_sh, am_mm (am_upd (am_upd (am_upd (am_upd (am_upd (am_upd (am_upd (am_upd U 31 0 0) 31 1 0) 31 2 0) 31 3 0) 31 4 0) 31 5 0) 31 18 0) 41 8 0)))) 4 (fun _ => rfl) ?_
  refine eu_iast 42 (n := 9) rfl (by decide) rfl (fun _ => rfl) (by decide) ?_
  show Ev kz (d, 175, 51, [some (.inr (.inr 31))], [], (am_sh, am_mm (am_upd (am_upd (am_upd (am_upd (am_upd (am_upd (am_upd (am_upd (am_upd U 31 0 0) 31 1 0) 31 2 0) 31 3 0) 31 4 0) 31 5 0) 31 18 0) 41 8 0) 42 8 0))) R
  subst h
  exact ev_end 1 (fun _ => rfl)
theorem st177_26_0 (kz : am_Z) (d : Nat) (U : Nat → Nat → Int) (R : Option am_V × am_M) (h : ((((U 27 3) ≤ (w32 ((U 26 6) + 1)) : Prop)) → R = (none, (am_sh, am_mm U))) ∧ (¬ ((U 27 3) ≤ (w32 ((U 26 6) + 1))) → (((1601 ≤ (w32 ((U 26 6) + 1)) : Prop)) → R = (none, (am_sh, am_mm U))) ∧ (¬ (1601 ≤ (w32 ((U 26 6) + 1))) → (0 ≤ ((am_upd U 26 6 (w32 ((U 26 6) + 1))) 26 6) ∧ ((am_upd U 26 6 (w32 ((U 26 6) + 1))) 26 6) < 1601) ∧ (0 ≤ ((am_upd (am_upd U 26 6 (w32 ((U 26 6) + 1))) 26 7 ((am_upd U 26 6 (w32 ((U 26 6) + 1))) 28 ((am_upd U 26 6 (w32 ((U 26 6) + 1))) 26 6).toNat)) 26 6) ∧ ((am_upd (am_upd U 26 6 (w32 ((U 26 6) + 1))) 26 7 ((am_upd U 26 6 (w32 ((U 26 6) + 1))) 28 ((am_upd U 26 6 (w32 ((U 26 6) + 1))) 26 6).toNat)) 26 6) < 1601) ∧ (0 ≤ ((am_upd (am_upd (am_upd U 26 6 (w32 ((U 26 6) + 1))) 26 7 ((am_upd U 26 6 (w32 ((U 26 6) + 1))) 28 ((am_upd U 26 6 (w32 ((U 26 6) + 1))) 26 6).toNat)) 26 8 ((am_upd (am_upd U 26 6 (w32 ((U 26 6) + 1))) 26 7 ((am_upd U 26 6 (w32 ((U 26 6) + 1))) 28 ((am_upd U 26 6 (w32 ((U 26 6) + 1))) 26 6).toNat)) 29 ((am_upd (am_upd U 26 6 (w32 ((U 26 6) + 1))) 26 7 ((am_upd U 26 6 (w32 ((U 26 6) + 1))) 28 ((am_upd U 26 6 (w32 ((U 26 6) + 1))) 26 6).toNat)) 26 6).toNat)) 26 6) ∧ ((am_upd (am_upd (am_upd U 26 6 (w32 ((U 26 6) + 1))) 26 7 ((am_upd U 26 6 (w32 ((U 26 6) + 1))) 28 ((am_upd U 26 6 (w32 ((U 26 6) + 1))) 26 6).toNat)) 26 8 ((am_upd (am_upd U 26 6 (w32 ((U 26 6) + 1))) 26 7 ((am_upd U 26 6 (w32 ((U 26 6) + 1))) 28 ((am_upd U 26 6 (w32 ((U 26 6) + 1))) 26 6).toNat)) 29 ((am_upd (am_upd U 26 6 (w32 ((U 26 6) + 1))) 26 7 ((am_upd U 26 6 (w32 ((U 26 6) + 1))) 28 ((am_upd U 26 6 (w32 ((U 26 6) + 1))) 26 6).toNat)) 26 6).toNat)) 26 6) < 1601) ∧ R = (none, (am_sh, am_mm (am_upd (am_upd (am_upd (am_upd U 26 6 (w32 ((U 26 6) + 1))) 26 7 ((am_upd U 26 6 (w32 ((U 26 6) + 1))) 28 ((am_upd U 26 6 (w32 ((U 26 6) + 1))) 26 6).toNat)) 26 8 ((am_upd (am_upd U 26 6 (w32 ((U 26 6) + 1))) 26 7 ((am_upd U 26 6 (w32 ((U 26 6) + 1))) 28 ((am_upd U 26 6 (w32 ((U 26 6) + 1))) 26 6).toNat)) 29 ((am_upd (am_upd U 26 6 (w32 ((U 26 6) + 1))) 26 7 ((am_upd U 26 6 (w32 ((U 26 6) + 1))) 28 ((am_upd U 26 6 (w32 ((U 26 6) + 1))) 26 6).toNat)) 26 6).toNat)) 26 9 ((am_upd (am_upd (am_upd U 26 6 (w32 ((U 26 6) + 1))) 26 7 ((am_upd U 26 6 (w32 ((U 26 6) + 1))) 28 ((am_upd U 26 6 (w32 ((U 26 6) + 1))) 26 6).toNat)) 26 8 ((am_upd (am_upd U 26 6 (w32 ((U 26 6) + 1))) 26 7 ((am_upd U 26 6 (w32 ((U 26 6) + 1))) 28 ((am_upd U 26 6 (w32 ((U 26 6) + 1))) 26 6).toNat)) 29 ((am_upd (am_upd U 26 6 (w32 ((U 26 6) + 1))) 26 7 ((am_upd U 26 6 (w32 ((U 26 6) + 1))) 28 ((am_upd U 26 6 (w32 ((U 26 6) + 1))) 26 6).toNat)) 26 6).toNat)) 30 ((am_upd (am_upd (am_upd U 26 6 (w32 ((U 26 6) + 1))) 26 7 ((am_upd U 26 6 (w32 ((U 26 6) + 1))) 28 ((am_upd U 26 6 (w32 ((U 26 6) + 1))) 26 6).toNat)) 26 8 ((am_upd (am_upd U 26 6 (w32 ((U 26 6) + 1))) 26 7 ((am_upd U 26 6 (w32 ((U 26 6) + 1))) 28 ((am_upd U 26 6 (w32 ((U 26 6) + 1))) 26 6).toNat)) 29 ((am_upd (am_upd U 26 6 (w32 ((U 26 6) + 1))) 26 7 ((am_upd U 26 6 (w32 ((U 26 6) + 1))) 28 ((am_upd U 26 6 (w32 ((U 26 6) + 1))) 26 6).toNat)) 26 6).toNat)) 26 6).toNat))))))) : Ev kz (d, 177, 0, [some (.inr (.inr 26))], [], (am_sh, am_mm U)) R := by
  refine ev_br (P := (U 27 3) ≤ (w32 ((U 26 6) + 1))) (σ1 := (d, 177, 91, [some (.inr (.inr 26))], [], (am_sh, am_mm U))) (σ2 := (d, 177, 16, [some (.inr (.inr 26))], [], (am_sh, am_mm U))) 8 (fun _ => rfl) (fun hc => ?_) (fun hc => ?_)
  · have h1 := h.1 hc
    subst h1
    exact ev_end 1 (fun _ => rfl)
  · have h2 := h.2 hc
    refine ev_br (P := 1601 ≤ (w32 ((U 26 6) + 1))) (σ1 := (d, 177, 91, [some (.inr (.inr 26))], [], (am_sh, am_mm U))) (σ2 := (d, 177, 33, [some (.inr (.inr 26))], [], (am_sh, am_mm U))) 9 (fun _ => rfl) (fun hc => ?_) (fun hc => ?_)
    · have h21 := h2.1 hc
      subst h21
      exact ev_end 1 (fun _ => rfl)
    · have h22 := h2.2 hc
      refine ev_seg (σ1 := (d, 177, 40, [some (.inr (.inr 26))], [.inl (w32 ((U 26 6) + 1)), .inr (.inr 26)], (am_sh, am_mm U))) 5 (fun _ => rfl) ?_
      refine eu_puti 26 (n := 12) rfl (by decide) rfl rfl ?_
      refine ev_seg (σ1 := (d, 177, 55, [some (.inr (.inr 26))], [.inl ((am_upd U 26 6 (w32 ((U 26 6) + 1))) 26 6), .inr (.inr 28), .inr (.inr 26)], (am_sh, am_mm (am_upd U 26 6 (w32 ((U 26 6) + 1)))))) 6 (fun _ => rfl) ?_
      refine eu_iald 28 (n := 1601) rfl (by decide) rfl (fun _ => rfl) h22.1 ?_
      have h22a := h22.2
      refine eu_puti 26 (n := 12) rfl (by decide) rfl rfl ?_
      refine ev_seg (σ1 := (d, 177, 71, [some (.inr (.inr 26))], [.inl ((am_upd (am_upd U 26 6 (w32 ((U 26 6) + 1))) 26 7 ((am_upd U 26 6 (w32 ((U 26 6) + 1))) 28 ((am_upd U 26 6 (w32 ((U 26 6) + 1))) 26 6).toNat)) 26 6), .inr (.inr 29), .inr (.inr 26)], (am_sh, am_mm (am_upd (am_upd U 26 6 (w32 ((U 26 6) + 1))) 26 7 ((am_upd U 26 6 (w32 ((U 26 6) + 1))) 28 ((am_upd U 26 6 (w32 ((U 26 6) + 1))) 26 6).toNat))))) 6 (fun _ => rfl) ?_
      refine eu_iald 29 (n := 1601) rfl (by decide) rfl (fun _ => rfl) h22a.1 ?_
      have h22aa := h22a.2
      refine eu_puti 26 (n := 12) rfl (by decide) rfl rfl ?_
      refine ev_seg (σ1 := (d, 177, 87, [some (.inr (.inr 26))], [.inl ((am_upd (am_upd (am_upd U 26 6 (w32 ((U 26 6) + 1))) 26 7 ((am_upd U 26 6 (w32 ((U 26 6) + 1))) 28 ((am_upd U 26 6 (w32 ((U 26 6) + 1))) 26 6).toNat)) 26 8 ((am_upd (am_upd U 26 6 (w32 ((U 26 6) + 1))) 26 7 ((am_upd U 26 6 (w32 ((U 26 6) + 1))) 28 ((am_upd U 26 6 (w32 ((U 26 6) + 1))) 26 6).toNat)) 29 ((am_upd (am_upd U 26 6 (w32 ((U 26 6) + 1))) 26 7 ((am_upd U 26 6 (w32 ((U 26 6) + 1))) 28 ((am_upd U 26 6 (w32 ((U 26 6) + 1))) 26 6).toNat)) 26 6).toNat)) 26 6), .inr (.inr 30), .inr (.inr 26)], (am_sh, am_mm (am_upd (am_upd (am_upd U 26 6 (w32 ((U 26 6) + 1))) 26 7 ((am_upd U 26 6 (w32 ((U 26 6) + 1))) 28 ((am_upd U 26 6 (w32 ((U 26 6) + 1))) 26 6).toNat)) 26 8 ((am_upd (am_upd U 26 6 (w32 ((U 26 6) + 1))) 26 7 ((am_upd U 26 6 (w32 ((U 26 6) + 1))) 28 ((am_upd U 26 6 (w32 ((U 26 6) + 1))) 26 6).toNat)) 29 ((am_upd (am_upd U 26 6 (w32 ((U 26 6) + 1))) 26 7 ((am_upd U 26 6 (w32 ((U 26 6) + 1))) 28 ((am_upd U 26 6 (w32 ((U 26 6) + 1))) 26 6).toNat)) 26 6).toNat))))) 6 (fun _ => rfl) ?_
      refine eu_iald 30 (n := 1601) rfl (by decide) rfl (fun _ => rfl) h22aa.1 ?_
      have h22aaa := h22aa.2
      refine eu_puti 26 (n := 12) rfl (by decide) rfl rfl ?_
      subst h22aaa
      exact ev_end 1 (fun _ => rfl)
theorem st180_16_0 (kz : am_Z) (d : Nat) (x1 x2 : Int) (U : Nat → Nat → Int) (R : Option am_V × am_M) (h : ((((U 16 0) < 16 : Prop)) → (0 ≤ (U 16 0) ∧ (U 16 0) < 16) ∧ ((((U 17 (U 16 0).toNat) = x1 : Prop)) → (0 ≤ (U 16 0) ∧ (U 16 0) < 16) ∧ ∃ U1 : Nat → Nat → Int, Ev kz (d, 138, 0, [some (.inr (.inr 16)), some (.inl (w32 (((am_upd (am_upd U 18 (U 16 0).toNat (-1)) 16 0 (w32 (((am_upd U 18 (U 16 0).toNat (-1)) 16 0) + 1))) 16 0) - 1))), some (.inl x2), none], [], (am_sh, am_mm (am_upd (am_upd U 18 (U 16 0).toNat (-1)) 16 0 (w32 (((am_upd U 18 (U 16 0).toNat (-1)) 16 0) + 1))))) (none, (am_sh, am_mm U1)) ∧ R = (none, (am_sh, am_mm U1))) ∧ (¬ ((U 17 (U 16 0).toNat) = x1) → (0 ≤ (U 16 0) ∧ (U 16 0) < 16) ∧ (0 ≤ ((am_upd U 17 (U 16 0).toNat x1) 16 0) ∧ ((am_upd U 17 (U 16 0).toNat x1) 16 0) < 16) ∧ (0 ≤ ((am_upd (am_upd U 17 (U 16 0).toNat x1) 20 ((am_upd U 17 (U 16 0).toNat x1) 16 0).toNat (-1)) 16 0) ∧ ((am_upd (am_upd U 17 (U 16 0).toNat x1) 20 ((am_upd U 17 (U 16 0).toNat x1) 16 0).toNat (-1)) 16 0) < 16) ∧ ∃ U2 : Nat → Nat → Int, Ev kz (d, 138, 0, [some (.inr (.inr 16)), some (.inl (w32 (((am_upd (am_upd (am_upd (am_upd U 17 (U 16 0).toNat x1) 20 ((am_upd U 17 (U 16 0).toNat x1) 16 0).toNat (-1)) 18 ((am_upd (am_upd U 17 (U 16 0).toNat x1) 20 ((am_upd U 17 (U 16 0).toNat x1) 16 0).toNat (-1)) 16 0).toNat (-1)) 16 0 (w32 (((am_upd (am_upd (am_upd U 17 (U 16 0).toNat x1) 20 ((am_upd U 17 (U 16 0).toNat x1) 16 0).toNat (-1)) 18 ((am_upd (am_upd U 17 (U 16 0).toNat x1) 20 ((am_upd U 17 (U 16 0).toNat x1) 16 0).toNat (-1)) 16 0).toNat (-1)) 16 0) + 1))) 16 0) - 1))), some (.inl x2), none], [], (am_sh, am_mm (am_upd (am_upd (am_upd (am_upd U 17 (U 16 0).toNat x1) 20 ((am_upd U 17 (U 16 0).toNat x1) 16 0).toNat (-1)) 18 ((am_upd (am_upd U 17 (U 16 0).toNat x1) 20 ((am_upd U 17 (U 16 0).toNat x1) 16 0).toNat (-1)) 16 0).toNat (-1)) 16 0 (w32 (((am_upd (am_upd (am_upd U 17 (U 16 0).toNat x1) 20 ((am_upd U 17 (U 16 0).toNat x1) 16 0).toNat (-1)) 18 ((am_upd (am_upd U 17 (U 16 0).toNat x1) 20 ((am_upd U 17 (U 16 0).toNat x1) 16 0).toNat (-1)) 16 0).toNat (-1)) 16 0) + 1))))) (none, (am_sh, am_mm U2)) ∧ R = (none, (am_sh, am_mm U2)))) ∧ (¬ ((U 16 0) < 16) → R = (none, (am_sh, am_mm U)))) : Ev kz ((d + 1), 180, 0, [some (.inr (.inr 16)), some (.inl x1), some (.inl x2)], [], (am_sh, am_mm U)) R := by
  refine ev_br (P := (U 16 0) < 16) (σ1 := ((d + 1), 180, 10, [some (.inr (.inr 16)), some (.inl x1), some (.inl x2)], [], (am_sh, am_mm U))) (σ2 := ((d + 1), 180, 9, [some (.inr (.inr 16)), some (.inl x1), some (.inl x2)], [], (am_sh, am_mm U))) 4 (fun _ => rfl) (fun hc => ?_) (fun hc => ?_)
  · have h1 := h.1 hc
    refine ev_seg (σ1 := ((d + 1), 180, 18, [some (.inr (.inr 16)), some (.inl x1), some (.inl x2)], [.inl (U 16 0), .inr (.inr 17)], (am_sh, am_mm U))) 4 (fun _ => rfl) ?_
    refine eu_iald 17 (n := 16) rfl (by decide) rfl (fun _ => rfl) h1.1 ?_
    have h1a := h1.2
    refine ev_br (P := (U 17 (U 16 0).toNat) = x1) (σ1 := ((d + 1), 180, 45, [some (.inr (.inr 16)), some (.inl x1), some (.inl x2)], [], (am_sh, am_mm U))) (σ2 := ((d + 1), 180, 23, [some (.inr (.inr 16)), some (.inl x1), some (.inl x2)], [], (am_sh, am_mm U))) 2 (fun _ => rfl) (fun hc => ?_) (fun hc => ?_)
    · have h1a1 := h1a.1 hc
      refine ev_seg (σ1 := ((d + 1), 180, 54, [some (.inr (.inr 16)), some (.inl x1), some (.inl x2)], [.inl (-1), .inl (U 16 0), .inr (.inr 18)], (am_sh, am_mm U))) 5 (fun _ => rfl) ?_
      refine eu_iast 18 (n := 16) rfl (by decide) rfl (fun _ => rfl) h1a1.1 ?_
      have h1a1a := h1a1.2
      refine ev_seg (σ1 := ((d + 1), 180, 62, [some (.inr (.inr 16)), some (.inl x1), some (.inl x2)], [.inl (w32 (((am_upd U 18 (U 16 0).toNat (-1)) 16 0) + 1)), .inr (.inr 16)], (am_sh, am_mm (am_upd U 18 (U 16 0).toNat (-1))))) 5 (fun _ => rfl) ?_
      refine eu_puti 16 (n := 7) rfl (by decide) rfl rfl ?_
      refine ev_seg (σ1 := ((d + 1), 180, 73, [some (.inr (.inr 16)), some (.inl x1), some (.inl x2)], [.inl x2, .inl (w32 (((am_upd (am_upd U 18 (U 16 0).toNat (-1)) 16 0 (w32 (((am_upd U 18 (U 16 0).toNat (-1)) 16 0) + 1))) 16 0) - 1)), .inr (.inr 16)], (am_sh, am_mm (am_upd (am_upd U 18 (U 16 0).toNat (-1)) 16 0 (w32 (((am_upd U 18 (U 16 0).toNat (-1)) 16 0) + 1)))))) 6 (fun _ => rfl) ?_
      obtain ⟨U1, h1a1ac, h1a1aa⟩ := h1a1a
      refine ev_cal (σc := (d, 138, 0, [some (.inr (.inr 16)), some (.inl (w32 (((am_upd (am_upd U 18 (U 16 0).toNat (-1)) 16 0 (w32 (((am_upd U 18 (U 16 0).toNat (-1)) 16 0) + 1))) 16 0) - 1))), some (.inl x2), none], [], (am_sh, am_mm (am_upd (am_upd U 18 (U 16 0).toNat (-1)) 16 0 (w32 (((am_upd U 18 (U 16 0).toNat (-1)) 16 0) + 1)))))) (fun _ => rfl) h1a1ac ?_
      show Ev kz ((d + 1), 180, 76, [some (.inr (.inr 16)), some (.inl x1), some (.inl x2)], [], (am_sh, am_mm U1)) R
      subst h1a1aa
      exact ev_end 1 (fun _ => rfl)
    · have h1a2 := h1a.2 hc
      refine ev_seg (σ1 := ((d + 1), 180, 32, [some (.inr (.inr 16)), some (.inl x1), some (.inl x2)], [.inl x1, .inl (U 16 0), .inr (.inr 17)], (am_sh, am_mm U))) 5 (fun _ => rfl) ?_
      refine eu_iast 17 (n := 16) rfl (by decide) rfl (fun _ => rfl) h1a2.1 ?_
      have h1a2a := h1a2.2
      refine ev_seg (σ1 := ((d + 1), 180, 44, [some (.inr (.inr 16)), some (.inl x1), some (.inl x2)], [.inr (.inl (-1)), .inl ((am_upd U 17 (U 16 0).toNat x1) 16 0), .inr (.inr 20)], (am_sh, am_mm (am_upd U 17 (U 16 0).toNat x1)))) 5 (fun _ => rfl) ?_
      refine eu_last 20 (n := 16) rfl (by decide) rfl (fun _ => rfl) h1a2a.1 ?_
      have h1a2aa := h1a2a.2
      refine ev_seg (σ1 := ((d + 1), 180, 54, [some (.inr (.inr 16)), some (.inl x1), some (.inl x2)], [.inl (-1), .inl ((am_upd (am_upd U 17 (U 16 0).toNat x1) 20 ((am_upd U 17 (U 16 0).toNat x1) 16 0).toNat (-1)) 16 0), .inr (.inr 18)], (am_sh, am_mm (am_upd (am_upd U 17 (U 16 0).toNat x1) 20 ((am_upd U 17 (U 16 0).toNat x1) 16 0).toNat (-1))))) 5 (fun _ => rfl) ?_
      refine eu_iast 18 (n := 16) rfl (by decide) rfl (fun _ => rfl) h1a2aa.1 ?_
      have h1a2aaa := h1a2aa.2
      refine ev_seg (σ1 := ((d + 1), 180, 62, [some (.inr (.inr 16)), some (.inl x1), some (.inl x2)], [.inl (w32 (((am_upd (am_upd (am_upd U 17 (U 16 0).toNat x1) 20 ((am_upd U 17 (U 16 0).toNat x1) 16 0).toNat (-1)) 18 ((am_upd (am_upd U 17 (U 16 0).toNat x1) 20 ((am_upd U 17 (U 16 0).toNat x1) 16 0).toNat (-1)) 16 0).toNat (-1)) 16 0) + 1)), .inr (.inr 16)], (am_sh, am_mm (am_upd (am_upd (am_upd U 17 (U 16 0).toNat x1) 20 ((am_upd U 17 (U 16 0).toNat x1) 16 0).toNat (-1)) 18 ((am_upd (am_upd U 17 (U 16 0).toNat x1) 20 ((am_upd U 17 (U 16 0).toNat x1) 16 0).toNat (-1)) 16 0).toNat (-1))))) 5 (fun _ => rfl) ?_
      refine eu_puti 16 (n := 7) rfl (by decide) rfl rfl ?_
      refine ev_seg (σ1 := ((d + 1), 180, 73, [some (.inr (.inr 16)), some (.inl x1), some (.inl x2)], [.inl x2, .inl (w32 (((am_upd (am_upd (am_upd (am_upd U 17 (U 16 0).toNat x1) 20 ((am_upd U 17 (U 16 0).toNat x1) 16 0).toNat (-1)) 18 ((am_upd (am_upd U 17 (U 16 0).toNat x1) 20 ((am_upd U 17 (U 16 0).toNat x1) 16 0).toNat (-1)) 16 0).toNat (-1)) 16 0 (w32 (((am_upd (am_upd (am_upd U 17 (U 16 0).toNat x1) 20 ((am_upd U 17 (U 16 0).toNat x1) 16 0).toNat (-1)) 18 ((am_upd (am_upd U 17 (U 16 0).toNat x1) 20 ((am_upd U 17 (U 16 0).toNat x1) 16 0).toNat (-1)) 16 0).toNat (-1)) 16 0) + 1))) 16 0) - 1)), .inr (.inr 16)], (am_sh, am_mm (am_upd (am_upd (am_upd (am_upd U 17 (U 16 0).toNat x1) 20 ((am_upd U 17 (U 16 0).toNat x1) 16 0).toNat (-1)) 18 ((am_upd (am_upd U 17 (U 16 0).toNat x1) 20 ((am_upd U 17 (U 16 0).toNat x1) 16 0).toNat (-1)) 16 0).toNat (-1)) 16 0 (w32 (((am_upd (am_upd (am_upd U 17 (U 16 0).toNat x1) 20 ((am_upd U 17 (U 16 0).toNat x1) 16 0).toNat (-1)) 18 ((am_upd (am_upd U 17 (U 16 0).toNat x1) 20 ((am_upd U 17 (U 16 0).toNat x1) 16 0).toNat (-1)) 16 0).toNat (-1)) 16 0) + 1)))))) 6 (fun _ => rfl) ?_
      obtain ⟨U2, h1a2aaac, h1a2aaaa⟩ := h1a2aaa
      refine ev_cal (σc := (d, 138, 0, [some (.inr (.inr 16)), some (.inl (w32 (((am_upd (am_upd (am_upd (am_upd U 17 (U 16 0).toNat x1) 20 ((am_upd U 17 (U 16 0).toNat x1) 16 0).toNat (-1)) 18 ((am_upd (am_upd U 17 (U 16 0).toNat x1) 20 ((am_upd U 17 (U 16 0).toNat x1) 16 0).toNat (-1)) 16 0).toNat (-1)) 16 0 (w32 (((am_upd (am_upd (am_upd U 17 (U 16 0).toNat x1) 20 ((am_upd U 17 (U 16 0).toNat x1) 16 0).toNat (-1)) 18 ((am_upd (am_upd U 17 (U 16 0).toNat x1) 20 ((am_upd U 17 (U 16 0).toNat x1) 16 0).toNat (-1)) 16 0).toNat (-1)) 16 0) + 1))) 16 0) - 1))), some (.inl x2), none], [], (am_sh, am_mm (am_upd (am_upd (am_upd (am_upd U 17 (U 16 0).toNat x1) 20 ((am_upd U 17 (U 16 0).toNat x1) 16 0).toNat (-1)) 18 ((am_upd (am_upd U 17 (U 16 0).toNat x1) 20 ((am_upd U 17 (U 16 0).toNat x1) 16 0).toNat (-1)) 16 0).toNat (-1)) 16 0 (w32 (((am_upd (am_upd (am_upd U 17 (U 16 0).toNat x1) 20 ((am_upd U 17 (U 16 0).toNat x1) 16 0).toNat (-1)) 18 ((am_upd (am_upd U 17 (U 16 0).toNat x1) 20 ((am_upd U 17 (U 16 0).toNat x1) 16 0).toNat (-1)) 16 0).toNat (-1)) 16 0) + 1)))))) (fun _ => rfl) h1a2aaac ?_
      show Ev kz ((d + 1), 180, 76, [some (.inr (.inr 16)), some (.inl x1), some (.inl x2)], [], (am_sh, am_mm U2)) R
      subst h1a2aaaa
      exact ev_end 1 (fun _ => rfl)
  · have h2 := h.2 hc
    subst h2
    exact ev_end 1 (fun _ => rfl)
theorem st176_16_0 (kz : am_Z) (d : Nat) (U : Nat → Nat → Int) (R : Option am_V × am_M) (h : ∃ U1 : Nat → Nat → Int, Ev kz (d, 211, 0, [some (.inr (.inr 19)), some (.inl 0), none, none], [], (am_sh, am_mm (am_upd (am_upd (am_upd U 16 0 0) 16 1 0) 16 2 0))) (none, (am_sh, am_mm U1)) ∧ R = (none, (am_sh, am_mm U1))) : Ev kz ((d + 1), 176, 0, [some (.inr (.inr 16))], [], (am_sh, am_mm U)) R := by
  refine ev_seg (σ1 := ((d + 1), 176, 2, [some (.inr (.inr 16))], [.inl 0, .inr (.inr 16)], (am_sh, am_mm U))) 2 (fun _ => rfl) ?_
  refine eu_puti 16 (n := 7) rfl (by decide) rfl rfl ?_
  refine ev_seg (σ1 := ((d + 1), 176, 7, [some (.inr (.inr 16))], [.inl 0, .inr (.inr 16)], (am_sh, am_mm (am_upd U 16 0 0)))) 2 (fun _ => rfl) ?_
  refine eu_puti 16 (n := 7) rfl (by decide) rfl rfl ?_
  refine ev_seg (σ1 := ((d + 1), 176, 12, [some (.inr (.inr 16))], [.inl 0, .inr (.inr 16)], (am_sh, am_mm (am_upd (am_upd U 16 0 0) 16 1 0)))) 2 (fun _ => rfl) ?_
  refine eu_putz 16 (n := 7) rfl (by decide) rfl rfl (by decide) ?_
  refine ev_seg (σ1 := ((d + 1), 176, 20, [some (.inr (.inr 16))], [.inl 0, .inr (.inr 19)], (am_sh, am_mm (am_upd (am_upd (am_upd U 16 0 0) 16 1 0) 16 2 0)))) 3 (fun _ => rfl) ?_
  obtain ⟨U1, hc, ha⟩ := h
  refine ev_cal (σc := (d, 211, 0, [some (.inr (.inr 19)), some (.inl 0), none, none], [], (am_sh, am_mm (am_upd (am_upd (am_upd U 16 0 0) 16 1 0) 16 2 0)))) (fun _ => rfl) hc ?_
  show Ev kz ((d + 1), 176, 23, [some (.inr (.inr 16))], [], (am_sh, am_mm U1)) R
  subst ha
  exact ev_end 1 (fun _ => rfl)
theorem st181_45_0 (kz : am_Z) (d : Nat) (U : Nat → Nat → Int) (R : Option am_V × am_M) (h : R = (none, (am_sh, am_mm (am_upd U 45 5 0)))) : Ev kz (d, 181, 0, [some (.inr (.inr 45))], [], (am_sh, am_mm U)) R := by
  refine ev_seg (σ1 := (d, 181, 2, [some (.inr (.inr 45))], [.inl 0, .inr (.inr 45)], (am_sh, am_mm U))) 2 (fun _ => rfl) ?_
  refine eu_putz 45 (n := 6) rfl (by decide) rfl rfl (by decide) ?_
  subst h
  exact ev_end 1 (fun _ => rfl)
theorem st183_52_0 (kz : am_Z) (d : Nat) (U : Nat → Nat → Int) (R : Option am_V × am_M) (h : R = (none, (am_sh, am_mm (am_upd U 52 8 0)))) : Ev kz (d, 183, 0, [some (.inr (.inr 52))], [], (am_sh, am_mm U)) R := by
  refine ev_seg (σ1 := (d, 183, 2, [some (.inr (.inr 52))], [.inl 0, .inr (.inr 52)], (am_sh, am_mm U))) 2 (fun _ => rfl) ?_
  refine eu_putz 52 (n := 9) rfl (by decide) rfl rfl (by decide) ?_
  subst h
  exact ev_end 1 (fun _ => rfl)
theorem st182_48_0 (kz : am_Z) (d : Nat) (U : Nat → Nat → Int) (R : Option am_V × am_M) (h : R = (none, (am_sh, am_mm (am_upd U 48 9 0)))) : Ev kz (d, 182, 0, [some (.inr (.inr 48))], [], (am_sh, am_mm U)) R := by
  refine ev_seg (σ1 := (d, 182, 2, [some (.inr (.inr 48))], [.inl 0, .inr (.inr 48)], (am_sh, am_mm U))) 2 (fun _ => rfl) ?_
  refine eu_putz 48 (n := 10) rfl (by decide) rfl rfl (by decide) ?_
  subst h
  exact ev_end 1 (fun _ => rfl)
theorem st185_0 (kz : am_Z) (d : Nat) (x0 : Int) (U : Nat → Nat → Int) (R : Option am_V × am_M) (h : (((x0 < 48 : Prop)) → R = (some (.inl 0), (am_sh, am_mm U))) ∧ (¬ (x0 < 48) → (((57 < x0 : Prop)) → R = (some (.inl 0), (am_sh, am_mm U))) ∧ (¬ (57 < x0) → R = (some (.inl 1), (am_sh, am_mm U))))) : Ev kz (d, 185, 0, [some (.inl x0)], [], (am_sh, am_mm U)) R := by
  refine ev_br (P := x0 < 48) (σ1 := (d, 185, 16, [some (.inl x0)], [], (am_sh, am_mm U))) (σ2 := (d, 185, 6, [some (.inl x0)], [], (am_sh, am_mm U))) 3 (fun _ => rfl) (fun hc => ?_) (fun hc => ?_)
  · have h1 := h.1 hc
    subst h1
    exact ev_end 2 (fun _ => rfl)
  · have h2 := h.2 hc
    refine ev_br (P := 57 < x0) (σ1 := (d, 185, 16, [some (.inl x0)], [], (am_sh, am_mm U))) (σ2 := (d, 185, 12, [some (.inl x0)], [], (am_sh, am_mm U))) 3 (fun _ => rfl) (fun hc => ?_) (fun hc => ?_)
    · have h21 := h2.1 hc
      subst h21
      exact ev_end 2 (fun _ => rfl)
    · have h22 := h2.2 hc
      subst h22
      exact ev_end 3 (fun _ => rfl)
theorem st184_0 (kz : am_Z) (d : Nat) (x0 : Int) (U : Nat → Nat → Int) (R : Option am_V × am_M) (h : (((x0 < 97 : Prop)) → R = (some (.inl 0), (am_sh, am_mm U))) ∧ (¬ (x0 < 97) → (((122 < x0 : Prop)) → R = (some (.inl 0), (am_sh, am_mm U))) ∧ (¬ (122 < x0) → R = (some (.inl 1), (am_sh, am_mm U))))) : Ev kz (d, 184, 0, [some (.inl x0)], [], (am_sh, am_mm U)) R := by
  refine ev_br (P := x0 < 97) (σ1 := (d, 184, 16, [some (.inl x0)], [], (am_sh, am_mm U))) (σ2 := (d, 184, 6, [some (.inl x0)], [], (am_sh, am_mm U))) 3 (fun _ => rfl) (fun hc => ?_) (fun hc => ?_)
  · have h1 := h.1 hc
    subst h1
    exact ev_end 2 (fun _ => rfl)
  · have h2 := h.2 hc
    refine ev_br (P := 122 < x0) (σ1 := (d, 184, 16, [some (.inl x0)], [], (am_sh, am_mm U))) (σ2 := (d, 184, 12, [some (.inl x0)], [], (am_sh, am_mm U))) 3 (fun _ => rfl) (fun hc => ?_) (fun hc => ?_)
    · have h21 := h2.1 hc
      subst h21
      exact ev_end 2 (fun _ => rfl)
    · have h22 := h2.2 hc
      subst h22
      exact ev_end 3 (fun _ => rfl)
theorem st196_86_0 (kz : am_Z) (d : Nat) (x1 x2 : Int) (U : Nat → Nat → Int) (R : Option am_V × am_M) (h : ((((U 86 8) ≤ 0 : Prop)) → R = (none, (am_sh, am_mm (am_upd (am_upd U 86 8 x1) 86 9 x2)))) ∧ (¬ ((U 86 8) ≤ 0) → R = (none, (am_sh, am_mm U)))) : Ev kz (d, 196, 0, [some (.inr (.inr 86)), some (.inl x1), some (.inl x2)], [], (am_sh, am_mm U)) R := by
  refine ev_br (P := (U 86 8) ≤ 0) (σ1 := (d, 196, 8, [some (.inr (.inr 86)), some (.inl x1), some (.inl x2)], [], (am_sh, am_mm U))) (σ2 := (d, 196, 7, [some (.inr (.inr 86)), some (.inl x1), some (.inl x2)], [], (am_sh, am_mm U))) 3 (fun _ => rfl) (fun hc => ?_) (fun hc => ?_)
  · have h1 := h.1 hc
    refine ev_seg (σ1 := (d, 196, 10, [some (.inr (.inr 86)), some (.inl x1), some (.inl x2)], [.inl x1, .inr (.inr 86)], (am_sh, am_mm U))) 2 (fun _ => rfl) ?_
    refine eu_puti 86 (n := 90) rfl (by decide) rfl rfl ?_
    refine ev_seg (σ1 := (d, 196, 15, [some (.inr (.inr 86)), some (.inl x1), some (.inl x2)], [.inl x2, .inr (.inr 86)], (am_sh, am_mm (am_upd U 86 8 x1)))) 2 (fun _ => rfl) ?_
    refine eu_puti 86 (n := 90) rfl (by decide) rfl rfl ?_
    subst h1
    exact ev_end 1 (fun _ => rfl)
  · have h2 := h.2 hc
    subst h2
    exact ev_end 1 (fun _ => rfl)
theorem st186_86_0 (kz : am_Z) (d : Nat) (U : Nat → Nat → Int) (R : Option am_V × am_M) (h : ((((U 86 12) = (-1) : Prop)) → R = (none, (am_sh, am_mm U))) ∧ (¬ ((U 86 12) = (-1)) → ∃ U1 : Nat → Nat → Int, Ev kz (d, 196, 0, [some (.inr (.inr 86)), some (.inl 1), some (.inl (U 86 12))], [], (am_sh, am_mm U)) (none, (am_sh, am_mm U1)) ∧ R = (none, (am_sh, am_mm U1)))) : Ev kz ((d + 1), 186, 0, [some (.inr (.inr 86))], [], (am_sh, am_mm U)) R := by
  refine ev_br (P := (U 86 12) = (-1)) (σ1 := ((d + 1), 186, 17, [some (.inr (.inr 86))], [], (am_sh, am_mm U))) (σ2 := ((d + 1), 186, 8, [some (.inr (.inr 86))], [], (am_sh, am_mm U))) 4 (fun _ => rfl) (fun hc => ?_) (fun hc => ?_)
  · have h1 := h.1 hc
    subst h1
    exact ev_end 1 (fun _ => rfl)
  · have h2 := h.2 hc
    refine ev_seg (σ1 := ((d + 1), 186, 14, [some (.inr (.inr 86))], [.inl (U 86 12), .inl 1, .inr (.inr 86)], (am_sh, am_mm U))) 4 (fun _ => rfl) ?_
    obtain ⟨U1, h2c, h2a⟩ := h2
    refine ev_cal (σc := (d, 196, 0, [some (.inr (.inr 86)), some (.inl 1), some (.inl (U 86 12))], [], (am_sh, am_mm U))) (fun _ => rfl) h2c ?_
    show Ev kz ((d + 1), 186, 17, [some (.inr (.inr 86))], [], (am_sh, am_mm U1)) R
    subst h2a
    exact ev_end 1 (fun _ => rfl)
theorem st189_86_0 (kz : am_Z) (d : Nat) (U : Nat → Nat → Int) (R : Option am_V × am_M) (h : (0 ≤ (U 86 40) ∧ (U 86 40) < 2) ∧ (((¬ (U 90 (U 86 40).toNat) = 12 : Prop)) → ∃ (r1 : Int) (U1 : Nat → Nat → Int), Ev kz (d, 264, 0, [some (.inr (.inr 86)), some (.inl 0)], [], (am_sh, am_mm U)) (some (.inl r1), (am_sh, am_mm U1)) ∧ (((¬ r1 = 0 : Prop)) → (0 ≤ (U1 86 40) ∧ (U1 86 40) < 2) ∧ ∃ (r2 : Int) (U2 : Nat → Nat → Int), Ev kz (d, 265, 0, [some (.inr (.inr 86)), none, none], [], (am_sh, am_mm U1)) (some (.inr (.inl r2)), (am_sh, am_mm U2)) ∧ (0 ≤ (w32 ((w32 (12 * (U1 86 40))) + (U1 90 (U1 86 40).toNat))) ∧ (w32 ((w32 (12 * (U1 86 40))) + (U1 90 (U1 86 40).toNat))) < 24) ∧ ∃ U3 : Nat → Nat → Int, Ev kz (d, 266, 0, [some (.inr (.inr 86)), some (.inr (.inl 28518)), none], [], (am_sh, am_mm (am_upd U2 91 (w32 ((w32 (12 * (U1 86 40))) + (U1 90 (U1 86 40).toNat))).toNat r2))) (none, (am_sh, am_mm U3)) ∧ ∃ (r4 : Int) (U4 : Nat → Nat → Int), Ev kz (d, 267, 0, [some (.inr (.inr 86)), some (.inl 0), none], [], (am_sh, am_mm U3)) (some (.inl r4), (am_sh, am_mm U4)) ∧ (0 ≤ (w32 ((w32 (12 * (U1 86 40))) + (U1 90 (U1 86 40).toNat))) ∧ (w32 ((w32 (12 * (U1 86 40))) + (U1 90 (U1 86 40).toNat))) < 24) ∧ ∃ U5 : Nat → Nat → Int, Ev kz (d, 266, 0, [some (.inr (.inr 86)), some (.inr (.inl 491495845235)), none], [], (am_sh, am_mm (am_upd U4 92 (w32 ((w32 (12 * (U1 86 40))) + (U1 90 (U1 86 40).toNat))).toNat r4))) (none, (am_sh, am_mm U5)) ∧ ∃ (r6 : Int) (U6 : Nat → Nat → Int), Ev kz (d, 268, 0, [some (.inr (.inr 86)), some (.inl 1), some (.inl 6), none], [], (am_sh, am_mm U5)) (some (.inl r6), (am_sh, am_mm U6)) ∧ (0 ≤ (w32 ((w32 (12 * (U1 86 40))) + (U1 90 (U1 86 40).toNat))) ∧ (w32 ((w32 (12 * (U1 86 40))) + (U1 90 (U1 86 40).toNat))) < 24) ∧ (((¬ ((am_upd U6 93 (w32 ((w32 (12 * (U1 86 40))) + (U1 90 (U1 86 40).toNat))).toNat r6) 86 8) = 0 : Prop)) → R = (none, (am_sh, am_mm (am_upd U6 93 (w32 ((w32 (12 * (U1 86 40))) + (U1 90 (U1 86 40).toNat))).toNat r6)))) ∧ (¬ (¬ ((am_upd U6 93 (w32 ((w32 (12 * (U1 86 40))) + (U1 90 (U1 86 40).toNat))).toNat r6) 86 8) = 0) → (0 ≤ ((am_upd U6 93 (w32 ((w32 (12 * (U1 86 40))) + (U1 90 (U1 86 40).toNat))).toNat r6) 86 40) ∧ ((am_upd U6 93 (w32 ((w32 (12 * (U1 86 40))) + (U1 90 (U1 86 40).toNat))).toNat r6) 86 40) < 2) ∧ (0 ≤ ((am_upd U6 93 (w32 ((w32 (12 * (U1 86 40))) + (U1 90 (U1 86 40).toNat))).toNat r6) 86 40) ∧ ((am_upd U6 93 (w32 ((w32 (12 * (U1 86 40))) + (U1 90 (U1 86 40).toNat))).toNat r6) 86 40) < 2) ∧ R = (none, (am_sh, am_mm (am_upd (am_upd U6 93 (w32 ((w32 (12 * (U1 86 40))) + (U1 90 (U1 86 40).toNat))).toNat r6) 90 ((am_upd U6 93 (w32 ((w32 (12 * (U1 86 40))) + (U1 90 (U1 86 40).toNat))).toNat r6) 86 40).toNat (w32 (((am_upd U6 93 (w32 ((w32 (12 * (U1 86 40))) + (U1 90 (U1 86 40).toNat))).toNat r6) 90 ((am_upd U6 93 (w32 ((w32 (12 * (U1 86 40))) + (U1 90 (U1 86 40).toNat))).toNat r6) 86 40).toNat) + 1))))))) ∧ (¬ (¬ r1 = 0) → R = (none, (am_sh, am_mm U1)))) ∧ (¬ (¬ (U 90 (U 86 40).toNat) = 12) → ∃ (r7 : Int) (U7 : Nat → Nat → Int), Ev kz (d, 264, 0, [some (.inr (.inr 86)), some (.inl 1)], [], (am_sh, am_mm U)) (some (.inl r7), (am_sh, am_mm U7)) ∧ (((¬ r7 = 0 : Prop)) → (0 ≤ (U7 86 40) ∧ (U7 86 40) < 2) ∧ ∃ (r8 : Int) (U8 : Nat → Nat → Int), Ev kz (d, 265, 0, [some (.inr (.inr 86)), none, none], [], (am_sh, am_mm U7)) (some (.inr (.inl r8)), (am_sh, am_mm U8)) ∧ (0 ≤ (w32 ((w32 (12 * (U7 86 40))) + (U7 90 (U7 86 40).toNat))) ∧ (w32 ((w32 (12 * (U7 86 40))) + (U7 90 (U7 86 40).toNat))) < 24) ∧ ∃ U9 : Nat → Nat → Int, Ev kz (d, 266, 0, [some (.inr (.inr 86)), some (.inr (.inl 28518)), none], [], (am_sh, am_mm (am_upd U8 91 (w32 ((w32 (12 * (U7 86 40))) + (U7 90 (U7 86 40).toNat))).toNat r8))) (none, (am_sh, am_mm U9)) ∧ ∃ (r10 : Int) (U10 : Nat → Nat → Int), Ev kz (d, 267, 0, [some (.inr (.inr 86)), some (.inl 0), none], [], (am_sh, am_mm U9)) (some (.inl r10), (am_sh, am_mm U10)) ∧ (0 ≤ (w32 ((w32 (12 * (U7 86 40))) + (U7 90 (U7 86 40).toNat))) ∧ (w32 ((w32 (12 * (U7 86 40))) + (U7 90 (U7 86 40).toNat))) < 24) ∧ ∃ U11 : Nat → Nat → Int, Ev kz (d, 266, 0, [some (.inr (.inr 86)), some (.inr (.inl 491495845235)), none], [], (am_sh, am_mm (am_upd U10 92 (w32 ((w32 (12 * (U7 86 40))) + (U7 90 (U7 86 40).toNat))).toNat r10))) (none, (am_sh, am_mm U11)) ∧ ∃ (r12 : Int) (U12 : Nat → Nat → Int), Ev kz (d, 268, 0, [some (.inr (.inr 86)), some (.inl 1), some (.inl 6), none], [], (am_sh, am_mm U11)) (some (.inl r12), (am_sh, am_mm U12)) ∧ (0 ≤ (w32 ((w32 (12 * (U7 86 40))) + (U7 90 (U7 86 40).toNat))) ∧ (w32 ((w32 (12 * (U7 86 40))) + (U7 90 (U7 86 40).toNat))) < 24) ∧ (((¬ ((am_upd U12 93 (w32 ((w32 (12 * (U7 86 40))) + (U7 90 (U7 86 40).toNat))).toNat r12) 86 8) = 0 : Prop)) → R = (none, (am_sh, am_mm (am_upd U12 93 (w32 ((w32 (12 * (U7 86 40))) + (U7 90 (U7 86 40).toNat))).toNat r12)))) ∧ (¬ (¬ ((am_upd U12 93 (w32 ((w32 (12 * (U7 86 40))) + (U7 90 (U7 86 40).toNat))).toNat r12) 86 8) = 0) → (0 ≤ ((am_upd U12 93 (w32 ((w32 (12 * (U7 86 40))) + (U7 90 (U7 86 40).toNat))).toNat r12) 86 40) ∧ ((am_upd U12 93 (w32 ((w32 (12 * (U7 86 40))) + (U7 90 (U7 86 40).toNat))).toNat r12) 86 40) < 2) ∧ (0 ≤ ((am_upd U12 93 (w32 ((w32 (12 * (U7 86 40))) + (U7 90 (U7 86 40).toNat))).toNat r12) 86 40) ∧ ((am_upd U12 93 (w32 ((w32 (12 * (U7 86 40))) + (U7 90 (U7 86 40).toNat))).toNat r12) 86 40) < 2) ∧ R = (none, (am_sh, am_mm (am_upd (am_upd U12 93 (w32 ((w32 (12 * (U7 86 40))) + (U7 90 (U7 86 40).toNat))).toNat r12) 90 ((am_upd U12 93 (w32 ((w32 (12 * (U7 86 40))) + (U7 90 (U7 86 40).toNat))).toNat r12) 86 40).toNat (w32 (((am_upd U12 93 (w32 ((w32 (12 * (U7 86 40))) + (U7 90 (U7 86 40).toNat))).toNat r12) 90 ((am_upd U12 93 (w32 ((w32 (12 * (U7 86 40))) + (U7 90 (U7 86 40).toNat))).toNat r12) 86 40).toNat) + 1))))))) ∧ (¬ (¬ r7 = 0) → R = (none, (am_sh, am_mm U7))))) : Ev kz ((d + 1), 189, 0, [some (.inr (.inr 86)), none], [], (am_sh, am_mm U)) R := by
  refine ev_seg (σ1 := ((d + 1), 189, 9, [some (.inr (.inr 86)), none], [.inl (U 86 40), .inr (.inr 90), .inr (.inr 86)], (am_sh, am_mm U))) 5 (fun _ => rfl) ?_
  refine eu_iald 90 (n := 2) rfl (by decide) rfl (fun _ => rfl) h.1 ?_
  have ha := h.2
  refine ev_br (P := ¬ (U 90 (U 86 40).toNat) = 12) (σ1 := ((d + 1), 189, 19, [some (.inr (.inr 86)), none], [.inr (.inr 86)], (am_sh, am_mm U))) (σ2 := ((d + 1), 189, 15, [some (.inr (.inr 86)), none], [.inr (.inr 86)], (am_sh, am_mm U))) 2 (fun _ => rfl) (fun hc => ?_) (fun hc => ?_)
  · have ha1 := ha.1 hc
    refine ev_seg (σ1 := ((d + 1), 189, 20, [some (.inr (.inr 86)), none], [.inl 0, .inr (.inr 86)], (am_sh, am_mm U))) 1 (fun _ => rfl) ?_
    obtain ⟨r1, U1, ha1c, ha1a⟩ := ha1
    refine ev_cal (σc := (d, 264, 0, [some (.inr (.inr 86)), some (.inl 0)], [], (am_sh, am_mm U))) (fun _ => rfl) ha1c ?_
    show Ev kz ((d + 1), 189, 23, [some (.inr (.inr 86)), none], [.inl r1], (am_sh, am_mm U1)) R
    refine ev_br (P := ¬ r1 = 0) (σ1 := ((d + 1), 189, 27, [some (.inr (.inr 86)), none], [], (am_sh, am_mm U1))) (σ2 := ((d + 1), 189, 26, [some (.inr (.inr 86)), none], [], (am_sh, am_mm U1))) 1 (fun _ => rfl) (fun hc => ?_) (fun hc => ?_)
    · have ha1a1 := ha1a.1 hc
      refine ev_seg (σ1 := ((d + 1), 189, 42, [some (.inr (.inr 86)), none], [.inl (U1 86 40), .inr (.inr 90), .inl (w32 (12 * (U1 86 40)))], (am_sh, am_mm U1))) 8 (fun _ => rfl) ?_
      refine eu_iald 90 (n := 2) rfl (by decide) rfl (fun _ => rfl) ha1a1.1 ?_
      have ha1a1a := ha1a1.2
      refine ev_seg (σ1 := ((d + 1), 189, 51, [some (.inr (.inr 86)), some (.inl (w32 ((w32 (12 * (U1 86 40))) + (U1 90 (U1 86 40).toNat))))], [.inr (.inr 86), .inl (w32 ((w32 (12 * (U1 86 40))) + (U1 90 (U1 86 40).toNat))), .inr (.inr 91)], (am_sh, am_mm U1))) 6 (fun _ => rfl) ?_
      obtain ⟨r2, U2, ha1a1ac, ha1a1aa⟩ := ha1a1a
      refine ev_cal (σc := (d, 265, 0, [some (.inr (.inr 86)), none, none], [], (am_sh, am_mm U1))) (fun _ => rfl) ha1a1ac ?_
      show Ev kz ((d + 1), 189, 54, [some (.inr (.inr 86)), some (.inl (w32 ((w32 (12 * (U1 86 40))) + (U1 90 (U1 86 40).toNat))))], [.inr (.inl r2), .inl (w32 ((w32 (12 * (U1 86 40))) + (U1 90 (U1 86 40).toNat))), .inr (.inr 91)], (am_sh, am_mm U2)) R
      refine eu_last 91 (n := 24) rfl (by decide) rfl (fun _ => rfl) ha1a1aa.1 ?_
      have ha1a1aaa := ha1a1aa.2
      refine ev_seg (σ1 := ((d + 1), 189, 59, [some (.inr (.inr 86)), some (.inl (w32 ((w32 (12 * (U1 86 40))) + (U1 90 (U1 86 40).toNat))))], [.inr (.inl 28518), .inr (.inr 86)], (am_sh, am_mm (am_upd U2 91 (w32 ((w32 (12 * (U1 86 40))) + (U1 90 (U1 86 40).toNat))).toNat r2)))) 2 (fun _ => rfl) ?_
      obtain ⟨U3, ha1a1aaac, ha1a1aaaa⟩ := ha1a1aaa
      refine ev_cal (σc := (d, 266, 0, [some (.inr (.inr 86)), some (.inr (.inl 28518)), none], [], (am_sh, am_mm (am_upd U2 91 (w32 ((w32 (12 * (U1 86 40))) + (U1 90 (U1 86 40).toNat))).toNat r2)))) (fun _ => rfl) ha1a1aaac ?_
      show Ev kz ((d + 1), 189, 62, [some (.inr (.inr 86)), some (.inl (w32 ((w32 (12 * (U1 86 40))) + (U1 90 (U1 86 40).toNat))))], [], (am_sh, am_mm U3)) R
      refine ev_seg (σ1 := ((d + 1), 189, 69, [some (.inr (.inr 86)), some (.inl (w32 ((w32 (12 * (U1 86 40))) + (U1 90 (U1 86 40).toNat))))], [.inl 0, .inr (.inr 86), .inl (w32 ((w32 (12 * (U1 86 40))) + (U1 90 (U1 86 40).toNat))), .inr (.inr 92)], (am_sh, am_mm U3))) 5 (fun _ => rfl) ?_
      obtain ⟨r4, U4, ha1a1aaaac, ha1a1aaaaa⟩ := ha1a1aaaa
      refine ev_cal (σc := (d, 267, 0, [some (.inr (.inr 86)), some (.inl 0), none], [], (am_sh, am_mm U3))) (fun _ => rfl) ha1a1aaaac ?_
      show Ev kz ((d + 1), 189, 72, [some (.inr (.inr 86)), some (.inl (w32 ((w32 (12 * (U1 86 40))) + (U1 90 (U1 86 40).toNat))))], [.inl r4, .inl (w32 ((w32 (12 * (U1 86 40))) + (U1 90 (U1 86 40).toNat))), .inr (.inr 92)], (am_sh, am_mm U4)) R
      refine eu_iast 92 (n := 24) rfl (by decide) rfl (fun _ => rfl) ha1a1aaaaa.1 ?_
      have ha1a1aaaaaa := ha1a1aaaaa.2
      refine ev_seg (σ1 := ((d + 1), 189, 77, [some (.inr (.inr 86)), some (.inl (w32 ((w32 (12 * (U1 86 40))) + (U1 90 (U1 86 40).toNat))))], [.inr (.inl 491495845235), .inr (.inr 86)], (am_sh, am_mm (am_upd U4 92 (w32 ((w32 (12 * (U1 86 40))) + (U1 90 (U1 86 40).toNat))).toNat r4)))) 2 (fun _ => rfl) ?_
      obtain ⟨U5, ha1a1aaaaaac, ha1a1aaaaaaa⟩ := ha1a1aaaaaa
      refine ev_cal (σc := (d, 266, 0, [some (.inr (.inr 86)), some (.inr (.inl 491495845235)), none], [], (am_sh, am_mm (am_upd U4 92 (w32 ((w32 (12 * (U1 86 40))) + (U1 90 (U1 86 40).toNat))).toNat r4)))) (fun _ => rfl) ha1a1aaaaaac ?_
      show Ev kz ((d + 1), 189, 80, [some (.inr (.inr 86)), some (.inl (w32 ((w32 (12 * (U1 86 40))) + (U1 90 (U1 86 40).toNat))))], [], (am_sh, am_mm U5)) R
      refine ev_seg (σ1 := ((d + 1), 189, 89, [some (.inr (.inr 86)), some (.inl (w32 ((w32 (12 * (U1 86 40))) + (U1 90 (U1 86 40).toNat))))], [.inl 6, .inl 1, .inr (.inr 86), .inl (w32 ((w32 (12 * (U1 86 40))) + (U1 90 (U1 86 40).toNat))), .inr (.inr 93)], (am_sh, am_mm U5))) 6 (fun _ => rfl) ?_
      obtain ⟨r6, U6, ha1a1aaaaaaac, ha1a1aaaaaaaa⟩ := ha1a1aaaaaaa
      refine ev_cal (σc := (d, 268, 0, [some (.inr (.inr 86)), some (.inl 1), some (.inl 6), none], [], (am_sh, am_mm U5))) (fun _ => rfl) ha1a1aaaaaaac ?_
      show Ev kz ((d + 1), 189, 92, [some (.inr (.inr 86)), some (.inl (w32 ((w32 (12 * (U1 86 40))) + (U1 90 (U1 86 40).toNat))))], [.inl r6, .inl (w32 ((w32 (12 * (U1 86 40))) + (U1 90 (U1 86 40).toNat))), .inr (.inr 93)], (am_sh, am_mm U6)) R
      refine eu_iast 93 (n := 24) rfl (by decide) rfl (fun _ => rfl) ha1a1aaaaaaaa.1 ?_
      have ha1a1aaaaaaaaa := ha1a1aaaaaaaa.2
      refine ev_br (P := ¬ ((am_upd U6 93 (w32 ((w32 (12 * (U1 86 40))) + (U1 90 (U1 86 40).toNat))).toNat r6) 86 8) = 0) (σ1 := ((d + 1), 189, 113, [some (.inr (.inr 86)), some (.inl (w32 ((w32 (12 * (U1 86 40))) + (U1 90 (U1 86 40).toNat))))], [], (am_sh, am_mm (am_upd U6 93 (w32 ((w32 (12 * (U1 86 40))) + (U1 90 (U1 86 40).toNat))).toNat r6)))) (σ2 := ((d + 1), 189, 100, [some (.inr (.inr 86)), some (.inl (w32 ((w32 (12 * (U1 86 40))) + (U1 90 (U1 86 40).toNat))))], [], (am_sh, am_mm (am_upd U6 93 (w32 ((w32 (12 * (U1 86 40))) + (U1 90 (U1 86 40).toNat))).toNat r6)))) 3 (fun _ => rfl) (fun hc => ?_) (fun hc => ?_)
      · have ha1a1aaaaaaaaa1 := ha1a1aaaaaaaaa.1 hc
        subst ha1a1aaaaaaaaa1
        exact ev_end 1 (fun _ => rfl)
      · have ha1a1aaaaaaaaa2 := ha1a1aaaaaaaaa.2 hc
        refine ev_seg (σ1 := ((d + 1), 189, 109, [some (.inr (.inr 86)), some (.inl (w32 ((w32 (12 * (U1 86 40))) + (U1 90 (U1 86 40).toNat))))], [.inl ((am_upd U6 93 (w32 ((w32 (12 * (U1 86 40))) + (U1 90 (U1 86 40).toNat))).toNat r6) 86 40), .inr (.inr 90), .inl ((am_upd U6 93 (w32 ((w32 (12 * (U1 86 40))) + (U1 90 (U1 86 40).toNat))).toNat r6) 86 40), .inr (.inr 90)], (am_sh, am_mm (am_upd U6 93 (w32 ((w32 (12 * (U1 86 40))) + (U1 90 (U1 86 40).toNat))).toNat r6)))) 5 (fun _ => rfl) ?_
        refine eu_iald 90 (n := 2) rfl (by decide) rfl (fun _ => rfl) ha1a1aaaaaaaaa2.1 ?_
        have ha1a1aaaaaaaaa2a := ha1a1aaaaaaaaa2.2
        refine ev_seg (σ1 := ((d + 1), 189, 112, [some (.inr (.inr 86)), some (.inl (w32 ((w32 (12 * (U1 86 40))) + (U1 90 (U1 86 40).toNat))))], [.inl (w32 (((am_upd U6 93 (w32 ((w32 (12 * (U1 86 40))) + (U1 90 (U1 86 40).toNat))).toNat r6) 90 ((am_upd U6 93 (w32 ((w32 (12 * (U1 86 40))) + (U1 90 (U1 86 40).toNat))).toNat r6) 86 40).toNat) + 1)), .inl ((am_upd U6 93 (w32 ((w32 (12 * (U1 86 40))) + (U1 90 (U1 86 40).toNat))).toNat r6) 86 40), .inr (.inr 90)], (am_sh, am_mm (am_upd U6 93 (w32 ((w32 (12 * (U1 86 40))) + (U1 90 (U1 86 40).toNat))).toNat r6)))) 2 (fun _ => rfl) ?_
        refine eu_iast 90 (n := 2) rfl (by decide) rfl (fun _ => rfl) ha1a1aaaaaaaaa2a.1 ?_
        have ha1a1aaaaaaaaa2aa := ha1a1aaaaaaaaa2a.2
        subst ha1a1aaaaaaaaa2aa
        exact ev_end 1 (fun _ => rfl)
    · have ha1a2 := ha1a.2 hc
      subst ha1a2
      exact ev_end 1 (fun _ => rfl)
  · have ha2 := ha.2 hc
    refine ev_seg (σ1 := ((d + 1), 189, 20, [some (.inr (.inr 86)), none], [.inl 1, .inr (.inr 86)], (am_sh, am_mm U))) 2 (fun _ => rfl) ?_
    obtain ⟨r7, U7, ha2c, ha2a⟩ := ha2
    refine ev_cal (σc := (d, 264, 0, [some (.inr (.inr 86)), some (.inl 1)], [], (am_sh, am_mm U))) (fun _ => rfl) ha2c ?_
    show Ev kz ((d + 1), 189, 23, [some (.inr (.inr 86)), none], [.inl r7], (am_sh, am_mm U7)) R
    refine ev_br (P := ¬ r7 = 0) (σ1 := ((d + 1), 189, 27, [some (.inr (.inr 86)), none], [], (am_sh, am_mm U7))) (σ2 := ((d + 1), 189, 26, [some (.inr (.inr 86)), none], [], (am_sh, am_mm U7))) 1 (fun _ => rfl) (fun hc => ?_) (fun hc => ?_)
    · have ha2a1 := ha2a.1 hc
      refine ev_seg (σ1 := ((d + 1), 189, 42, [some (.inr (.inr 86)), none], [.inl (U7 86 40), .inr (.inr 90), .inl (w32 (12 * (U7 86 40)))], (am_sh, am_mm U7))) 8 (fun _ => rfl) ?_
      refine eu_iald 90 (n := 2) rfl (by decide) rfl (fun _ => rfl) ha2a1.1 ?_
      have ha2a1a := ha2a1.2
      refine ev_seg (σ1 := ((d + 1), 189, 51, [some (.inr (.inr 86)), some (.inl (w32 ((w32 (12 * (U7 86 40))) + (U7 90 (U7 86 40).toNat))))], [.inr (.inr 86), .inl (w32 ((w32 (12 * (U7 86 40))) + (U7 90 (U7 86 40).toNat))), .inr (.inr 91)], (am_sh, am_mm U7))) 6 (fun _ => rfl) ?_
      obtain ⟨r8, U8, ha2a1ac, ha2a1aa⟩ := ha2a1a
      refine ev_cal (σc := (d, 265, 0, [some (.inr (.inr 86)), none, none], [], (am_sh, am_mm U7))) (fun _ => rfl) ha2a1ac ?_
      show Ev kz ((d + 1), 189, 54, [some (.inr (.inr 86)), some (.inl (w32 ((w32 (12 * (U7 86 40))) + (U7 90 (U7 86 40).toNat))))], [.inr (.inl r8), .inl (w32 ((w32 (12 * (U7 86 40))) + (U7 90 (U7 86 40).toNat))), .inr (.inr 91)], (am_sh, am_mm U8)) R
      refine eu_last 91 (n := 24) rfl (by decide) rfl (fun _ => rfl) ha2a1aa.1 ?_
      have ha2a1aaa := ha2a1aa.2
      refine ev_seg (σ1 := ((d + 1), 189, 59, [some (.inr (.inr 86)), some (.inl (w32 ((w32 (12 * (U7 86 40))) + (U7 90 (U7 86 40).toNat))))], [.inr (.inl 28518), .inr (.inr 86)], (am_sh, am_mm (am_upd U8 91 (w32 ((w32 (12 * (U7 86 40))) + (U7 90 (U7 86 40).toNat))).toNat r8)))) 2 (fun _ => rfl) ?_
      obtain ⟨U9, ha2a1aaac, ha2a1aaaa⟩ := ha2a1aaa
      refine ev_cal (σc := (d, 266, 0, [some (.inr (.inr 86)), some (.inr (.inl 28518)), none], [], (am_sh, am_mm (am_upd U8 91 (w32 ((w32 (12 * (U7 86 40))) + (U7 90 (U7 86 40).toNat))).toNat r8)))) (fun _ => rfl) ha2a1aaac ?_
      show Ev kz ((d + 1), 189, 62, [some (.inr (.inr 86)), some (.inl (w32 ((w32 (12 * (U7 86 40))) + (U7 90 (U7 86 40).toNat))))], [], (am_sh, am_mm U9)) R
      refine ev_seg (σ1 := ((d + 1), 189, 69, [some (.inr (.inr 86)), some (.inl (w32 ((w32 (12 * (U7 86 40))) + (U7 90 (U7 86 40).toNat))))], [.inl 0, .inr (.inr 86), .inl (w32 ((w32 (12 * (U7 86 40))) + (U7 90 (U7 86 40).toNat))), .inr (.inr 92)], (am_sh, am_mm U9))) 5 (fun _ => rfl) ?_
      obtain ⟨r10, U10, ha2a1aaaac, ha2a1aaaaa⟩ := ha2a1aaaa
      refine ev_cal (σc := (d, 267, 0, [some (.inr (.inr 86)), some (.inl 0), none], [], (am_sh, am_mm U9))) (fun _ => rfl) ha2a1aaaac ?_
      show Ev kz ((d + 1), 189, 72, [some (.inr (.inr 86)), some (.inl (w32 ((w32 (12 * (U7 86 40))) + (U7 90 (U7 86 40).toNat))))], [.inl r10, .inl (w32 ((w32 (12 * (U7 86 40))) + (U7 90 (U7 86 40).toNat))), .inr (.inr 92)], (am_sh, am_mm U10)) R
      refine eu_iast 92 (n := 24) rfl (by decide) rfl (fun _ => rfl) ha2a1aaaaa.1 ?_
      have ha2a1aaaaaa := ha2a1aaaaa.2
      refine ev_seg (σ1 := ((d + 1), 189, 77, [some (.inr (.inr 86)), some (.inl (w32 ((w32 (12 * (U7 86 40))) + (U7 90 (U7 86 40).toNat))))], [.inr (.inl 491495845235), .inr (.inr 86)], (am_sh, am_mm (am_upd U10 92 (w32 ((w32 (12 * (U7 86 40))) + (U7 90 (U7 86 40).toNat))).toNat r10)))) 2 (fun _ => rfl) ?_
      obtain ⟨U11, ha2a1aaaaaac, ha2a1aaaaaaa⟩ := ha2a1aaaaaa
      refine ev_cal (σc := (d, 266, 0, [some (.inr (.inr 86)), some (.inr (.inl 491495845235)), none], [], (am_sh, am_mm (am_upd U10 92 (w32 ((w32 (12 * (U7 86 40))) + (U7 90 (U7 86 40).toNat))).toNat r10)))) (fun _ => rfl) ha2a1aaaaaac ?_
      show Ev kz ((d + 1), 189, 80, [some (.inr (.inr 86)), some (.inl (w32 ((w32 (12 * (U7 86 40))) + (U7 90 (U7 86 40).toNat))))], [], (am_sh, am_mm U11)) R
      refine ev_seg (σ1 := ((d + 1), 189, 89, [some (.inr (.inr 86)), some (.inl (w32 ((w32 (12 * (U7 86 40))) + (U7 90 (U7 86 40).toNat))))], [.inl 6, .inl 1, .inr (.inr 86), .inl (w32 ((w32 (12 * (U7 86 40))) + (U7 90 (U7 86 40).toNat))), .inr (.inr 93)], (am_sh, am_mm U11))) 6 (fun _ => rfl) ?_
      obtain ⟨r12, U12, ha2a1aaaaaaac, ha2a1aaaaaaaa⟩ := ha2a1aaaaaaa
      refine ev_cal (σc := (d, 268, 0, [some (.inr (.inr 86)), some (.inl 1), some (.inl 6), none], [], (am_sh, am_mm U11))) (fun _ => rfl) ha2a1aaaaaaac ?_
      show Ev kz ((d + 1), 189, 92, [some (.inr (.inr 86)), some (.inl (w32 ((w32 (12 * (U7 86 40))) + (U7 90 (U7 86 40).toNat))))], [.inl r12, .inl (w32 ((w32 (12 * (U7 86 40))) + (U7 90 (U7 86 40).toNat))), .inr (.inr 93)], (am_sh, am_mm U12)) R
      refine eu_iast 93 (n := 24) rfl (by decide) rfl (fun _ => rfl) ha2a1aaaaaaaa.1 ?_
      have ha2a1aaaaaaaaa := ha2a1aaaaaaaa.2
      refine ev_br (P := ¬ ((am_upd U12 93 (w32 ((w32 (12 * (U7 86 40))) + (U7 90 (U7 86 40).toNat))).toNat r12) 86 8) = 0) (σ1 := ((d + 1), 189, 113, [some (.inr (.inr 86)), some (.inl (w32 ((w32 (12 * (U7 86 40))) + (U7 90 (U7 86 40).toNat))))], [], (am_sh, am_mm (am_upd U12 93 (w32 ((w32 (12 * (U7 86 40))) + (U7 90 (U7 86 40).toNat))).toNat r12)))) (σ2 := ((d + 1), 189, 100, [some (.inr (.inr 86)), some (.inl (w32 ((w32 (12 * (U7 86 40))) + (U7 90 (U7 86 40).toNat))))], [], (am_sh, am_mm (am_upd U12 93 (w32 ((w32 (12 * (U7 86 40))) + (U7 90 (U7 86 40).toNat))).toNat r12)))) 3 (fun _ => rfl) (fun hc => ?_) (fun hc => ?_)
      · have ha2a1aaaaaaaaa1 := ha2a1aaaaaaaaa.1 hc
        subst ha2a1aaaaaaaaa1
        exact ev_end 1 (fun _ => rfl)
      · have ha2a1aaaaaaaaa2 := ha2a1aaaaaaaaa.2 hc
        refine ev_seg (σ1 := ((d + 1), 189, 109, [some (.inr (.inr 86)), some (.inl (w32 ((w32 (12 * (U7 86 40))) + (U7 90 (U7 86 40).toNat))))], [.inl ((am_upd U12 93 (w32 ((w32 (12 * (U7 86 40))) + (U7 90 (U7 86 40).toNat))).toNat r12) 86 40), .inr (.inr 90), .inl ((am_upd U12 93 (w32 ((w32 (12 * (U7 86 40))) + (U7 90 (U7 86 40).toNat))).toNat r12) 86 40), .inr (.inr 90)], (am_sh, am_mm (am_upd U12 93 (w32 ((w32 (12 * (U7 86 40))) + (U7 90 (U7 86 40).toNat))).toNat r12)))) 5 (fun _ => rfl) ?_
        refine eu_iald 90 (n := 2) rfl (by decide) rfl (fun _ => rfl) ha2a1aaaaaaaaa2.1 ?_
        have ha2a1aaaaaaaaa2a := ha2a1aaaaaaaaa2.2
        refine ev_seg (σ1 := ((d + 1), 189, 112, [some (.inr (.inr 86)), some (.inl (w32 ((w32 (12 * (U7 86 40))) + (U7 90 (U7 86 40).toNat))))], [.inl (w32 (((am_upd U12 93 (w32 ((w32 (12 * (U7 86 40))) + (U7 90 (U7 86 40).toNat))).toNat r12) 90 ((am_upd U12 93 (w32 ((w32 (12 * (U7 86 40))) + (U7 90 (U7 86 40).toNat))).toNat r12) 86 40).toNat) + 1)), .inl ((am_upd U12 93 (w32 ((w32 (12 * (U7 86 40))) + (U7 90 (U7 86 40).toNat))).toNat r12) 86 40), .inr (.inr 90)], (am_sh, am_mm (am_upd U12 93 (w32 ((w32 (12 * (U7 86 40))) + (U7 90 (U7 86 40).toNat))).toNat r12)))) 2 (fun _ => rfl) ?_
        refine eu_iast 90 (n := 2) rfl (by decide) rfl (fun _ => rfl) ha2a1aaaaaaaaa2a.1 ?_
        have ha2a1aaaaaaaaa2aa := ha2a1aaaaaaaaa2a.2
        subst ha2a1aaaaaaaaa2aa
        exact ev_end 1 (fun _ => rfl)
    · have ha2a2 := ha2a.2 hc
      subst ha2a2
      exact ev_end 1 (fun _ => rfl)
theorem st188_86_0 (kz : am_Z) (d : Nat) (U : Nat → Nat → Int) (R : Option am_V × am_M) (h : (0 ≤ (U 86 40) ∧ (U 86 40) < 2) ∧ (((¬ (U 88 (U 86 40).toNat) = 4 : Prop)) → ∃ (r1 : Int) (U1 : Nat → Nat → Int), Ev kz (d, 264, 0, [some (.inr (.inr 86)), some (.inl 0)], [], (am_sh, am_mm U)) (some (.inl r1), (am_sh, am_mm U1)) ∧ (((¬ r1 = 0 : Prop)) → (0 ≤ (U1 86 40) ∧ (U1 86 40) < 2) ∧ ∃ (r2 : Int) (U2 : Nat → Nat → Int), Ev kz (d, 265, 0, [some (.inr (.inr 86)), none, none], [], (am_sh, am_mm U1)) (some (.inr (.inl r2)), (am_sh, am_mm U2)) ∧ (0 ≤ (w32 ((w32 (4 * (U1 86 40))) + (U1 88 (U1 86 40).toNat))) ∧ (w32 ((w32 (4 * (U1 86 40))) + (U1 88 (U1 86 40).toNat))) < 8) ∧ (((¬ ((am_upd U2 89 (w32 ((w32 (4 * (U1 86 40))) + (U1 88 (U1 86 40).toNat))).toNat r2) 86 8) = 0 : Prop)) → R = (none, (am_sh, am_mm (am_upd U2 89 (w32 ((w32 (4 * (U1 86 40))) + (U1 88 (U1 86 40).toNat))).toNat r2)))) ∧ (¬ (¬ ((am_upd U2 89 (w32 ((w32 (4 * (U1 86 40))) + (U1 88 (U1 86 40).toNat))).toNat r2) 86 8) = 0) → (0 ≤ ((am_upd U2 89 (w32 ((w32 (4 * (U1 86 40))) + (U1 88 (U1 86 40).toNat))).toNat r2) 86 40) ∧ ((am_upd U2 89 (w32 ((w32 (4 * (U1 86 40))) + (U1 88 (U1 86 40).toNat))).toNat r2) 86 40) < 2) ∧ (0 ≤ ((am_upd U2 89 (w32 ((w32 (4 * (U1 86 40))) + (U1 88 (U1 86 40).toNat))).toNat r2) 86 40) ∧ ((am_upd U2 89 (w32 ((w32 (4 * (U1 86 40))) + (U1 88 (U1 86 40).toNat))).toNat r2) 86 40) < 2) ∧ R = (none, (am_sh, am_mm (am_upd (am_upd U2 89 (w32 ((w32 (4 * (U1 86 40))) + (U1 88 (U1 86 40).toNat))).toNat r2) 88 ((am_upd U2 89 (w32 ((w32 (4 * (U1 86 40))) + (U1 88 (U1 86 40).toNat))).toNat r2) 86 40).toNat (w32 (((am_upd U2 89 (w32 ((w32 (4 * (U1 86 40))) + (U1 88 (U1 86 40).toNat))).toNat r2) 88 ((am_upd U2 89 (w32 ((w32 (4 * (U1 86 40))) + (U1 88 (U1 86 40).toNat))).toNat r2) 86 40).toNat) + 1))))))) ∧ (¬ (¬ r1 = 0) → R = (none, (am_sh, am_mm U1)))) ∧ (¬ (¬ (U 88 (U 86 40).toNat) = 4) → ∃ (r3 : Int) (U3 : Nat → Nat → Int), Ev kz (d, 264, 0, [some (.inr (.inr 86)), some (.inl 1)], [], (am_sh, am_mm U)) (some (.inl r3), (am_sh, am_mm U3)) ∧ (((¬ r3 = 0 : Prop)) → (0 ≤ (U3 86 40) ∧ (U3 86 40) < 2) ∧ ∃ (r4 : Int) (U4 : Nat → Nat → Int), Ev kz (d, 265, 0, [some (.inr (.inr 86)), none, none], [], (am_sh, am_mm U3)) (some (.inr (.inl r4)), (am_sh, am_mm U4)) ∧ (0 ≤ (w32 ((w32 (4 * (U3 86 40))) + (U3 88 (U3 86 40).toNat))) ∧ (w32 ((w32 (4 * (U3 86 40))) + (U3 88 (U3 86 40).toNat))) < 8) ∧ (((¬ ((am_upd U4 89 (w32 ((w32 (4 * (U3 86 40))) + (U3 88 (U3 86 40).toNat))).toNat r4) 86 8) = 0 : Prop)) → R = (none, (am_sh, am_mm (am_upd U4 89 (w32 ((w32 (4 * (U3 86 40))) + (U3 88 (U3 86 40).toNat))).toNat r4)))) ∧ (¬ (¬ ((am_upd U4 89 (w32 ((w32 (4 * (U3 86 40))) + (U3 88 (U3 86 40).toNat))).toNat r4) 86 8) = 0) → (0 ≤ ((am_upd U4 89 (w32 ((w32 (4 * (U3 86 40))) + (U3 88 (U3 86 40).toNat))).toNat r4) 86 40) ∧ ((am_upd U4 89 (w32 ((w32 (4 * (U3 86 40))) + (U3 88 (U3 86 40).toNat))).toNat r4) 86 40) < 2) ∧ (0 ≤ ((am_upd U4 89 (w32 ((w32 (4 * (U3 86 40))) + (U3 88 (U3 86 40).toNat))).toNat r4) 86 40) ∧ ((am_upd U4 89 (w32 ((w32 (4 * (U3 86 40))) + (U3 88 (U3 86 40).toNat))).toNat r4) 86 40) < 2) ∧ R = (none, (am_sh, am_mm (am_upd (am_upd U4 89 (w32 ((w32 (4 * (U3 86 40))) + (U3 88 (U3 86 40).toNat))).toNat r4) 88 ((am_upd U4 89 (w32 ((w32 (4 * (U3 86 40))) + (U3 88 (U3 86 40).toNat))).toNat r4) 86 40).toNat (w32 (((am_upd U4 89 (w32 ((w32 (4 * (U3 86 40))) + (U3 88 (U3 86 40).toNat))).toNat r4) 88 ((am_upd U4 89 (w32 ((w32 (4 * (U3 86 40))) + (U3 88 (U3 86 40).toNat))).toNat r4) 86 40).toNat) + 1))))))) ∧ (¬ (¬ r3 = 0) → R = (none, (am_sh, am_mm U3))))) : Ev kz ((d + 1), 188, 0, [some (.inr (.inr 86))], [], (am_sh, am_mm U)) R := by
  refine ev_seg (σ1 := ((d + 1), 188, 9, [some (.inr (.inr 86))], [.inl (U 86 40), .inr (.inr 88), .inr (.inr 86)], (am_sh, am_mm U))) 5 (fun _ => rfl) ?_
  refine eu_iald 88 (n := 2) rfl (by decide) rfl (fun _ => rfl) h.1 ?_
  have ha := h.2
  refine ev_br (P := ¬ (U 88 (U 86 40).toNat) = 4) (σ1 := ((d + 1), 188, 18, [some (.inr (.inr 86))], [.inr (.inr 86)], (am_sh, am_mm U))) (σ2 := ((d + 1), 188, 14, [some (.inr (.inr 86))], [.inr (.inr 86)], (am_sh, am_mm U))) 2 (fun _ => rfl) (fun hc => ?_) (fun hc => ?_)
  · have ha1 := ha.1 hc
    refine ev_seg (σ1 := ((d + 1), 188, 19, [some (.inr (.inr 86))], [.inl 0, .inr (.inr 86)], (am_sh, am_mm U))) 1 (fun _ => rfl) ?_
    obtain ⟨r1, U1, ha1c, ha1a⟩ := ha1
    refine ev_cal (σc := (d, 264, 0, [some (.inr (.inr 86)), some (.inl 0)], [], (am_sh, am_mm U))) (fun _ => rfl) ha1c ?_
    show Ev kz ((d + 1), 188, 22, [some (.inr (.inr 86))], [.inl r1], (am_sh, am_mm U1)) R
    refine ev_br (P := ¬ r1 = 0) (σ1 := ((d + 1), 188, 26, [some (.inr (.inr 86))], [], (am_sh, am_mm U1))) (σ2 := ((d + 1), 188, 25, [some (.inr (.inr 86))], [], (am_sh, am_mm U1))) 1 (fun _ => rfl) (fun hc => ?_) (fun hc => ?_)
    · have ha1a1 := ha1a.1 hc
      refine ev_seg (σ1 := ((d + 1), 188, 44, [some (.inr (.inr 86))], [.inl (U1 86 40), .inr (.inr 88), .inl (w32 (4 * (U1 86 40))), .inr (.inr 89)], (am_sh, am_mm U1))) 10 (fun _ => rfl) ?_
      refine eu_iald 88 (n := 2) rfl (by decide) rfl (fun _ => rfl) ha1a1.1 ?_
      have ha1a1a := ha1a1.2
      refine ev_seg (σ1 := ((d + 1), 188, 47, [some (.inr (.inr 86))], [.inr (.inr 86), .inl (w32 ((w32 (4 * (U1 86 40))) + (U1 88 (U1 86 40).toNat))), .inr (.inr 89)], (am_sh, am_mm U1))) 2 (fun _ => rfl) ?_
      obtain ⟨r2, U2, ha1a1ac, ha1a1aa⟩ := ha1a1a
      refine ev_cal (σc := (d, 265, 0, [some (.inr (.inr 86)), none, none], [], (am_sh, am_mm U1))) (fun _ => rfl) ha1a1ac ?_
      show Ev kz ((d + 1), 188, 50, [some (.inr (.inr 86))], [.inr (.inl r2), .inl (w32 ((w32 (4 * (U1 86 40))) + (U1 88 (U1 86 40).toNat))), .inr (.inr 89)], (am_sh, am_mm U2)) R
      refine eu_last 89 (n := 8) rfl (by decide) rfl (fun _ => rfl) ha1a1aa.1 ?_
      have ha1a1aaa := ha1a1aa.2
      refine ev_br (P := ¬ ((am_upd U2 89 (w32 ((w32 (4 * (U1 86 40))) + (U1 88 (U1 86 40).toNat))).toNat r2) 86 8) = 0) (σ1 := ((d + 1), 188, 71, [some (.inr (.inr 86))], [], (am_sh, am_mm (am_upd U2 89 (w32 ((w32 (4 * (U1 86 40))) + (U1 88 (U1 86 40).toNat))).toNat r2)))) (σ2 := ((d + 1), 188, 58, [some (.inr (.inr 86))], [], (am_sh, am_mm (am_upd U2 89 (w32 ((w32 (4 * (U1 86 40))) + (U1 88 (U1 86 40).toNat))).toNat r2)))) 3 (fun _ => rfl) (fun hc => ?_) (fun hc => ?_)
      · have ha1a1aaa1 := ha1a1aaa.1 hc
        subst ha1a1aaa1
        exact ev_end 1 (fun _ => rfl)
      · have ha1a1aaa2 := ha1a1aaa.2 hc
        refine ev_seg (σ1 := ((d + 1), 188, 67, [some (.inr (.inr 86))], [.inl ((am_upd U2 89 (w32 ((w32 (4 * (U1 86 40))) + (U1 88 (U1 86 40).toNat))).toNat r2) 86 40), .inr (.inr 88), .inl ((am_upd U2 89 (w32 ((w32 (4 * (U1 86 40))) + (U1 88 (U1 86 40).toNat))).toNat r2) 86 40), .inr (.inr 88)], (am_sh, am_mm (am_upd U2 89 (w32 ((w32 (4 * (U1 86 40))) + (U1 88 (U1 86 40).toNat))).toNat r2)))) 5 (fun _ => rfl) ?_
        refine eu_iald 88 (n := 2) rfl (by decide) rfl (fun _ => rfl) ha1a1aaa2.1 ?_
        have ha1a1aaa2a := ha1a1aaa2.2
        refine ev_seg (σ1 := ((d + 1), 188, 70, [some (.inr (.inr 86))], [.inl (w32 (((am_upd U2 89 (w32 ((w32 (4 * (U1 86 40))) + (U1 88 (U1 86 40).toNat))).toNat r2) 88 ((am_upd U2 89 (w32 ((w32 (4 * (U1 86 40))) + (U1 88 (U1 86 40).toNat))).toNat r2) 86 40).toNat) + 1)), .inl ((am_upd U2 89 (w32 ((w32 (4 * (U1 86 40))) + (U1 88 (U1 86 40).toNat))).toNat r2) 86 40), .inr (.inr 88)], (am_sh, am_mm (am_upd U2 89 (w32 ((w32 (4 * (U1 86 40))) + (U1 88 (U1 86 40).toNat))).toNat r2)))) 2 (fun _ => rfl) ?_
        refine eu_iast 88 (n := 2) rfl (by decide) rfl (fun _ => rfl) ha1a1aaa2a.1 ?_
        have ha1a1aaa2aa := ha1a1aaa2a.2
        subst ha1a1aaa2aa
        exact ev_end 1 (fun _ => rfl)
    · have ha1a2 := ha1a.2 hc
      subst ha1a2
      exact ev_end 1 (fun _ => rfl)
  · have ha2 := ha.2 hc
    refine ev_seg (σ1 := ((d + 1), 188, 19, [some (.inr (.inr 86))], [.inl 1, .inr (.inr 86)], (am_sh, am_mm U))) 2 (fun _ => rfl) ?_
    obtain ⟨r3, U3, ha2c, ha2a⟩ := ha2
    refine ev_cal (σc := (d, 264, 0, [some (.inr (.inr 86)), some (.inl 1)], [], (am_sh, am_mm U))) (fun _ => rfl) ha2c ?_
    show Ev kz ((d + 1), 188, 22, [some (.inr (.inr 86))], [.inl r3], (am_sh, am_mm U3)) R
    refine ev_br (P := ¬ r3 = 0) (σ1 := ((d + 1), 188, 26, [some (.inr (.inr 86))], [], (am_sh, am_mm U3))) (σ2 := ((d + 1), 188, 25, [some (.inr (.inr 86))], [], (am_sh, am_mm U3))) 1 (fun _ => rfl) (fun hc => ?_) (fun hc => ?_)
    · have ha2a1 := ha2a.1 hc
      refine ev_seg (σ1 := ((d + 1), 188, 44, [some (.inr (.inr 86))], [.inl (U3 86 40), .inr (.inr 88), .inl (w32 (4 * (U3 86 40))), .inr (.inr 89)], (am_sh, am_mm U3))) 10 (fun _ => rfl) ?_
      refine eu_iald 88 (n := 2) rfl (by decide) rfl (fun _ => rfl) ha2a1.1 ?_
      have ha2a1a := ha2a1.2
      refine ev_seg (σ1 := ((d + 1), 188, 47, [some (.inr (.inr 86))], [.inr (.inr 86), .inl (w32 ((w32 (4 * (U3 86 40))) + (U3 88 (U3 86 40).toNat))), .inr (.inr 89)], (am_sh, am_mm U3))) 2 (fun _ => rfl) ?_
      obtain ⟨r4, U4, ha2a1ac, ha2a1aa⟩ := ha2a1a
      refine ev_cal (σc := (d, 265, 0, [some (.inr (.inr 86)), none, none], [], (am_sh, am_mm U3))) (fun _ => rfl) ha2a1ac ?_
      show Ev kz ((d + 1), 188, 50, [some (.inr (.inr 86))], [.inr (.inl r4), .inl (w32 ((w32 (4 * (U3 86 40))) + (U3 88 (U3 86 40).toNat))), .inr (.inr 89)], (am_sh, am_mm U4)) R
      refine eu_last 89 (n := 8) rfl (by decide) rfl (fun _ => rfl) ha2a1aa.1 ?_
      have ha2a1aaa := ha2a1aa.2
      refine ev_br (P := ¬ ((am_upd U4 89 (w32 ((w32 (4 * (U3 86 40))) + (U3 88 (U3 86 40).toNat))).toNat r4) 86 8) = 0) (σ1 := ((d + 1), 188, 71, [some (.inr (.inr 86))], [], (am_sh, am_mm (am_upd U4 89 (w32 ((w32 (4 * (U3 86 40))) + (U3 88 (U3 86 40).toNat))).toNat r4)))) (σ2 := ((d + 1), 188, 58, [some (.inr (.inr 86))], [], (am_sh, am_mm (am_upd U4 89 (w32 ((w32 (4 * (U3 86 40))) + (U3 88 (U3 86 40).toNat))).toNat r4)))) 3 (fun _ => rfl) (fun hc => ?_) (fun hc => ?_)
      · have ha2a1aaa1 := ha2a1aaa.1 hc
        subst ha2a1aaa1
        exact ev_end 1 (fun _ => rfl)
      · have ha2a1aaa2 := ha2a1aaa.2 hc
        refine ev_seg (σ1 := ((d + 1), 188, 67, [some (.inr (.inr 86))], [.inl ((am_upd U4 89 (w32 ((w32 (4 * (U3 86 40))) + (U3 88 (U3 86 40).toNat))).toNat r4) 86 40), .inr (.inr 88), .inl ((am_upd U4 89 (w32 ((w32 (4 * (U3 86 40))) + (U3 88 (U3 86 40).toNat))).toNat r4) 86 40), .inr (.inr 88)], (am_sh, am_mm (am_upd U4 89 (w32 ((w32 (4 * (U3 86 40))) + (U3 88 (U3 86 40).toNat))).toNat r4)))) 5 (fun _ => rfl) ?_
        refine eu_iald 88 (n := 2) rfl (by decide) rfl (fun _ => rfl) ha2a1aaa2.1 ?_
        have ha2a1aaa2a := ha2a1aaa2.2
        refine ev_seg (σ1 := ((d + 1), 188, 70, [some (.inr (.inr 86))], [.inl (w32 (((am_upd U4 89 (w32 ((w32 (4 * (U3 86 40))) + (U3 88 (U3 86 40).toNat))).toNat r4) 88 ((am_upd U4 89 (w32 ((w32 (4 * (U3 86 40))) + (U3 88 (U3 86 40).toNat))).toNat r4) 86 40).toNat) + 1)), .inl ((am_upd U4 89 (w32 ((w32 (4 * (U3 86 40))) + (U3 88 (U3 86 40).toNat))).toNat r4) 86 40), .inr (.inr 88)], (am_sh, am_mm (am_upd U4 89 (w32 ((w32 (4 * (U3 86 40))) + (U3 88 (U3 86 40).toNat))).toNat r4)))) 2 (fun _ => rfl) ?_
        refine eu_iast 88 (n := 2) rfl (by decide) rfl (fun _ => rfl) ha2a1aaa2a.1 ?_
        have ha2a1aaa2aa := ha2a1aaa2a.2
        subst ha2a1aaa2aa
        exact ev_end 1 (fun _ => rfl)
    · have ha2a2 := ha2a.2 hc
      subst ha2a2
      exact ev_end 1 (fun _ => rfl)
theorem st191_86_0 (kz : am_Z) (d : Nat) (U : Nat → Nat → Int) (R : Option am_V × am_M) (h : (0 ≤ (U 86 40) ∧ (U 86 40) < 2) ∧ (((¬ (U 97 (U 86 40).toNat) = 16 : Prop)) → Ev kz ((d + 1), 191, 20, [some (.inr (.inr 86)), none, none, none, none, none, none], [.inl 0, .inr (.inr 86)], (am_sh, am_mm U)) R) ∧ (¬ (¬ (U 97 (U 86 40).toNat) = 16) → Ev kz ((d + 1), 191, 20, [some (.inr (.inr 86)), none, none, none, none, none, none], [.inl 1, .inr (.inr 86)], (am_sh, am_mm U)) R)) : Ev kz ((d + 1), 191, 0, [some (.inr (.inr 86)), none, none, none, none, none, none], [], (am_sh, am_mm U)) R := by
  refine ev_seg (σ1 := ((d + 1), 191, 9, [some (.inr (.inr 86)), none, none, none, none, none, none], [.inl (U 86 40), .inr (.inr 97), .inr (.inr 86)], (am_sh, am_mm U))) 5 (fun _ => rfl) ?_
  refine eu_iald 97 (n := 2) rfl (by decide) rfl (fun _ => rfl) h.1 ?_
  have ha := h.2
  refine ev_br (P := ¬ (U 97 (U 86 40).toNat) = 16) (σ1 := ((d + 1), 191, 19, [some (.inr (.inr 86)), none, none, none, none, none, none], [.inr (.inr 86)], (am_sh, am_mm U))) (σ2 := ((d + 1), 191, 15, [some (.inr (.inr 86)), none, none, none, none, none, none], [.inr (.inr 86)], (am_sh, am_mm U))) 2 (fun _ => rfl) (fun hc => ?_) (fun hc => ?_)
  · have ha1 := ha.1 hc
    refine ev_seg (σ1 := ((d + 1), 191, 20, [some (.inr (.inr 86)), none, none, none, none, none, none], [.inl 0, .inr (.inr 86)], (am_sh, am_mm U))) 1 (fun _ => rfl) ?_
    exact ha1
  · have ha2 := ha.2 hc
    refine ev_seg (σ1 := ((d + 1), 191, 20, [some (.inr (.inr 86)), none, none, none, none, none, none], [.inl 1, .inr (.inr 86)], (am_sh, am_mm U))) 2 (fun _ => rfl) ?_
    exact ha2
theorem st191_86_20 (kz : am_Z) (d : Nat) (s1 : Int) (U : Nat → Nat → Int) (R : Option am_V × am_M) (h : ∃ (r1 : Int) (U1 : Nat → Nat → Int), Ev kz (d, 264, 0, [some (.inr (.inr 86)), some (.inl s1)], [], (am_sh, am_mm U)) (some (.inl r1), (am_sh, am_mm U1)) ∧ (((¬ r1 = 0 : Prop)) → (0 ≤ (U1 86 40) ∧ (U1 86 40) < 2) ∧ ∃ U2 : Nat → Nat → Int, Ev kz (d, 186, 0, [some (.inr (.inr 86))], [], (am_sh, am_mm U1)) (none, (am_sh, am_mm U2)) ∧ (((¬ (U2 86 8) = 0 : Prop)) → (((0 = 0 : Prop)) → ∃ U3 : Nat → Nat → Int, Ev kz (d, 186, 0, [some (.inr (.inr 86))], [], (am_sh, am_mm U2)) (none, (am_sh, am_mm U3)) ∧ (((¬ (U3 86 8) = 0 : Prop)) → Ev kz ((d + 1), 191, 112, [some (.inr (.inr 86)), some (.inl (w32 ((w32 (16 * (U1 86 40))) + (U1 97 (U1 86 40).toNat)))), some (.inl 0), some (.inl (U2 86 4)), none, none, none], [], (am_sh, am_mm U3)) R) ∧ (¬ (¬ (U3 86 8) = 0) → ((((U3 86 3) = 2 : Prop)) → Ev kz ((d + 1), 191, 112, [some (.inr (.inr 86)), some (.inl (w32 ((w32 (16 * (U1 86 40))) + (U1 97 (U1 86 40).toNat)))), some (.inl 0), some (.inl (U2 86 4)), none, none, none], [], (am_sh, am_mm U3)) R) ∧ (¬ ((U3 86 3) = 2) → ∃ U4 : Nat → Nat → Int, Ev kz (d, 196, 0, [some (.inr (.inr 86)), some (.inl 1), some (.inl (U3 86 4))], [], (am_sh, am_mm U3)) (none, (am_sh, am_mm U4)) ∧ Ev kz ((d + 1), 191, 112, [some (.inr (.inr 86)), some (.inl (w32 ((w32 (16 * (U1 86 40))) + (U1 97 (U1 86 40).toNat)))), some (.inl 0), some (.inl (U2 86 4)), none, none, none], [], (am_sh, am_mm U4)) R))) ∧ (¬ (0 = 0) → ∃ U5 : Nat → Nat → Int, Ev kz (d, 93, 0, [some (.inr (.inr 86)), none, none, none, none, none], [], (am_sh, am_mm U2)) (none, (am_sh, am_mm U5)) ∧ ∃ U6 : Nat → Nat → Int, Ev kz (d, 186, 0, [some (.inr (.inr 86))], [], (am_sh, am_mm U5)) (none, (am_sh, am_mm U6)) ∧ (((¬ (U6 86 8) = 0 : Prop)) → Ev kz ((d + 1), 191, 112, [some (.inr (.inr 86)), some (.inl (w32 ((w32 (16 * (U1 86 40))) + (U1 97 (U1 86 40).toNat)))), some (.inl 0), some (.inl (U2 86 4)), none, none, none], [], (am_sh, am_mm U6)) R) ∧ (¬ (¬ (U6 86 8) = 0) → ((((U6 86 3) = 2 : Prop)) → Ev kz ((d + 1), 191, 112, [some (.inr (.inr 86)), some (.inl (w32 ((w32 (16 * (U1 86 40))) + (U1 97 (U1 86 40).toNat)))), some (.inl 0), some (.inl (U2 86 4)), none, none, none], [], (am_sh, am_mm U6)) R) ∧ (¬ ((U6 86 3) = 2) → ∃ U7 : Nat → Nat → Int, Ev kz (d, 196, 0, [some (.inr (.inr 86)), some (.inl 1), some (.inl (U6 86 4))], [], (am_sh, am_mm U6)) (none, (am_sh, am_mm U7)) ∧ Ev kz ((d + 1), 191, 112, [some (.inr (.inr 86)), some (.inl (w32 ((w32 (16 * (U1 86 40))) + (U1 97 (U1 86 40).toNat)))), some (.inl 0), some (.inl (U2 86 4)), none, none, none], [], (am_sh, am_mm U7)) R)))) ∧ (¬ (¬ (U2 86 8) = 0) → ∃ (r8 : Int) (U8 : Nat → Nat → Int), Ev kz (d, 197, 0, [some (.inr (.inr 86)), some (.inl 45)], [], (am_sh, am_mm U2)) (some (.inl r8), (am_sh, am_mm U8)) ∧ (((r8 = 0 : Prop)) → (((0 = 0 : Prop)) → ∃ U9 : Nat → Nat → Int, Ev kz (d, 186, 0, [some (.inr (.inr 86))], [], (am_sh, am_mm U8)) (none, (am_sh, am_mm U9)) ∧ (((¬ (U9 86 8) = 0 : Prop)) → Ev kz ((d + 1), 191, 112, [some (.inr (.inr 86)), some (.inl (w32 ((w32 (16 * (U1 86 40))) + (U1 97 (U1 86 40).toNat)))), some (.inl 0), some (.inl (U8 86 4)), none, none, none], [], (am_sh, am_mm U9)) R) ∧ (¬ (¬ (U9 86 8) = 0) → ((((U9 86 3) = 2 : Prop)) → Ev kz ((d + 1), 191, 112, [some (.inr (.inr 86)), some (.inl (w32 ((w32 (16 * (U1 86 40))) + (U1 97 (U1 86 40).toNat)))), some (.inl 0), some (.inl (U8 86 4)), none, none, none], [], (am_sh, am_mm U9)) R) ∧ (¬ ((U9 86 3) = 2) → ∃ U10 : Nat → Nat → Int, Ev kz (d, 196, 0, [some (.inr (.inr 86)), some (.inl 1), some (.inl (U9 86 4))], [], (am_sh, am_mm U9)) (none, (am_sh, am_mm U10)) ∧ Ev kz ((d + 1), 191, 112, [some (.inr (.inr 86)), some (.inl (w32 ((w32 (16 * (U1 86 40))) + (U1 97 (U1 86 40).toNat)))), some (.inl 0), some (.inl (U8 86 4)), none, none, none], [], (am_sh, am_mm U10)) R))) ∧ (¬ (0 = 0) → ∃ U11 : Nat → Nat → Int, Ev kz (d, 93, 0, [some (.inr (.inr 86)), none, none, none, none, none], [], (am_sh, am_mm U8)) (none, (am_sh, am_mm U11)) ∧ ∃ U12 : Nat → Nat → Int, Ev kz (d, 186, 0, [some (.inr (.inr 86))], [], (am_sh, am_mm U11)) (none, (am_sh, am_mm U12)) ∧ (((¬ (U12 86 8) = 0 : Prop)) → Ev kz ((d + 1), 191, 112, [some (.inr (.inr 86)), some (.inl (w32 ((w32 (16 * (U1 86 40))) + (U1 97 (U1 86 40).toNat)))), some (.inl 0), some (.inl (U8 86 4)), none, none, none], [], (am_sh, am_mm U12)) R) ∧ (¬ (¬ (U12 86 8) = 0) → ((((U12 86 3) = 2 : Prop)) → Ev kz ((d + 1), 191, 112, [some (.inr (.inr 86)), some (.inl (w32 ((w32 (16 * (U1 86 40))) + (U1 97 (U1 86 40).toNat)))), some (.inl 0), some (.inl (U8 86 4)), none, none, none], [], (am_sh, am_mm U12)) R) ∧ (¬ ((U12 86 3) = 2) → ∃ U13 : Nat → Nat → Int, Ev kz (d, 196, 0, [some (.inr (.inr 86)), some (.inl 1), some (.inl (U12 86 4))], [], (am_sh, am_mm U12)) (none, (am_sh, am_mm U13)) ∧ Ev kz ((d + 1), 191, 112, [some (.inr (.inr 86)), some (.inl (w32 ((w32 (16 * (U1 86 40))) + (U1 97 (U1 86 40).toNat)))), some (.inl 0), some (.inl (U8 86 4)), none, none, none], [], (am_sh, am_mm U13)) R)))) ∧ (¬ (r8 = 0) → (((1 = 0 : Prop)) → ∃ U14 : Nat → Nat → Int, Ev kz (d, 186, 0, [some (.inr (.inr 86))], [], (am_sh, am_mm U8)) (none, (am_sh, am_mm U14)) ∧ (((¬ (U14 86 8) = 0 : Prop)) → Ev kz ((d + 1), 191, 112, [some (.inr (.inr 86)), some (.inl (w32 ((w32 (16 * (U1 86 40))) + (U1 97 (U1 86 40).toNat)))), some (.inl 1), some (.inl (U8 86 4)), none, none, none], [], (am_sh, am_mm U14)) R) ∧ (¬ (¬ (U14 86 8) = 0) → ((((U14 86 3) = 2 : Prop)) → Ev kz ((d + 1), 191, 112, [some (.inr (.inr 86)), some (.inl (w32 ((w32 (16 * (U1 86 40))) + (U1 97 (U1 86 40).toNat)))), some (.inl 1), some (.inl (U8 86 4)), none, none, none], [], (am_sh, am_mm U14)) R) ∧ (¬ ((U14 86 3) = 2) → ∃ U15 : Nat → Nat → Int, Ev kz (d, 196, 0, [some (.inr (.inr 86)), some (.inl 1), some (.inl (U14 86 4))], [], (am_sh, am_mm U14)) (none, (am_sh, am_mm U15)) ∧ Ev kz ((d + 1), 191, 112, [some (.inr (.inr 86)), some (.inl (w32 ((w32 (16 * (U1 86 40))) + (U1 97 (U1 86 40).toNat)))), some (.inl 1), some (.inl (U8 86 4)), none, none, none], [], (am_sh, am_mm U15)) R))) ∧ (¬ (1 = 0) → ∃ U16 : Nat → Nat → Int, Ev kz (d, 93, 0, [some (.inr (.inr 86)), none, none, none, none, none], [], (am_sh, am_mm U8)) (none, (am_sh, am_mm U16)) ∧ ∃ U17 : Nat → Nat → Int, Ev kz (d, 186, 0, [some (.inr (.inr 86))], [], (am_sh, am_mm U16)) (none, (am_sh, am_mm U17)) ∧ (((¬ (U17 86 8) = 0 : Prop)) → Ev kz ((d + 1), 191, 112, [some (.inr (.inr 86)), some (.inl (w32 ((w32 (16 * (U1 86 40))) + (U1 97 (U1 86 40).toNat)))), some (.inl 1), some (.inl (U8 86 4)), none, none, none], [], (am_sh, am_mm U17)) R) ∧ (¬ (¬ (U17 86 8) = 0) → ((((U17 86 3) = 2 : Prop)) → Ev kz ((d + 1), 191, 112, [some (.inr (.inr 86)), some (.inl (w32 ((w32 (16 * (U1 86 40))) + (U1 97 (U1 86 40).toNat)))), some (.inl 1), some (.inl (U8 86 4)), none, none, none], [], (am_sh, am_mm U17)) R) ∧ (¬ ((U17 86 3) = 2) → ∃ U18 : Nat → Nat → Int, Ev kz (d, 196, 0, [some (.inr (.inr 86)), some (.inl 1), some (.inl (U17 86 4))], [], (am_sh, am_mm U17)) (none, (am_sh, am_mm U18)) ∧ Ev kz ((d + 1), 191, 112, [some (.inr (.inr 86)), some (.inl (w32 ((w32 (16 * (U1 86 40))) + (U1 97 (U1 86 40).toNat)))), some (.inl 1), some (.inl (U8 86 4)), none, none, none], [], (am_sh, am_mm U18)) R)))))) ∧ (¬ (¬ r1 = 0) → R = (none, (am_sh, am_mm U1)))) : Ev kz ((d + 1), 191, 20, [some (.inr (.inr 86)), none, none, none, none, none, none], [.inl s1, .inr (.inr 86)], (am_sh, am_mm U)) R := by
  obtain ⟨r1, U1, hc, ha⟩ := h
  refine ev_cal (σc := (d, 264, 0, [some (.inr (.inr 86)), some (.inl s1)], [], (am_sh, am_mm U))) (fun _ => rfl) hc ?_
  show Ev kz ((d + 1), 191, 23, [some (.inr (.inr 86)), none, none, none, none, none, none], [.inl r1], (am_sh, am_mm U1)) R
  refine ev_br (P := ¬ r1 = 0) (σ1 := ((d + 1), 191, 27, [some (.inr (.inr 86)), none, none, none, none, none, none], [], (am_sh, am_mm U1))) (σ2 := ((d + 1), 191, 26, [some (.inr (.inr 86)), none, none, none, none, none, none], [], (am_sh, am_mm U1))) 1 (fun _ => rfl) (fun hc => ?_) (fun hc => ?_)
  · have ha1 := ha.1 hc
    refine ev_seg (σ1 := ((d + 1), 191, 42, [some (.inr (.inr 86)), none, none, none, none, none, none], [.inl (U1 86 40), .inr (.inr 97), .inl (w32 (16 * (U1 86 40)))], (am_sh, am_mm U1))) 8 (fun _ => rfl) ?_
    refine eu_iald 97 (n := 2) rfl (by decide) rfl (fun _ => rfl) ha1.1 ?_
    have ha1a := ha1.2
    refine ev_seg (σ1 := ((d + 1), 191, 46, [some (.inr (.inr 86)), some (.inl (w32 ((w32 (16 * (U1 86 40))) + (U1 97 (U1 86 40).toNat)))), none, none, none, none, none], [.inr (.inr 86)], (am_sh, am_mm U1))) 3 (fun _ => rfl) ?_
    obtain ⟨U2, ha1ac, ha1aa⟩ := ha1a
    refine ev_cal (σc := (d, 186, 0, [some (.inr (.inr 86))], [], (am_sh, am_mm U1))) (fun _ => rfl) ha1ac ?_
    show Ev kz ((d + 1), 191, 49, [some (.inr (.inr 86)), some (.inl (w32 ((w32 (16 * (U1 86 40))) + (U1 97 (U1 86 40).toNat)))), none, none, none, none, none], [], (am_sh, am_mm U2)) R
    refine ev_br (P := ¬ (U2 86 8) = 0) (σ1 := ((d + 1), 191, 69, [some (.inr (.inr 86)), some (.inl (w32 ((w32 (16 * (U1 86 40))) + (U1 97 (U1 86 40).toNat)))), none, none, none, none, none], [], (am_sh, am_mm U2))) (σ2 := ((d + 1), 191, 56, [some (.inr (.inr 86)), some (.inl (w32 ((w32 (16 * (U1 86 40))) + (U1 97 (U1 86 40).toNat)))), none, none, none, none, none], [], (am_sh, am_mm U2))) 3 (fun _ => rfl) (fun hc => ?_) (fun hc => ?_)
    · have ha1aa1 := ha1aa.1 hc
      refine ev_br (P := 0 = 0) (σ1 := ((d + 1), 191, 84, [some (.inr (.inr 86)), some (.inl (w32 ((w32 (16 * (U1 86 40))) + (U1 97 (U1 86 40).toNat)))), some (.inl 0), some (.inl (U2 86 4)), none, none, none], [], (am_sh, am_mm U2))) (σ2 := ((d + 1), 191, 80, [some (.inr (.inr 86)), some (.inl (w32 ((w32 (16 * (U1 86 40))) + (U1 97 (U1 86 40).toNat)))), some (.inl 0), some (.inl (U2 86 4)), none, none, none], [], (am_sh, am_mm U2))) 7 (fun _ => rfl) (fun hc => ?_) (fun hc => ?_)
      · have ha1aa11 := ha1aa1.1 hc
        refine ev_seg (σ1 := ((d + 1), 191, 85, [some (.inr (.inr 86)), some (.inl (w32 ((w32 (16 * (U1 86 40))) + (U1 97 (U1 86 40).toNat)))), some (.inl 0), some (.inl (U2 86 4)), none, none, none], [.inr (.inr 86)], (am_sh, am_mm U2))) 1 (fun _ => rfl) ?_
        obtain ⟨U3, ha1aa11c, ha1aa11a⟩ := ha1aa11
        refine ev_cal (σc := (d, 186, 0, [some (.inr (.inr 86))], [], (am_sh, am_mm U2))) (fun _ => rfl) ha1aa11c ?_
        show Ev kz ((d + 1), 191, 88, [some (.inr (.inr 86)), some (.inl (w32 ((w32 (16 * (U1 86 40))) + (U1 97 (U1 86 40).toNat)))), some (.inl 0), some (.inl (U2 86 4)), none, none, none], [], (am_sh, am_mm U3)) R
        refine ev_br (P := ¬ (U3 86 8) = 0) (σ1 := ((d + 1), 191, 112, [some (.inr (.inr 86)), some (.inl (w32 ((w32 (16 * (U1 86 40))) + (U1 97 (U1 86 40).toNat)))), some (.inl 0), some (.inl (U2 86 4)), none, none, none], [], (am_sh, am_mm U3))) (σ2 := ((d + 1), 191, 95, [some (.inr (.inr 86)), some (.inl (w32 ((w32 (16 * (U1 86 40))) + (U1 97 (U1 86 40).toNat)))), some (.inl 0), some (.inl (U2 86 4)), none, none, none], [], (am_sh, am_mm U3))) 3 (fun _ => rfl) (fun hc => ?_) (fun hc => ?_)
        · have ha1aa11a1 := ha1aa11a.1 hc
          exact ha1aa11a1
        · have ha1aa11a2 := ha1aa11a.2 hc
          refine ev_br (P := (U3 86 3) = 2) (σ1 := ((d + 1), 191, 112, [some (.inr (.inr 86)), some (.inl (w32 ((w32 (16 * (U1 86 40))) + (U1 97 (U1 86 40).toNat)))), some (.inl 0), some (.inl (U2 86 4)), none, none, none], [], (am_sh, am_mm U3))) (σ2 := ((d + 1), 191, 103, [some (.inr (.inr 86)), some (.inl (w32 ((w32 (16 * (U1 86 40))) + (U1 97 (U1 86 40).toNat)))), some (.inl 0), some (.inl (U2 86 4)), none, none, none], [], (am_sh, am_mm U3))) 4 (fun _ => rfl) (fun hc => ?_) (fun hc => ?_)
          · have ha1aa11a21 := ha1aa11a2.1 hc
            exact ha1aa11a21
          · have ha1aa11a22 := ha1aa11a2.2 hc
            refine ev_seg (σ1 := ((d + 1), 191, 109, [some (.inr (.inr 86)), some (.inl (w32 ((w32 (16 * (U1 86 40))) + (U1 97 (U1 86 40).toNat)))), some (.inl 0), some (.inl (U2 86 4)), none, none, none], [.inl (U3 86 4), .inl 1, .inr (.inr 86)], (am_sh, am_mm U3))) 4 (fun _ => rfl) ?_
            obtain ⟨U4, ha1aa11a22c, ha1aa11a22a⟩ := ha1aa11a22
            refine ev_cal (σc := (d, 196, 0, [some (.inr (.inr 86)), some (.inl 1), some (.inl (U3 86 4))], [], (am_sh, am_mm U3))) (fun _ => rfl) ha1aa11a22c ?_
            show Ev kz ((d + 1), 191, 112, [some (.inr (.inr 86)), some (.inl (w32 ((w32 (16 * (U1 86 40))) + (U1 97 (U1 86 40).toNat)))), some (.inl 0), some (.inl (U2 86 4)), none, none, none], [], (am_sh, am_mm U4)) R
            exact ha1aa11a22a
      · have ha1aa12 := ha1aa1.2 hc
        refine ev_seg (σ1 := ((d + 1), 191, 81, [some (.inr (.inr 86)), some (.inl (w32 ((w32 (16 * (U1 86 40))) + (U1 97 (U1 86 40).toNat)))), some (.inl 0), some (.inl (U2 86 4)), none, none, none], [.inr (.inr 86)], (am_sh, am_mm U2))) 1 (fun _ => rfl) ?_
        obtain ⟨U5, ha1aa12c, ha1aa12a⟩ := ha1aa12
        refine ev_cal (σc := (d, 93, 0, [some (.inr (.inr 86)), none, none, none, none, none], [], (am_sh, am_mm U2))) (fun _ => rfl) ha1aa12c ?_
        show Ev kz ((d + 1), 191, 84, [some (.inr (.inr 86)), some (.inl (w32 ((w32 (16 * (U1 86 40))) + (U1 97 (U1 86 40).toNat)))), some (.inl 0), some (.inl (U2 86 4)), none, none, none], [], (am_sh, am_mm U5)) R
        refine ev_seg (σ1 := ((d + 1), 191, 85, [some (.inr (.inr 86)), some (.inl (w32 ((w32 (16 * (U1 86 40))) + (U1 97 (U1 86 40).toNat)))), some (.inl 0), some (.inl (U2 86 4)), none, none, none], [.inr (.inr 86)], (am_sh, am_mm U5))) 1 (fun _ => rfl) ?_
        obtain ⟨U6, ha1aa12ac, ha1aa12aa⟩ := ha1aa12a
        refine ev_cal (σc := (d, 186, 0, [some (.inr (.inr 86))], [], (am_sh, am_mm U5))) (fun _ => rfl) ha1aa12ac ?_
        show Ev kz ((d + 1), 191, 88, [some (.inr (.inr 86)), some (.inl (w32 ((w32 (16 * (U1 86 40))) + (U1 97 (U1 86 40).toNat)))), some (.inl 0), some (.inl (U2 86 4)), none, none, none], [], (am_sh, am_mm U6)) R
        refine ev_br (P := ¬ (U6 86 8) = 0) (σ1 := ((d + 1), 191, 112, [some (.inr (.inr 86)), some (.inl (w32 ((w32 (16 * (U1 86 40))) + (U1 97 (U1 86 40).toNat)))), some (.inl 0), some (.inl (U2 86 4)), none, none, none], [], (am_sh, am_mm U6))) (σ2 := ((d + 1), 191, 95, [some (.inr (.inr 86)), some (.inl (w32 ((w32 (16 * (U1 86 40))) + (U1 97 (U1 86 40).toNat)))), some (.inl 0), some (.inl (U2 86 4)), none, none, none], [], (am_sh, am_mm U6))) 3 (fun _ => rfl) (fun hc => ?_) (fun hc => ?_)
        · have ha1aa12aa1 := ha1aa12aa.1 hc
          exact ha1aa12aa1
        · have ha1aa12aa2 := ha1aa12aa.2 hc
          refine ev_br (P := (U6 86 3) = 2) (σ1 := ((d + 1), 191, 112, [some (.inr (.inr 86)), some (.inl (w32 ((w32 (16 * (U1 86 40))) + (U1 97 (U1 86 40).toNat)))), some (.inl 0), some (.inl (U2 86 4)), none, none, none], [], (am_sh, am_mm U6))) (σ2 := ((d + 1), 191, 103, [some (.inr (.inr 86)), some (.inl (w32 ((w32 (16 * (U1 86 40))) + (U1 97 (U1 86 40).toNat)))), some (.inl 0), some (.inl (U2 86 4)), none, none, none], [], (am_sh, am_mm U6))) 4 (fun _ => rfl) (fun hc => ?_) (fun hc => ?_)
          · have ha1aa12aa21 := ha1aa12aa2.1 hc
            exact ha1aa12aa21
          · have ha1aa12aa22 := ha1aa12aa2.2 hc
            refine ev_seg (σ1 := ((d + 1), 191, 109, [some (.inr (.inr 86)), some (.inl (w32 ((w32 (16 * (U1 86 40))) + (U1 97 (U1 86 40).toNat)))), some (.inl 0), some (.inl (U2 86 4)), none, none, none], [.inl (U6 86 4), .inl 1, .inr (.inr 86)], (am_sh, am_mm U6))) 4 (fun _ => rfl) ?_
            obtain ⟨U7, ha1aa12aa22c, ha1aa12aa22a⟩ := ha1aa12aa22
            refine ev_cal (σc := (d, 196, 0, [some (.inr (.inr 86)), some (.inl 1), some (.inl (U6 86 4))], [], (am_sh, am_mm U6))) (fun _ => rfl) ha1aa12aa22c ?_
            show Ev kz ((d + 1), 191, 112, [some (.inr (.inr 86)), some (.inl (w32 ((w32 (16 * (U1 86 40))) + (U1 97 (U1 86 40).toNat)))), some (.inl 0), some (.inl (U2 86 4)), none, none, none], [], (am_sh, am_mm U7)) R
            exact ha1aa12aa22a
    · have ha1aa2 := ha1aa.2 hc
      refine ev_seg (σ1 := ((d + 1), 191, 59, [some (.inr (.inr 86)), some (.inl (w32 ((w32 (16 * (U1 86 40))) + (U1 97 (U1 86 40).toNat)))), none, none, none, none, none], [.inl 45, .inr (.inr 86)], (am_sh, am_mm U2))) 2 (fun _ => rfl) ?_
      obtain ⟨r8, U8, ha1aa2c, ha1aa2a⟩ := ha1aa2
      refine ev_cal (σc := (d, 197, 0, [some (.inr (.inr 86)), some (.inl 45)], [], (am_sh, am_mm U2))) (fun _ => rfl) ha1aa2c ?_
      show Ev kz ((d + 1), 191, 62, [some (.inr (.inr 86)), some (.inl (w32 ((w32 (16 * (U1 86 40))) + (U1 97 (U1 86 40).toNat)))), none, none, none, none, none], [.inl r8], (am_sh, am_mm U8)) R
      refine ev_br (P := r8 = 0) (σ1 := ((d + 1), 191, 69, [some (.inr (.inr 86)), some (.inl (w32 ((w32 (16 * (U1 86 40))) + (U1 97 (U1 86 40).toNat)))), none, none, none, none, none], [], (am_sh, am_mm U8))) (σ2 := ((d + 1), 191, 65, [some (.inr (.inr 86)), some (.inl (w32 ((w32 (16 * (U1 86 40))) + (U1 97 (U1 86 40).toNat)))), none, none, none, none, none], [], (am_sh, am_mm U8))) 1 (fun _ => rfl) (fun hc => ?_) (fun hc => ?_)
      · have ha1aa2a1 := ha1aa2a.1 hc
        refine ev_br (P := 0 = 0) (σ1 := ((d + 1), 191, 84, [some (.inr (.inr 86)), some (.inl (w32 ((w32 (16 * (U1 86 40))) + (U1 97 (U1 86 40).toNat)))), some (.inl 0), some (.inl (U8 86 4)), none, none, none], [], (am_sh, am_mm U8))) (σ2 := ((d + 1), 191, 80, [some (.inr (.inr 86)), some (.inl (w32 ((w32 (16 * (U1 86 40))) + (U1 97 (U1 86 40).toNat)))), some (.inl 0), some (.inl (U8 86 4)), none, none, none], [], (am_sh, am_mm U8))) 7 (fun _ => rfl) (fun hc => ?_) (fun hc => ?_)
        · have ha1aa2a11 := ha1aa2a1.1 hc
          refine ev_seg (σ1 := ((d + 1), 191, 85, [some (.inr (.inr 86)), some (.inl (w32 ((w32 (16 * (U1 86 40))) + (U1 97 (U1 86 40).toNat)))), some (.inl 0), some (.inl (U8 86 4)), none, none, none], [.inr (.inr 86)], (am_sh, am_mm U8))) 1 (fun _ => rfl) ?_
          obtain ⟨U9, ha1aa2a11c, ha1aa2a11a⟩ := ha1aa2a11
          refine ev_cal (σc := (d, 186, 0, [some (.inr (.inr 86))], [], (am_sh, am_mm U8))) (fun _ => rfl) ha1aa2a11c ?_
          show Ev kz ((d + 1), 191, 88, [some (.inr (.inr 86)), some (.inl (w32 ((w32 (16 * (U1 86 40))) + (U1 97 (U1 86 40).toNat)))), some (.inl 0), some (.inl (U8 86 4)), none, none, none], [], (am_sh, am_mm U9)) R
          refine ev_br (P := ¬ (U9 86 8) = 0) (σ1 := ((d + 1), 191, 112, [some (.inr (.inr 86)), some (.inl (w32 ((w32 (16 * (U1 86 40))) + (U1 97 (U1 86 40).toNat)))), some (.inl 0), some (.inl (U8 86 4)), none, none, none], [], (am_sh, am_mm U9))) (σ2 := ((d + 1), 191, 95, [some (.inr (.inr 86)), some (.inl (w32 ((w32 (16 * (U1 86 40))) + (U1 97 (U1 86 40).toNat)))), some (.inl 0), some (.inl (U8 86 4)), none, none, none], [], (am_sh, am_mm U9))) 3 (fun _ => rfl) (fun hc => ?_) (fun hc => ?_)
          · have ha1aa2a11a1 := ha1aa2a11a.1 hc
            exact ha1aa2a11a1
          · have ha1aa2a11a2 := ha1aa2a11a.2 hc
            refine ev_br (P := (U9 86 3) = 2) (σ1 := ((d + 1), 191, 112, [some (.inr (.inr 86)), some (.inl (w32 ((w32 (16 * (U1 86 40))) + (U1 97 (U1 86 40).toNat)))), some (.inl 0), some (.inl (U8 86 4)), none, none, none], [], (am_sh, am_mm U9))) (σ2 := ((d + 1), 191, 103, [some (.inr (.inr 86)), some (.inl (w32 ((w32 (16 * (U1 86 40))) + (U1 97 (U1 86 40).toNat)))), some (.inl 0), some (.inl (U8 86 4)), none, none, none], [], (am_sh, am_mm U9))) 4 (fun _ => rfl) (fun hc => ?_) (fun hc => ?_)
            · have ha1aa2a11a21 := ha1aa2a11a2.1 hc
              exact ha1aa2a11a21
            · have ha1aa2a11a22 := ha1aa2a11a2.2 hc
              refine ev_seg (σ1 := ((d + 1), 191, 109, [some (.inr (.inr 86)), some (.inl (w32 ((w32 (16 * (U1 86 40))) + (U1 97 (U1 86 40).toNat)))), some (.inl 0), some (.inl (U8 86 4)), none, none, none], [.inl (U9 86 4), .inl 1, .inr (.inr 86)], (am_sh, am_mm U9))) 4 (fun _ => rfl) ?_
              obtain ⟨U10, ha1aa2a11a22c, ha1aa2a11a22a⟩ := ha1aa2a11a22
              refine ev_cal (σc := (d, 196, 0, [some (.inr (.inr 86)), some (.inl 1), some (.inl (U9 86 4))], [], (am_sh, am_mm U9))) (fun _ => rfl) ha1aa2a11a22c ?_
              show Ev kz ((d + 1), 191, 112, [some (.inr (.inr 86)), some (.inl (w32 ((w32 (16 * (U1 86 40))) + (U1 97 (U1 86 40).toNat)))), some (.inl 0), some (.inl (U8 86 4)), none, none, none], [], (am_sh, am_mm U10)) R
              exact ha1aa2a11a22a
        · have ha1aa2a12 := ha1aa2a1.2 hc
          refine ev_seg (σ1 := ((d + 1), 191, 81, [some (.inr (.inr 86)), some (.inl (w32 ((w32 (16 * (U1 86 40))) + (U1 97 (U1 86 40).toNat)))), some (.inl 0), some (.inl (U8 86 4)), none, none, none], [.inr (.inr 86)], (am_sh, am_mm U8))) 1 (fun _ => rfl) ?_
          obtain ⟨U11, ha1aa2a12c, ha1aa2a12a⟩ := ha1aa2a12
          refine ev_cal (σc := (d, 93, 0, [some (.inr (.inr 86)), none, none, none, none, none], [], (am_sh, am_mm U8))) (fun _ => rfl) ha1aa2a12c ?_
          show Ev kz ((d + 1), 191, 84, [some (.inr (.inr 86)), some (.inl (w32 ((w32 (16 * (U1 86 40))) + (U1 97 (U1 86 40).toNat)))), some (.inl 0), some (.inl (U8 86 4)), none, none, none], [], (am_sh, am_mm U11)) R
          refine ev_seg (σ1 := ((d + 1), 191, 85, [some (.inr (.inr 86)), some (.inl (w32 ((w32 (16 * (U1 86 40))) + (U1 97 (U1 86 40).toNat)))), some (.inl 0), some (.inl (U8 86 4)), none, none, none], [.inr (.inr 86)], (am_sh, am_mm U11))) 1 (fun _ => rfl) ?_
          obtain ⟨U12, ha1aa2a12ac, ha1aa2a12aa⟩ := ha1aa2a12a
          refine ev_cal (σc := (d, 186, 0, [some (.inr (.inr 86))], [], (am_sh, am_mm U11))) (fun _ => rfl) ha1aa2a12ac ?_
          show Ev kz ((d + 1), 191, 88, [some (.inr (.inr 86)), some (.inl (w32 ((w32 (16 * (U1 86 40))) + (U1 97 (U1 86 40).toNat)))), some (.inl 0), some (.inl (U8 86 4)), none, none, none], [], (am_sh, am_mm U12)) R
          refine ev_br (P := ¬ (U12 86 8) = 0) (σ1 := ((d + 1), 191, 112, [some (.inr (.inr 86)), some (.inl (w32 ((w32 (16 * (U1 86 40))) + (U1 97 (U1 86 40).toNat)))), some (.inl 0), some (.inl (U8 86 4)), none, none, none], [], (am_sh, am_mm U12))) (σ2 := ((d + 1), 191, 95, [some (.inr (.inr 86)), some (.inl (w32 ((w32 (16 * (U1 86 40))) + (U1 97 (U1 86 40).toNat)))), some (.inl 0), some (.inl (U8 86 4)), none, none, none], [], (am_sh, am_mm U12))) 3 (fun _ => rfl) (fun hc => ?_) (fun hc => ?_)
          · have ha1aa2a12aa1 := ha1aa2a12aa.1 hc
            exact ha1aa2a12aa1
          · have ha1aa2a12aa2 := ha1aa2a12aa.2 hc
            refine ev_br (P := (U12 86 3) = 2) (σ1 := ((d + 1), 191, 112, [some (.inr (.inr 86)), some (.inl (w32 ((w32 (16 * (U1 86 40))) + (U1 97 (U1 86 40).toNat)))), some (.inl 0), some (.inl (U8 86 4)), none, none, none], [], (am_sh, am_mm U12))) (σ2 := ((d + 1), 191, 103, [some (.inr (.inr 86)), some (.inl (w32 ((w32 (16 * (U1 86 40))) + (U1 97 (U1 86 40).toNat)))), some (.inl 0), some (.inl (U8 86 4)), none, none, none], [], (am_sh, am_mm U12))) 4 (fun _ => rfl) (fun hc => ?_) (fun hc => ?_)
            · have ha1aa2a12aa21 := ha1aa2a12aa2.1 hc
              exact ha1aa2a12aa21
            · have ha1aa2a12aa22 := ha1aa2a12aa2.2 hc
              refine ev_seg (σ1 := ((d + 1), 191, 109, [some (.inr (.inr 86)), some (.inl (w32 ((w32 (16 * (U1 86 40))) + (U1 97 (U1 86 40).toNat)))), some (.inl 0), some (.inl (U8 86 4)), none, none, none], [.inl (U12 86 4), .inl 1, .inr (.inr 86)], (am_sh, am_mm U12))) 4 (fun _ => rfl) ?_
              obtain ⟨U13, ha1aa2a12aa22c, ha1aa2a12aa22a⟩ := ha1aa2a12aa22
              refine ev_cal (σc := (d, 196, 0, [some (.inr (.inr 86)), some (.inl 1), some (.inl (U12 86 4))], [], (am_sh, am_mm U12))) (fun _ => rfl) ha1aa2a12aa22c ?_
              show Ev kz ((d + 1), 191, 112, [some (.inr (.inr 86)), some (.inl (w32 ((w32 (16 * (U1 86 40))) + (U1 97 (U1 86 40).toNat)))), some (.inl 0), some (.inl (U8 86 4)), none, none, none], [], (am_sh, am_mm U13)) R
              exact ha1aa2a12aa22a
      · have ha1aa2a2 := ha1aa2a.2 hc
        refine ev_br (P := 1 = 0) (σ1 := ((d + 1), 191, 84, [some (.inr (.inr 86)), some (.inl (w32 ((w32 (16 * (U1 86 40))) + (U1 97 (U1 86 40).toNat)))), some (.inl 1), some (.inl (U8 86 4)), none, none, none], [], (am_sh, am_mm U8))) (σ2 := ((d + 1), 191, 80, [some (.inr (.inr 86)), some (.inl (w32 ((w32 (16 * (U1 86 40))) + (U1 97 (U1 86 40).toNat)))), some (.inl 1), some (.inl (U8 86 4)), none, none, none], [], (am_sh, am_mm U8))) 8 (fun _ => rfl) (fun hc => ?_) (fun hc => ?_)
        · have ha1aa2a21 := ha1aa2a2.1 hc
          refine ev_seg (σ1 := ((d + 1), 191, 85, [some (.inr (.inr 86)), some (.inl (w32 ((w32 (16 * (U1 86 40))) + (U1 97 (U1 86 40).toNat)))), some (.inl 1), some (.inl (U8 86 4)), none, none, none], [.inr (.inr 86)], (am_sh, am_mm U8))) 1 (fun _ => rfl) ?_
          obtain ⟨U14, ha1aa2a21c, ha1aa2a21a⟩ := ha1aa2a21
          refine ev_cal (σc := (d, 186, 0, [some (.inr (.inr 86))], [], (am_sh, am_mm U8))) (fun _ => rfl) ha1aa2a21c ?_
          show Ev kz ((d + 1), 191, 88, [some (.inr (.inr 86)), some (.inl (w32 ((w32 (16 * (U1 86 40))) + (U1 97 (U1 86 40).toNat)))), some (.inl 1), some (.inl (U8 86 4)), none, none, none], [], (am_sh, am_mm U14)) R
          refine ev_br (P := ¬ (U14 86 8) = 0) (σ1 := ((d + 1), 191, 112, [some (.inr (.inr 86)), some (.inl (w32 ((w32 (16 * (U1 86 40))) + (U1 97 (U1 86 40).toNat)))), some (.inl 1), some (.inl (U8 86 4)), none, none, none], [], (am_sh, am_mm U14))) (σ2 := ((d + 1), 191, 95, [some (.inr (.inr 86)), some (.inl (w32 ((w32 (16 * (U1 86 40))) + (U1 97 (U1 86 40).toNat)))), some (.inl 1), some (.inl (U8 86 4)), none, none, none], [], (am_sh, am_mm U14))) 3 (fun _ => rfl) (fun hc => ?_) (fun hc => ?_)
          · have ha1aa2a21a1 := ha1aa2a21a.1 hc
            exact ha1aa2a21a1
          · have ha1aa2a21a2 := ha1aa2a21a.2 hc
            refine ev_br (P := (U14 86 3) = 2) (σ1 := ((d + 1), 191, 112, [some (.inr (.inr 86)), some (.inl (w32 ((w32 (16 * (U1 86 40))) + (U1 97 (U1 86 40).toNat)))), some (.inl 1), some (.inl (U8 86 4)), none, none, none], [], (am_sh, am_mm U14))) (σ2 := ((d + 1), 191, 103, [some (.inr (.inr 86)), some (.inl (w32 ((w32 (16 * (U1 86 40))) + (U1 97 (U1 86 40).toNat)))), some (.inl 1), some (.inl (U8 86 4)), none, none, none], [], (am_sh, am_mm U14))) 4 (fun _ => rfl) (fun hc => ?_) (fun hc => ?_)
            · have ha1aa2a21a21 := ha1aa2a21a2.1 hc
              exact ha1aa2a21a21
            · have ha1aa2a21a22 := ha1aa2a21a2.2 hc
              refine ev_seg (σ1 := ((d + 1), 191, 109, [some (.inr (.inr 86)), some (.inl (w32 ((w32 (16 * (U1 86 40))) + (U1 97 (U1 86 40).toNat)))), some (.inl 1), some (.inl (U8 86 4)), none, none, none], [.inl (U14 86 4), .inl 1, .inr (.inr 86)], (am_sh, am_mm U14))) 4 (fun _ => rfl) ?_
              obtain ⟨U15, ha1aa2a21a22c, ha1aa2a21a22a⟩ := ha1aa2a21a22
              refine ev_cal (σc := (d, 196, 0, [some (.inr (.inr 86)), some (.inl 1), some (.inl (U14 86 4))], [], (am_sh, am_mm U14))) (fun _ => rfl) ha1aa2a21a22c ?_
              show Ev kz ((d + 1), 191, 112, [some (.inr (.inr 86)), some (.inl (w32 ((w32 (16 * (U1 86 40))) + (U1 97 (U1 86 40).toNat)))), some (.inl 1), some (.inl (U8 86 4)), none, none, none], [], (am_sh, am_mm U15)) R
              exact ha1aa2a21a22a
        · have ha1aa2a22 := ha1aa2a2.2 hc
          refine ev_seg (σ1 := ((d + 1), 191, 81, [some (.inr (.inr 86)), some (.inl (w32 ((w32 (16 * (U1 86 40))) + (U1 97 (U1 86 40).toNat)))), some (.inl 1), some (.inl (U8 86 4)), none, none, none], [.inr (.inr 86)], (am_sh, am_mm U8))) 1 (fun _ => rfl) ?_
          obtain ⟨U16, ha1aa2a22c, ha1aa2a22a⟩ := ha1aa2a22
          refine ev_cal (σc := (d, 93, 0, [some (.inr (.inr 86)), none, none, none, none, none], [], (am_sh, am_mm U8))) (fun _ => rfl) ha1aa2a22c ?_
          show Ev kz ((d + 1), 191, 84, [some (.inr (.inr 86)), some (.inl (w32 ((w32 (16 * (U1 86 40))) + (U1 97 (U1 86 40).toNat)))), some (.inl 1), some (.inl (U8 86 4)), none, none, none], [], (am_sh, am_mm U16)) R
          refine ev_seg (σ1 := ((d + 1), 191, 85, [some (.inr (.inr 86)), some (.inl (w32 ((w32 (16 * (U1 86 40))) + (U1 97 (U1 86 40).toNat)))), some (.inl 1), some (.inl (U8 86 4)), none, none, none], [.inr (.inr 86)], (am_sh, am_mm U16))) 1 (fun _ => rfl) ?_
          obtain ⟨U17, ha1aa2a22ac, ha1aa2a22aa⟩ := ha1aa2a22a
          refine ev_cal (σc := (d, 186, 0, [some (.inr (.inr 86))], [], (am_sh, am_mm U16))) (fun _ => rfl) ha1aa2a22ac ?_
          show Ev kz ((d + 1), 191, 88, [some (.inr (.inr 86)), some (.inl (w32 ((w32 (16 * (U1 86 40))) + (U1 97 (U1 86 40).toNat)))), some (.inl 1), some (.inl (U8 86 4)), none, none, none], [], (am_sh, am_mm U17)) R
          refine ev_br (P := ¬ (U17 86 8) = 0) (σ1 := ((d + 1), 191, 112, [some (.inr (.inr 86)), some (.inl (w32 ((w32 (16 * (U1 86 40))) + (U1 97 (U1 86 40).toNat)))), some (.inl 1), some (.inl (U8 86 4)), none, none, none], [], (am_sh, am_mm U17))) (σ2 := ((d + 1), 191, 95, [some (.inr (.inr 86)), some (.inl (w32 ((w32 (16 * (U1 86 40))) + (U1 97 (U1 86 40).toNat)))), some (.inl 1), some (.inl (U8 86 4)), none, none, none], [], (am_sh, am_mm U17))) 3 (fun _ => rfl) (fun hc => ?_) (fun hc => ?_)
          · have ha1aa2a22aa1 := ha1aa2a22aa.1 hc
            exact ha1aa2a22aa1
          · have ha1aa2a22aa2 := ha1aa2a22aa.2 hc
            refine ev_br (P := (U17 86 3) = 2) (σ1 := ((d + 1), 191, 112, [some (.inr (.inr 86)), some (.inl (w32 ((w32 (16 * (U1 86 40))) + (U1 97 (U1 86 40).toNat)))), some (.inl 1), some (.inl (U8 86 4)), none, none, none], [], (am_sh, am_mm U17))) (σ2 := ((d + 1), 191, 103, [some (.inr (.inr 86)), some (.inl (w32 ((w32 (16 * (U1 86 40))) + (U1 97 (U1 86 40).toNat)))), some (.inl 1), some (.inl (U8 86 4)), none, none, none], [], (am_sh, am_mm U17))) 4 (fun _ => rfl) (fun hc => ?_) (fun hc => ?_)
            · have ha1aa2a22aa21 := ha1aa2a22aa2.1 hc
              exact ha1aa2a22aa21
            · have ha1aa2a22aa22 := ha1aa2a22aa2.2 hc
              refine ev_seg (σ1 := ((d + 1), 191, 109, [some (.inr (.inr 86)), some (.inl (w32 ((w32 (16 * (U1 86 40))) + (U1 97 (U1 86 40).toNat)))), some (.inl 1), some (.inl (U8 86 4)), none, none, none], [.inl (U17 86 4), .inl 1, .inr (.inr 86)], (am_sh, am_mm U17))) 4 (fun _ => rfl) ?_
              obtain ⟨U18, ha1aa2a22aa22c, ha1aa2a22aa22a⟩ := ha1aa2a22aa22
              refine ev_cal (σc := (d, 196, 0, [some (.inr (.inr 86)), some (.inl 1), some (.inl (U17 86 4))], [], (am_sh, am_mm U17))) (fun _ => rfl) ha1aa2a22aa22c ?_
              show Ev kz ((d + 1), 191, 112, [some (.inr (.inr 86)), some (.inl (w32 ((w32 (16 * (U1 86 40))) + (U1 97 (U1 86 40).toNat)))), some (.inl 1), some (.inl (U8 86 4)), none, none, none], [], (am_sh, am_mm U18)) R
              exact ha1aa2a22aa22a
  · have ha2 := ha.2 hc
    subst ha2
    exact ev_end 1 (fun _ => rfl)
theorem st191_86_112 (kz : am_Z) (d : Nat) (x1 x2 x3 : Int) (U : Nat → Nat → Int) (R : Option am_V × am_M) (h : ((((U 86 8) ≤ 0 : Prop)) → (((x2 = 0 : Prop)) → (((¬ (U 86 6) = 0 : Prop)) → Ev kz ((d + 1), 191, 153, [some (.inr (.inr 86)), some (.inl x1), some (.inl x2), some (.inl x3), some (.inl (U 86 6)), some (.inl 0), some (.inl 0)], [], (am_sh, am_mm U)) R) ∧ (¬ (¬ (U 86 6) = 0) → Ev kz ((d + 1), 191, 153, [some (.inr (.inr 86)), some (.inl x1), some (.inl x2), some (.inl x3), some (.inl (U 86 6)), some (.inl 1), some (.inl 0)], [], (am_sh, am_mm U)) R)) ∧ (¬ (x2 = 0) → (((¬ (w32 (-(U 86 6))) = 0 : Prop)) → Ev kz ((d + 1), 191, 153, [some (.inr (.inr 86)), some (.inl x1), some (.inl x2), some (.inl x3), some (.inl (w32 (-(U 86 6)))), some (.inl 0), some (.inl 0)], [], (am_sh, am_mm U)) R) ∧ (¬ (¬ (w32 (-(U 86 6))) = 0) → Ev kz ((d + 1), 191, 153, [some (.inr (.inr 86)), some (.inl x1), some (.inl x2), some (.inl x3), some (.inl (w32 (-(U 86 6)))), some (.inl 1), some (.inl 0)], [], (am_sh, am_mm U)) R))) ∧ (¬ ((U 86 8) ≤ 0) → R = (none, (am_sh, am_mm U)))) : Ev kz ((d + 1), 191, 112, [some (.inr (.inr 86)), some (.inl x1), some (.inl x2), some (.inl x3), none, none, none], [], (am_sh, am_mm U)) R := by
  refine ev_br (P := (U 86 8) ≤ 0) (σ1 := ((d + 1), 191, 120, [some (.inr (.inr 86)), some (.inl x1), some (.inl x2), some (.inl x3), none, none, none], [], (am_sh, am_mm U))) (σ2 := ((d + 1), 191, 119, [some (.inr (.inr 86)), some (.inl x1), some (.inl x2), some (.inl x3), none, none, none], [], (am_sh, am_mm U))) 3 (fun _ => rfl) (fun hc => ?_) (fun hc => ?_)
  · have h1 := h.1 hc
    refine ev_br (P := x2 = 0) (σ1 := ((d + 1), 191, 132, [some (.inr (.inr 86)), some (.inl x1), some (.inl x2), some (.inl x3), none, none, none], [], (am_sh, am_mm U))) (σ2 := ((d + 1), 191, 124, [some (.inr (.inr 86)), some (.inl x1), some (.inl x2), some (.inl x3), none, none, none], [], (am_sh, am_mm U))) 2 (fun _ => rfl) (fun hc => ?_) (fun hc => ?_)
    · have h11 := h1.1 hc
      refine ev_br (P := ¬ (U 86 6) = 0) (σ1 := ((d + 1), 191, 147, [some (.inr (.inr 86)), some (.inl x1), some (.inl x2), some (.inl x3), some (.inl (U 86 6)), none, none], [], (am_sh, am_mm U))) (σ2 := ((d + 1), 191, 143, [some (.inr (.inr 86)), some (.inl x1), some (.inl x2), some (.inl x3), some (.inl (U 86 6)), none, none], [], (am_sh, am_mm U))) 5 (fun _ => rfl) (fun hc => ?_) (fun hc => ?_)
      · have h111 := h11.1 hc
        refine ev_seg (σ1 := ((d + 1), 191, 153, [some (.inr (.inr 86)), some (.inl x1), some (.inl x2), some (.inl x3), some (.inl (U 86 6)), some (.inl 0), some (.inl 0)], [], (am_sh, am_mm U))) 4 (fun _ => rfl) ?_
        exact h111
      · have h112 := h11.2 hc
        refine ev_seg (σ1 := ((d + 1), 191, 153, [some (.inr (.inr 86)), some (.inl x1), some (.inl x2), some (.inl x3), some (.inl (U 86 6)), some (.inl 1), some (.inl 0)], [], (am_sh, am_mm U))) 5 (fun _ => rfl) ?_
        exact h112
    · have h12 := h1.2 hc
      refine ev_br (P := ¬ (w32 (-(U 86 6))) = 0) (σ1 := ((d + 1), 191, 147, [some (.inr (.inr 86)), some (.inl x1), some (.inl x2), some (.inl x3), some (.inl (w32 (-(U 86 6)))), none, none], [], (am_sh, am_mm U))) (σ2 := ((d + 1), 191, 143, [some (.inr (.inr 86)), some (.inl x1), some (.inl x2), some (.inl x3), some (.inl (w32 (-(U 86 6)))), none, none], [], (am_sh, am_mm U))) 7 (fun _ => rfl) (fun hc => ?_) (fun hc => ?_)
      · have h121 := h12.1 hc
        refine ev_seg (σ1 := ((d + 1), 191, 153, [some (.inr (.inr 86)), some (.inl x1), some (.inl x2), some (.inl x3), some (.inl (w32 (-(U 86 6)))), some (.inl 0), some (.inl 0)], [], (am_sh, am_mm U))) 4 (fun _ => rfl) ?_
        exact h121
      · have h122 := h12.2 hc
        refine ev_seg (σ1 := ((d + 1), 191, 153, [some (.inr (.inr 86)), some (.inl x1), some (.inl x2), some (.inl x3), some (.inl (w32 (-(U 86 6)))), some (.inl 1), some (.inl 0)], [], (am_sh, am_mm U))) 5 (fun _ => rfl) ?_
        exact h122
  · have h2 := h.2 hc
    subst h2
    exact ev_end 1 (fun _ => rfl)
theorem st191_86_153 (kz : am_Z) (d : Nat) (x1 x2 x3 x4 x5 x6 : Int) (U : Nat → Nat → Int) (R : Option am_V × am_M) (h : (0 ≤ (U 86 40) ∧ (U 86 40) < 2) ∧ ((((U 97 (U 86 40).toNat) ≤ x6 : Prop)) → (((x5 = 0 : Prop)) → ((((U 86 8) ≤ 0 : Prop)) → ∃ U1 : Nat → Nat → Int, Ev kz (d, 93, 0, [some (.inr (.inr 86)), none, none, none, none, none], [], (am_sh, am_mm U)) (none, (am_sh, am_mm U1)) ∧ (0 ≤ x1 ∧ x1 < 32) ∧ (0 ≤ x1 ∧ x1 < 32) ∧ (((¬ ((am_upd (am_upd U1 98 x1.toNat x4) 99 x1.toNat (-1)) 86 12) = (-1) : Prop)) → Ev kz ((d + 1), 191, 342, [some (.inr (.inr 86)), some (.inl x1), some (.inl x2), some (.inl x3), some (.inl x4), some (.inl x5), some (.inl x6)], [], (am_sh, am_mm (am_upd (am_upd U1 98 x1.toNat x4) 99 x1.toNat (-1)))) R) ∧ (¬ (¬ ((am_upd (am_upd U1 98 x1.toNat x4) 99 x1.toNat (-1)) 86 12) = (-1)) → ∃ (r2 : Int) (U2 : Nat → Nat → Int), Ev kz (d, 187, 0, [some (.inr (.inr 86)), some (.inr (.inl 26990)), none], [], (am_sh, am_mm (am_upd (am_upd U1 98 x1.toNat x4) 99 x1.toNat (-1)))) (some (.inl r2), (am_sh, am_mm U2)) ∧ (((r2 = 0 : Prop)) → Ev kz ((d + 1), 191, 342, [some (.inr (.inr 86)), some (.inl x1), some (.inl x2), some (.inl x3), some (.inl x4), some (.inl x5), some (.inl x6)], [], (am_sh, am_mm U2)) R) ∧ (¬ (r2 = 0) → ∃ U3 : Nat → Nat → Int, Ev kz (d, 93, 0, [some (.inr (.inr 86)), none, none, none, none, none], [], (am_sh, am_mm U2)) (none, (am_sh, am_mm U3)) ∧ ∃ (r4 : Int) (U4 : Nat → Nat → Int), Ev kz (d, 269, 0, [some (.inr (.inr 86)), some (.inl 1), none], [], (am_sh, am_mm U3)) (some (.inl r4), (am_sh, am_mm U4)) ∧ (((¬ (U4 86 8) = 0 : Prop)) → Ev kz ((d + 1), 191, 323, [some (.inr (.inr 86)), some (.inl x1), some (.inl x2), some (.inl x3), some (.inl x4), some (.inl x5), some (.inl r4)], [], (am_sh, am_mm U4)) R) ∧ (¬ (¬ (U4 86 8) = 0) → ∃ (r5 : Int) (U5 : Nat → Nat → Int), Ev kz (d, 270, 0, [some (.inr (.inr 86)), some (.inl r4), none, none], [], (am_sh, am_mm U4)) (some (.inl r5), (am_sh, am_mm U5)) ∧ (0 ≤ (w32 ((w32 (12 * (U5 86 40))) + r4)) ∧ (w32 ((w32 (12 * (U5 86 40))) + r4)) < 24) ∧ (((¬ r5 = (U5 93 (w32 ((w32 (12 * (U5 86 40))) + r4)).toNat) : Prop)) → Ev kz ((d + 1), 191, 323, [some (.inr (.inr 86)), some (.inl x1), some (.inl x2), some (.inl x3), some (.inl x4), some (.inl x5), some (.inl r4)], [], (am_sh, am_mm U5)) R) ∧ (¬ (¬ r5 = (U5 93 (w32 ((w32 (12 * (U5 86 40))) + r4)).toNat)) → ∃ U6 : Nat → Nat → Int, Ev kz (d, 196, 0, [some (.inr (.inr 86)), some (.inl 3), some (.inl (U5 86 4))], [], (am_sh, am_mm U5)) (none, (am_sh, am_mm U6)) ∧ Ev kz ((d + 1), 191, 323, [some (.inr (.inr 86)), some (.inl x1), some (.inl x2), some (.inl x3), some (.inl x4), some (.inl x5), some (.inl r4)], [], (am_sh, am_mm U6)) R))))) ∧ (¬ ((U 86 8) ≤ 0) → R = (none, (am_sh, am_mm U)))) ∧ (¬ (x5 = 0) → (((x2 = 0 : Prop)) → ∃ U7 : Nat → Nat → Int, Ev kz (d, 196, 0, [some (.inr (.inr 86)), some (.inl 4), some (.inl (U 86 4))], [], (am_sh, am_mm U)) (none, (am_sh, am_mm U7)) ∧ ((((U7 86 8) ≤ 0 : Prop)) → ∃ U8 : Nat → Nat → Int, Ev kz (d, 93, 0, [some (.inr (.inr 86)), none, none, none, none, none], [], (am_sh, am_mm U7)) (none, (am_sh, am_mm U8)) ∧ (0 ≤ x1 ∧ x1 < 32) ∧ (0 ≤ x1 ∧ x1 < 32) ∧ (((¬ ((am_upd (am_upd U8 98 x1.toNat x4) 99 x1.toNat (-1)) 86 12) = (-1) : Prop)) → Ev kz ((d + 1), 191, 342, [some (.inr (.inr 86)), some (.inl x1), some (.inl x2), some (.inl x3), some (.inl x4), some (.inl x5), some (.inl x6)], [], (am_sh, am_mm (am_upd (am_upd U8 98 x1.toNat x4) 99 x1.toNat (-1)))) R) ∧ (¬ (¬ ((am_upd (am_upd U8 98 x1.toNat x4) 99 x1.toNat (-1)) 86 12) = (-1)) → ∃ (r9 : Int) (U9 : Nat → Nat → Int), Ev kz (d, 187, 0, [some (.inr (.inr 86)), some (.inr (.inl 26990)), none], [], (am_sh, am_mm (am_upd (am_upd U8 98 x1.toNat x4) 99 x1.toNat (-1)))) (some (.inl r9), (am_sh, am_mm U9)) ∧ (((r9 = 0 : Prop)) → Ev kz ((d + 1), 191, 342, [some (.inr (.inr 86)), some (.inl x1), some (.inl x2), some (.inl x3), some (.inl x4), some (.inl x5), some (.inl x6)], [], (am_sh, am_mm U9)) R) ∧ (¬ (r9 = 0) → ∃ U10 : Nat → Nat → Int, Ev kz (d, 93, 0, [some (.inr (.inr 86)), none, none, none, none, none], [], (am_sh, am_mm U9)) (none, (am_sh, am_mm U10)) ∧ ∃ (r11 : Int) (U11 : Nat → Nat → Int), Ev kz (d, 269, 0, [some (.inr (.inr 86)), some (.inl 1), none], [], (am_sh, am_mm U10)) (some (.inl r11), (am_sh, am_mm U11)) ∧ (((¬ (U11 86 8) = 0 : Prop)) → Ev kz ((d + 1), 191, 323, [some (.inr (.inr 86)), some (.inl x1), some (.inl x2), some (.inl x3), some (.inl x4), some (.inl x5), some (.inl r11)], [], (am_sh, am_mm U11)) R) ∧ (¬ (¬ (U11 86 8) = 0) → ∃ (r12 : Int) (U12 : Nat → Nat → Int), Ev kz (d, 270, 0, [some (.inr (.inr 86)), some (.inl r11), none, none], [], (am_sh, am_mm U11)) (some (.inl r12), (am_sh, am_mm U12)) ∧ (0 ≤ (w32 ((w32 (12 * (U12 86 40))) + r11)) ∧ (w32 ((w32 (12 * (U12 86 40))) + r11)) < 24) ∧ (((¬ r12 = (U12 93 (w32 ((w32 (12 * (U12 86 40))) + r11)).toNat) : Prop)) → Ev kz ((d + 1), 191, 323, [some (.inr (.inr 86)), some (.inl x1), some (.inl x2), some (.inl x3), some (.inl x4), some (.inl x5), some (.inl r11)], [], (am_sh, am_mm U12)) R) ∧ (¬ (¬ r12 = (U12 93 (w32 ((w32 (12 * (U12 86 40))) + r11)).toNat)) → ∃ U13 : Nat → Nat → Int, Ev kz (d, 196, 0, [some (.inr (.inr 86)), some (.inl 3), some (.inl (U12 86 4))], [], (am_sh, am_mm U12)) (none, (am_sh, am_mm U13)) ∧ Ev kz ((d + 1), 191, 323, [some (.inr (.inr 86)), some (.inl x1), some (.inl x2), some (.inl x3), some (.inl x4), some (.inl x5), some (.inl r11)], [], (am_sh, am_mm U13)) R))))) ∧ (¬ ((U7 86 8) ≤ 0) → R = (none, (am_sh, am_mm U7)))) ∧ (¬ (x2 = 0) → ∃ U14 : Nat → Nat → Int, Ev kz (d, 196, 0, [some (.inr (.inr 86)), some (.inl 4), some (.inl x3)], [], (am_sh, am_mm U)) (none, (am_sh, am_mm U14)) ∧ ((((U14 86 8) ≤ 0 : Prop)) → ∃ U15 : Nat → Nat → Int, Ev kz (d, 93, 0, [some (.inr (.inr 86)), none, none, none, none, none], [], (am_sh, am_mm U14)) (none, (am_sh, am_mm U15)) ∧ (0 ≤ x1 ∧ x1 < 32) ∧ (0 ≤ x1 ∧ x1 < 32) ∧ (((¬ ((am_upd (am_upd U15 98 x1.toNat x4) 99 x1.toNat (-1)) 86 12) = (-1) : Prop)) → Ev kz ((d + 1), 191, 342, [some (.inr (.inr 86)), some (.inl x1), some (.inl x2), some (.inl x3), some (.inl x4), some (.inl x5), some (.inl x6)], [], (am_sh, am_mm (am_upd (am_upd U15 98 x1.toNat x4) 99 x1.toNat (-1)))) R) ∧ (¬ (¬ ((am_upd (am_upd U15 98 x1.toNat x4) 99 x1.toNat (-1)) 86 12) = (-1)) → ∃ (r16 : Int) (U16 : Nat → Nat → Int), Ev kz (d, 187, 0, [some (.inr (.inr 86)), some (.inr (.inl 26990)), none], [], (am_sh, am_mm (am_upd (am_upd U15 98 x1.toNat x4) 99 x1.toNat (-1)))) (some (.inl r16), (am_sh, am_mm U16)) ∧ (((r16 = 0 : Prop)) → Ev kz ((d + 1), 191, 342, [some (.inr (.inr 86)), some (.inl x1), some (.inl x2), some (.inl x3), some (.inl x4), some (.inl x5), some (.inl x6)], [], (am_sh, am_mm U16)) R) ∧ (¬ (r16 = 0) → ∃ U17 : Nat → Nat → Int, Ev kz (d, 93, 0, [some (.inr (.inr 86)), none, none, none, none, none], [], (am_sh, am_mm U16)) (none, (am_sh, am_mm U17)) ∧ ∃ (r18 : Int) (U18 : Nat → Nat → Int), Ev kz (d, 269, 0, [some (.inr (.inr 86)), some (.inl 1), none], [], (am_sh, am_mm U17)) (some (.inl r18), (am_sh, am_mm U18)) ∧ (((¬ (U18 86 8) = 0 : Prop)) → Ev kz ((d + 1), 191, 323, [some (.inr (.inr 86)), some (.inl x1), some (.inl x2), some (.inl x3), some (.inl x4), some (.inl x5), some (.inl r18)], [], (am_sh, am_mm U18)) R) ∧ (¬ (¬ (U18 86 8) = 0) → ∃ (r19 : Int) (U19 : Nat → Nat → Int), Ev kz (d, 270, 0, [some (.inr (.inr 86)), some (.inl r18), none, none], [], (am_sh, am_mm U18)) (some (.inl r19), (am_sh, am_mm U19)) ∧ (0 ≤ (w32 ((w32 (12 * (U19 86 40))) + r18)) ∧ (w32 ((w32 (12 * (U19 86 40))) + r18)) < 24) ∧ (((¬ r19 = (U19 93 (w32 ((w32 (12 * (U19 86 40))) + r18)).toNat) : Prop)) → Ev kz ((d + 1), 191, 323, [some (.inr (.inr 86)), some (.inl x1), some (.inl x2), some (.inl x3), some (.inl x4), some (.inl x5), some (.inl r18)], [], (am_sh, am_mm U19)) R) ∧ (¬ (¬ r19 = (U19 93 (w32 ((w32 (12 * (U19 86 40))) + r18)).toNat)) → ∃ U20 : Nat → Nat → Int, Ev kz (d, 196, 0, [some (.inr (.inr 86)), some (.inl 3), some (.inl (U19 86 4))], [], (am_sh, am_mm U19)) (none, (am_sh, am_mm U20)) ∧ Ev kz ((d + 1), 191, 323, [some (.inr (.inr 86)), some (.inl x1), some (.inl x2), some (.inl x3), some (.inl x4), some (.inl x5), some (.inl r18)], [], (am_sh, am_mm U20)) R))))) ∧ (¬ ((U14 86 8) ≤ 0) → R = (none, (am_sh, am_mm U14)))))) ∧ (¬ ((U 97 (U 86 40).toNat) ≤ x6) → (((¬ x5 = 0 : Prop)) → Ev kz ((d + 1), 191, 153, [some (.inr (.inr 86)), some (.inl x1), some (.inl x2), some (.inl x3), some (.inl x4), some (.inl 1), some (.inl (w32 (x6 + 1)))], [], (am_sh, am_mm U)) R) ∧ (¬ (¬ x5 = 0) → (0 ≤ (w32 ((w32 (16 * (U 86 40))) + x6)) ∧ (w32 ((w32 (16 * (U 86 40))) + x6)) < 32) ∧ (((¬ (U 98 (w32 ((w32 (16 * (U 86 40))) + x6)).toNat) = x4 : Prop)) → Ev kz ((d + 1), 191, 153, [some (.inr (.inr 86)), some (.inl x1), some (.inl x2), some (.inl x3), some (.inl x4), some (.inl 0), some (.inl (w32 (x6 + 1)))], [], (am_sh, am_mm U)) R) ∧ (¬ (¬ (U 98 (w32 ((w32 (16 * (U 86 40))) + x6)).toNat) = x4) → Ev kz ((d + 1), 191, 153, [some (.inr (.inr 86)), some (.inl x1), some (.inl x2), some (.inl x3), some (.inl x4), some (.inl 1), some (.inl (w32 (x6 + 1)))], [], (am_sh, am_mm U)) R)))) : Ev kz ((d + 1), 191, 153, [some (.inr (.inr 86)), some (.inl x1), some (.inl x2), some (.inl x3), some (.inl x4), some (.inl x5), some (.inl x6)], [], (am_sh, am_mm U)) R := by
  refine ev_seg (σ1 := ((d + 1), 191, 163, [some (.inr (.inr 86)), some (.inl x1), some (.inl x2), some (.inl x3), some (.inl x4), some (.inl x5), some (.inl x6)], [.inl (U 86 40), .inr (.inr 97), .inl x6], (am_sh, am_mm U))) 5 (fun _ => rfl) ?_
  refine eu_iald 97 (n := 2) rfl (by decide) rfl (fun _ => rfl) h.1 ?_
  have ha := h.2
  refine ev_br (P := (U 97 (U 86 40).toNat) ≤ x6) (σ1 := ((d + 1), 191, 205, [some (.inr (.inr 86)), some (.inl x1), some (.inl x2), some (.inl x3), some (.inl x4), some (.inl x5), some (.inl x6)], [], (am_sh, am_mm U))) (σ2 := ((d + 1), 191, 167, [some (.inr (.inr 86)), some (.inl x1), some (.inl x2), some (.inl x3), some (.inl x4), some (.inl x5), some (.inl x6)], [], (am_sh, am_mm U))) 1 (fun _ => rfl) (fun hc => ?_) (fun hc => ?_)
  · have ha1 := ha.1 hc
    refine ev_br (P := x5 = 0) (σ1 := ((d + 1), 191, 227, [some (.inr (.inr 86)), some (.inl x1), some (.inl x2), some (.inl x3), some (.inl x4), some (.inl x5), some (.inl x6)], [], (am_sh, am_mm U))) (σ2 := ((d + 1), 191, 210, [some (.inr (.inr 86)), some (.inl x1), some (.inl x2), some (.inl x3), some (.inl x4), some (.inl x5), some (.inl x6)], [], (am_sh, am_mm U))) 2 (fun _ => rfl) (fun hc => ?_) (fun hc => ?_)
    · have ha11 := ha1.1 hc
      refine ev_br (P := (U 86 8) ≤ 0) (σ1 := ((d + 1), 191, 235, [some (.inr (.inr 86)), some (.inl x1), some (.inl x2), some (.inl x3), some (.inl x4), some (.inl x5), some (.inl x6)], [], (am_sh, am_mm U))) (σ2 := ((d + 1), 191, 234, [some (.inr (.inr 86)), some (.inl x1), some (.inl x2), some (.inl x3), some (.inl x4), some (.inl x5), some (.inl x6)], [], (am_sh, am_mm U))) 3 (fun _ => rfl) (fun hc => ?_) (fun hc => ?_)
      · have ha111 := ha11.1 hc
        refine ev_seg (σ1 := ((d + 1), 191, 236, [some (.inr (.inr 86)), some (.inl x1), some (.inl x2), some (.inl x3), some (.inl x4), some (.inl x5), some (.inl x6)], [.inr (.inr 86)], (am_sh, am_mm U))) 1 (fun _ => rfl) ?_
        obtain ⟨U1, ha111c, ha111a⟩ := ha111
        refine ev_cal (σc := (d, 93, 0, [some (.inr (.inr 86)), none, none, none, none, none], [], (am_sh, am_mm U))) (fun _ => rfl) ha111c ?_
        show Ev kz ((d + 1), 191, 239, [some (.inr (.inr 86)), some (.inl x1), some (.inl x2), some (.inl x3), some (.inl x4), some (.inl x5), some (.inl x6)], [], (am_sh, am_mm U1)) R
        refine ev_seg (σ1 := ((d + 1), 191, 246, [some (.inr (.inr 86)), some (.inl x1), some (.inl x2), some (.inl x3), some (.inl x4), some (.inl x5), some (.inl x6)], [.inl x4, .inl x1, .inr (.inr 98)], (am_sh, am_mm U1))) 4 (fun _ => rfl) ?_
        refine eu_iast 98 (n := 32) rfl (by decide) rfl (fun _ => rfl) ha111a.1 ?_
        have ha111aa := ha111a.2
        refine ev_seg (σ1 := ((d + 1), 191, 253, [some (.inr (.inr 86)), some (.inl x1), some (.inl x2), some (.inl x3), some (.inl x4), some (.inl x5), some (.inl x6)], [.inl (-1), .inl x1, .inr (.inr 99)], (am_sh, am_mm (am_upd U1 98 x1.toNat x4)))) 4 (fun _ => rfl) ?_
        refine eu_iast 99 (n := 32) rfl (by decide) rfl (fun _ => rfl) ha111aa.1 ?_
        have ha111aaa := ha111aa.2
        refine ev_br (P := ¬ ((am_upd (am_upd U1 98 x1.toNat x4) 99 x1.toNat (-1)) 86 12) = (-1)) (σ1 := ((d + 1), 191, 342, [some (.inr (.inr 86)), some (.inl x1), some (.inl x2), some (.inl x3), some (.inl x4), some (.inl x5), some (.inl x6)], [], (am_sh, am_mm (am_upd (am_upd U1 98 x1.toNat x4) 99 x1.toNat (-1))))) (σ2 := ((d + 1), 191, 262, [some (.inr (.inr 86)), some (.inl x1), some (.inl x2), some (.inl x3), some (.inl x4), some (.inl x5), some (.inl x6)], [], (am_sh, am_mm (am_upd (am_upd U1 98 x1.toNat x4) 99 x1.toNat (-1))))) 4 (fun _ => rfl) (fun hc => ?_) (fun hc => ?_)
        · have ha111aaa1 := ha111aaa.1 hc
          exact ha111aaa1
        · have ha111aaa2 := ha111aaa.2 hc
          refine ev_seg (σ1 := ((d + 1), 191, 266, [some (.inr (.inr 86)), some (.inl x1), some (.inl x2), some (.inl x3), some (.inl x4), some (.inl x5), some (.inl x6)], [.inr (.inl 26990), .inr (.inr 86)], (am_sh, am_mm (am_upd (am_upd U1 98 x1.toNat x4) 99 x1.toNat (-1))))) 2 (fun _ => rfl) ?_
          obtain ⟨r2, U2, ha111aaa2c, ha111aaa2a⟩ := ha111aaa2
          refine ev_cal (σc := (d, 187, 0, [some (.inr (.inr 86)), some (.inr (.inl 26990)), none], [], (am_sh, am_mm (am_upd (am_upd U1 98 x1.toNat x4) 99 x1.toNat (-1))))) (fun _ => rfl) ha111aaa2c ?_
          show Ev kz ((d + 1), 191, 269, [some (.inr (.inr 86)), some (.inl x1), some (.inl x2), some (.inl x3), some (.inl x4), some (.inl x5), some (.inl x6)], [.inl r2], (am_sh, am_mm U2)) R
          refine ev_br (P := r2 = 0) (σ1 := ((d + 1), 191, 342, [some (.inr (.inr 86)), some (.inl x1), some (.inl x2), some (.inl x3), some (.inl x4), some (.inl x5), some (.inl x6)], [], (am_sh, am_mm U2))) (σ2 := ((d + 1), 191, 272, [some (.inr (.inr 86)), some (.inl x1), some (.inl x2), some (.inl x3), some (.inl x4), some (.inl x5), some (.inl x6)], [], (am_sh, am_mm U2))) 1 (fun _ => rfl) (fun hc => ?_) (fun hc => ?_)
          · have ha111aaa2a1 := ha111aaa2a.1 hc
            exact ha111aaa2a1
          · have ha111aaa2a2 := ha111aaa2a.2 hc
            refine ev_seg (σ1 := ((d + 1), 191, 273, [some (.inr (.inr 86)), some (.inl x1), some (.inl x2), some (.inl x3), some (.inl x4), some (.inl x5), some (.inl x6)], [.inr (.inr 86)], (am_sh, am_mm U2))) 1 (fun _ => rfl) ?_
            obtain ⟨U3, ha111aaa2a2c, ha111aaa2a2a⟩ := ha111aaa2a2
            refine ev_cal (σc := (d, 93, 0, [some (.inr (.inr 86)), none, none, none, none, none], [], (am_sh, am_mm U2))) (fun _ => rfl) ha111aaa2a2c ?_
            show Ev kz ((d + 1), 191, 276, [some (.inr (.inr 86)), some (.inl x1), some (.inl x2), some (.inl x3), some (.inl x4), some (.inl x5), some (.inl x6)], [], (am_sh, am_mm U3)) R
            refine ev_seg (σ1 := ((d + 1), 191, 278, [some (.inr (.inr 86)), some (.inl x1), some (.inl x2), some (.inl x3), some (.inl x4), some (.inl x5), some (.inl x6)], [.inl 1, .inr (.inr 86)], (am_sh, am_mm U3))) 2 (fun _ => rfl) ?_
            obtain ⟨r4, U4, ha111aaa2a2ac, ha111aaa2a2aa⟩ := ha111aaa2a2a
            refine ev_cal (σc := (d, 269, 0, [some (.inr (.inr 86)), some (.inl 1), none], [], (am_sh, am_mm U3))) (fun _ => rfl) ha111aaa2a2ac ?_
            show Ev kz ((d + 1), 191, 281, [some (.inr (.inr 86)), some (.inl x1), some (.inl x2), some (.inl x3), some (.inl x4), some (.inl x5), some (.inl x6)], [.inl r4], (am_sh, am_mm U4)) R
            refine ev_br (P := ¬ (U4 86 8) = 0) (σ1 := ((d + 1), 191, 323, [some (.inr (.inr 86)), some (.inl x1), some (.inl x2), some (.inl x3), some (.inl x4), some (.inl x5), some (.inl r4)], [], (am_sh, am_mm U4))) (σ2 := ((d + 1), 191, 290, [some (.inr (.inr 86)), some (.inl x1), some (.inl x2), some (.inl x3), some (.inl x4), some (.inl x5), some (.inl r4)], [], (am_sh, am_mm U4))) 4 (fun _ => rfl) (fun hc => ?_) (fun hc => ?_)
            · have ha111aaa2a2aa1 := ha111aaa2a2aa.1 hc
              exact ha111aaa2a2aa1
            · have ha111aaa2a2aa2 := ha111aaa2a2aa.2 hc
              refine ev_seg (σ1 := ((d + 1), 191, 293, [some (.inr (.inr 86)), some (.inl x1), some (.inl x2), some (.inl x3), some (.inl x4), some (.inl x5), some (.inl r4)], [.inl r4, .inr (.inr 86)], (am_sh, am_mm U4))) 2 (fun _ => rfl) ?_
              obtain ⟨r5, U5, ha111aaa2a2aa2c, ha111aaa2a2aa2a⟩ := ha111aaa2a2aa2
              refine ev_cal (σc := (d, 270, 0, [some (.inr (.inr 86)), some (.inl r4), none, none], [], (am_sh, am_mm U4))) (fun _ => rfl) ha111aaa2a2aa2c ?_
              show Ev kz ((d + 1), 191, 296, [some (.inr (.inr 86)), some (.inl x1), some (.inl x2), some (.inl x3), some (.inl x4), some (.inl x5), some (.inl r4)], [.inl r5], (am_sh, am_mm U5)) R
              refine ev_seg (σ1 := ((d + 1), 191, 310, [some (.inr (.inr 86)), some (.inl x1), some (.inl x2), some (.inl x3), some (.inl x4), some (.inl x5), some (.inl r4)], [.inl (w32 ((w32 (12 * (U5 86 40))) + r4)), .inr (.inr 93), .inl r5], (am_sh, am_mm U5))) 8 (fun _ => rfl) ?_
              refine eu_iald 93 (n := 24) rfl (by decide) rfl (fun _ => rfl) ha111aaa2a2aa2a.1 ?_
              have ha111aaa2a2aa2aa := ha111aaa2a2aa2a.2
              refine ev_br (P := ¬ r5 = (U5 93 (w32 ((w32 (12 * (U5 86 40))) + r4)).toNat)) (σ1 := ((d + 1), 191, 323, [some (.inr (.inr 86)), some (.inl x1), some (.inl x2), some (.inl x3), some (.inl x4), some (.inl x5), some (.inl r4)], [], (am_sh, am_mm U5))) (σ2 := ((d + 1), 191, 314, [some (.inr (.inr 86)), some (.inl x1), some (.inl x2), some (.inl x3), some (.inl x4), some (.inl x5), some (.inl r4)], [], (am_sh, am_mm U5))) 1 (fun _ => rfl) (fun hc => ?_) (fun hc => ?_)
              · have ha111aaa2a2aa2aa1 := ha111aaa2a2aa2aa.1 hc
                exact ha111aaa2a2aa2aa1
              · have ha111aaa2a2aa2aa2 := ha111aaa2a2aa2aa.2 hc
                refine ev_seg (σ1 := ((d + 1), 191, 320, [some (.inr (.inr 86)), some (.inl x1), some (.inl x2), some (.inl x3), some (.inl x4), some (.inl x5), some (.inl r4)], [.inl (U5 86 4), .inl 3, .inr (.inr 86)], (am_sh, am_mm U5))) 4 (fun _ => rfl) ?_
                obtain ⟨U6, ha111aaa2a2aa2aa2c, ha111aaa2a2aa2aa2a⟩ := ha111aaa2a2aa2aa2
                refine ev_cal (σc := (d, 196, 0, [some (.inr (.inr 86)), some (.inl 3), some (.inl (U5 86 4))], [], (am_sh, am_mm U5))) (fun _ => rfl) ha111aaa2a2aa2aa2c ?_
                show Ev kz ((d + 1), 191, 323, [some (.inr (.inr 86)), some (.inl x1), some (.inl x2), some (.inl x3), some (.inl x4), some (.inl x5), some (.inl r4)], [], (am_sh, am_mm U6)) R
                exact ha111aaa2a2aa2aa2a
      · have ha112 := ha11.2 hc
        subst ha112
        exact ev_end 1 (fun _ => rfl)
    · have ha12 := ha1.2 hc
      refine ev_br (P := x2 = 0) (σ1 := ((d + 1), 191, 220, [some (.inr (.inr 86)), some (.inl x1), some (.inl x2), some (.inl x3), some (.inl x4), some (.inl x5), some (.inl x6)], [.inl 4, .inr (.inr 86)], (am_sh, am_mm U))) (σ2 := ((d + 1), 191, 216, [some (.inr (.inr 86)), some (.inl x1), some (.inl x2), some (.inl x3), some (.inl x4), some (.inl x5), some (.inl x6)], [.inl 4, .inr (.inr 86)], (am_sh, am_mm U))) 4 (fun _ => rfl) (fun hc => ?_) (fun hc => ?_)
      · have ha121 := ha12.1 hc
        refine ev_seg (σ1 := ((d + 1), 191, 224, [some (.inr (.inr 86)), some (.inl x1), some (.inl x2), some (.inl x3), some (.inl x4), some (.inl x5), some (.inl x6)], [.inl (U 86 4), .inl 4, .inr (.inr 86)], (am_sh, am_mm U))) 2 (fun _ => rfl) ?_
        obtain ⟨U7, ha121c, ha121a⟩ := ha121
        refine ev_cal (σc := (d, 196, 0, [some (.inr (.inr 86)), some (.inl 4), some (.inl (U 86 4))], [], (am_sh, am_mm U))) (fun _ => rfl) ha121c ?_
        show Ev kz ((d + 1), 191, 227, [some (.inr (.inr 86)), some (.inl x1), some (.inl x2), some (.inl x3), some (.inl x4), some (.inl x5), some (.inl x6)], [], (am_sh, am_mm U7)) R
        refine ev_br (P := (U7 86 8) ≤ 0) (σ1 := ((d + 1), 191, 235, [some (.inr (.inr 86)), some (.inl x1), some (.inl x2), some (.inl x3), some (.inl x4), some (.inl x5), some (.inl x6)], [], (am_sh, am_mm U7))) (σ2 := ((d + 1), 191, 234, [some (.inr (.inr 86)), some (.inl x1), some (.inl x2), some (.inl x3), some (.inl x4), some (.inl x5), some (.inl x6)], [], (am_sh, am_mm U7))) 3 (fun _ => rfl) (fun hc => ?_) (fun hc => ?_)
        · have ha121a1 := ha121a.1 hc
          refine ev_seg (σ1 := ((d + 1), 191, 236, [some (.inr (.inr 86)), some (.inl x1), some (.inl x2), some (.inl x3), some (.inl x4), some (.inl x5), some (.inl x6)], [.inr (.inr 86)], (am_sh, am_mm U7))) 1 (fun _ => rfl) ?_
          obtain ⟨U8, ha121a1c, ha121a1a⟩ := ha121a1
          refine ev_cal (σc := (d, 93, 0, [some (.inr (.inr 86)), none, none, none, none, none], [], (am_sh, am_mm U7))) (fun _ => rfl) ha121a1c ?_
          show Ev kz ((d + 1), 191, 239, [some (.inr (.inr 86)), some (.inl x1), some (.inl x2), some (.inl x3), some (.inl x4), some (.inl x5), some (.inl x6)], [], (am_sh, am_mm U8)) R
          refine ev_seg (σ1 := ((d + 1), 191, 246, [some (.inr (.inr 86)), some (.inl x1), some (.inl x2), some (.inl x3), some (.inl x4), some (.inl x5), some (.inl x6)], [.inl x4, .inl x1, .inr (.inr 98)], (am_sh, am_mm U8))) 4 (fun _ => rfl) ?_
          refine eu_iast 98 (n := 32) rfl (by decide) rfl (fun _ => rfl) ha121a1a.1 ?_
          have ha121a1aa := ha121a1a.2
          refine ev_seg (σ1 := ((d + 1), 191, 253, [some (.inr (.inr 86)), some (.inl x1), some (.inl x2), some (.inl x3), some (.inl x4), some (.inl x5), some (.inl x6)], [.inl (-1), .inl x1, .inr (.inr 99)], (am_sh, am_mm (am_upd U8 98 x1.toNat x4)))) 4 (fun _ => rfl) ?_
          refine eu_iast 99 (n := 32) rfl (by decide) rfl (fun _ => rfl) ha121a1aa.1 ?_
          have ha121a1aaa := ha121a1aa.2
          refine ev_br (P := ¬ ((am_upd (am_upd U8 98 x1.toNat x4) 99 x1.toNat (-1)) 86 12) = (-1)) (σ1 := ((d + 1), 191, 342, [some (.inr (.inr 86)), some (.inl x1), some (.inl x2), some (.inl x3), some (.inl x4), some (.inl x5), some (.inl x6)], [], (am_sh, am_mm (am_upd (am_upd U8 98 x1.toNat x4) 99 x1.toNat (-1))))) (σ2 := ((d + 1), 191, 262, [some (.inr (.inr 86)), some (.inl x1), some (.inl x2), some (.inl x3), some (.inl x4), some (.inl x5), some (.inl x6)], [], (am_sh, am_mm (am_upd (am_upd U8 98 x1.toNat x4) 99 x1.toNat (-1))))) 4 (fun _ => rfl) (fun hc => ?_) (fun hc => ?_)
          · have ha121a1aaa1 := ha121a1aaa.1 hc
            exact ha121a1aaa1
          · have ha121a1aaa2 := ha121a1aaa.2 hc
            refine ev_seg (σ1 := ((d + 1), 191, 266, [some (.inr (.inr 86)), some (.inl x1), some (.inl x2), some (.inl x3), some (.inl x4), some (.inl x5), some (.inl x6)], [.inr (.inl 26990), .inr (.inr 86)], (am_sh, am_mm (am_upd (am_upd U8 98 x1.toNat x4) 99 x1.toNat (-1))))) 2 (fun _ => rfl) ?_
            obtain ⟨r9, U9, ha121a1aaa2c, ha121a1aaa2a⟩ := ha121a1aaa2
            refine ev_cal (σc := (d, 187, 0, [some (.inr (.inr 86)), some (.inr (.inl 26990)), none], [], (am_sh, am_mm (am_upd (am_upd U8 98 x1.toNat x4) 99 x1.toNat (-1))))) (fun _ => rfl) ha121a1aaa2c ?_
            show Ev kz ((d + 1), 191, 269, [some (.inr (.inr 86)), some (.inl x1), some (.inl x2), some (.inl x3), some (.inl x4), some (.inl x5), some (.inl x6)], [.inl r9], (am_sh, am_mm U9)) R
            refine ev_br (P := r9 = 0) (σ1 := ((d + 1), 191, 342, [some (.inr (.inr 86)), some (.inl x1), some (.inl x2), some (.inl x3), some (.inl x4), some (.inl x5), some (.inl x6)], [], (am_sh, am_mm U9))) (σ2 := ((d + 1), 191, 272, [some (.inr (.inr 86)), some (.inl x1), some (.inl x2), some (.inl x3), some (.inl x4), some (.inl x5), some (.inl x6)], [], (am_sh, am_mm U9))) 1 (fun _ => rfl) (fun hc => ?_) (fun hc => ?_)
            · have ha121a1aaa2a1 := ha121a1aaa2a.1 hc
              exact ha121a1aaa2a1
            · have ha121a1aaa2a2 := ha121a1aaa2a.2 hc
              refine ev_seg (σ1 := ((d + 1), 191, 273, [some (.inr (.inr 86)), some (.inl x1), some (.inl x2), some (.inl x3), some (.inl x4), some (.inl x5), some (.inl x6)], [.inr (.inr 86)], (am_sh, am_mm U9))) 1 (fun _ => rfl) ?_
              obtain ⟨U10, ha121a1aaa2a2c, ha121a1aaa2a2a⟩ := ha121a1aaa2a2
              refine ev_cal (σc := (d, 93, 0, [some (.inr (.inr 86)), none, none, none, none, none], [], (am_sh, am_mm U9))) (fun _ => rfl) ha121a1aaa2a2c ?_
              show Ev kz ((d + 1), 191, 276, [some (.inr (.inr 86)), some (.inl x1), some (.inl x2), some (.inl x3), some (.inl x4), some (.inl x5), some (.inl x6)], [], (am_sh, am_mm U10)) R
              refine ev_seg (σ1 := ((d + 1), 191, 278, [some (.inr (.inr 86)), some (.inl x1), some (.inl x2), some (.inl x3), some (.inl x4), some (.inl x5), some (.inl x6)], [.inl 1, .inr (.inr 86)], (am_sh, am_mm U10))) 2 (fun _ => rfl) ?_
              obtain ⟨r11, U11, ha121a1aaa2a2ac, ha121a1aaa2a2aa⟩ := ha121a1aaa2a2a
              refine ev_cal (σc := (d, 269, 0, [some (.inr (.inr 86)), some (.inl 1), none], [], (am_sh, am_mm U10))) (fun _ => rfl) ha121a1aaa2a2ac ?_
              show Ev kz ((d + 1), 191, 281, [some (.inr (.inr 86)), some (.inl x1), some (.inl x2), some (.inl x3), some (.inl x4), some (.inl x5), some (.inl x6)], [.inl r11], (am_sh, am_mm U11)) R
              refine ev_br (P := ¬ (U11 86 8) = 0) (σ1 := ((d + 1), 191, 323, [some (.inr (.inr 86)), some (.inl x1), some (.inl x2), some (.inl x3), some (.inl x4), some (.inl x5), some (.inl r11)], [], (am_sh, am_mm U11))) (σ2 := ((d + 1), 191, 290, [some (.inr (.inr 86)), some (.inl x1), some (.inl x2), some (.inl x3), some (.inl x4), some (.inl x5), some (.inl r11)], [], (am_sh, am_mm U11))) 4 (fun _ => rfl) (fun hc => ?_) (fun hc => ?_)
              · have ha121a1aaa2a2aa1 := ha121a1aaa2a2aa.1 hc
                exact ha121a1aaa2a2aa1
              · have ha121a1aaa2a2aa2 := ha121a1aaa2a2aa.2 hc
                refine ev_seg (σ1 := ((d + 1), 191, 293, [some (.inr (.inr 86)), some (.inl x1), some (.inl x2), some (.inl x3), some (.inl x4), some (.inl x5), some (.inl r11)], [.inl r11, .inr (.inr 86)], (am_sh, am_mm U11))) 2 (fun _ => rfl) ?_
                obtain ⟨r12, U12, ha121a1aaa2a2aa2c, ha121a1aaa2a2aa2a⟩ := ha121a1aaa2a2aa2
                refine ev_cal (σc := (d, 270, 0, [some (.inr (.inr 86)), some (.inl r11), none, none], [], (am_sh, am_mm U11))) (fun _ => rfl) ha121a1aaa2a2aa2c ?_
                show Ev kz ((d + 1), 191, 296, [some (.inr (.inr 86)), some (.inl x1), some (.inl x2), some (.inl x3), some (.inl x4), some (.inl x5), some (.inl r11)], [.inl r12], (am_sh, am_mm U12)) R
                refine ev_seg (σ1 := ((d + 1), 191, 310, [some (.inr (.inr 86)), some (.inl x1), some (.inl x2), some (.inl x3), some (.inl x4), some (.inl x5), some (.inl r11)], [.inl (w32 ((w32 (12 * (U12 86 40))) + r11)), .inr (.inr 93), .inl r12], (am_sh, am_mm U12))) 8 (fun _ => rfl) ?_
                refine eu_iald 93 (n := 24) rfl (by decide) rfl (fun _ => rfl) ha121a1aaa2a2aa2a.1 ?_
                have ha121a1aaa2a2aa2aa := ha121a1aaa2a2aa2a.2
                refine ev_br (P := ¬ r12 = (U12 93 (w32 ((w32 (12 * (U12 86 40))) + r11)).toNat)) (σ1 := ((d + 1), 191, 323, [some (.inr (.inr 86)), some (.inl x1), some (.inl x2), some (.inl x3), some (.inl x4), some (.inl x5), some (.inl r11)], [], (am_sh, am_mm U12))) (σ2 := ((d + 1), 191, 314, [some (.inr (.inr 86)), some (.inl x1), some (.inl x2), some (.inl x3), some (.inl x4), some (.inl x5), some (.inl r11)], [], (am_sh, am_mm U12))) 1 (fun _ => rfl) (fun hc => ?_) (fun hc => ?_)
                · have ha121a1aaa2a2aa2aa1 := ha121a1aaa2a2aa2aa.1 hc
                  exact ha121a1aaa2a2aa2aa1
                · have ha121a1aaa2a2aa2aa2 := ha121a1aaa2a2aa2aa.2 hc
                  refine ev_seg (σ1 := ((d + 1), 191, 320, [some (.inr (.inr 86)), some (.inl x1), some (.inl x2), some (.inl x3), some (.inl x4), some (.inl x5), some (.inl r11)], [.inl (U12 86 4), .inl 3, .inr (.inr 86)], (am_sh, am_mm U12))) 4 (fun _ => rfl) ?_
                  obtain ⟨U13, ha121a1aaa2a2aa2aa2c, ha121a1aaa2a2aa2aa2a⟩ := ha121a1aaa2a2aa2aa2
                  refine ev_cal (σc := (d, 196, 0, [some (.inr (.inr 86)), some (.inl 3), some (.inl (U12 86 4))], [], (am_sh, am_mm U12))) (fun _ => rfl) ha121a1aaa2a2aa2aa2c ?_
                  show Ev kz ((d + 1), 191, 323, [some (.inr (.inr 86)), some (.inl x1), some (.inl x2), some (.inl x3), some (.inl x4), some (.inl x5), some (.inl r11)], [], (am_sh, am_mm U13)) R
                  exact ha121a1aaa2a2aa2aa2a
        · have ha121a2 := ha121a.2 hc
          subst ha121a2
          exact ev_end 1 (fun _ => rfl)
      · have ha122 := ha12.2 hc
        refine ev_seg (σ1 := ((d + 1), 191, 224, [some (.inr (.inr 86)), some (.inl x1), some (.inl x2), some (.inl x3), some (.inl x4), some (.inl x5), some (.inl x6)], [.inl x3, .inl 4, .inr (.inr 86)], (am_sh, am_mm U))) 2 (fun _ => rfl) ?_
        obtain ⟨U14, ha122c, ha122a⟩ := ha122
        refine ev_cal (σc := (d, 196, 0, [some (.inr (.inr 86)), some (.inl 4), some (.inl x3)], [], (am_sh, am_mm U))) (fun _ => rfl) ha122c ?_
        show Ev kz ((d + 1), 191, 227, [some (.inr (.inr 86)), some (.inl x1), some (.inl x2), some (.inl x3), some (.inl x4), some (.inl x5), some (.inl x6)], [], (am_sh, am_mm U14)) R
        refine ev_br (P := (U14 86 8) ≤ 0) (σ1 := ((d + 1), 191, 235, [some (.inr (.inr 86)), some (.inl x1), some (.inl x2), some (.inl x3), some (.inl x4), some (.inl x5), some (.inl x6)], [], (am_sh, am_mm U14))) (σ2 := ((d + 1), 191, 234, [some (.inr (.inr 86)), some (.inl x1), some (.inl x2), some (.inl x3), some (.inl x4), some (.inl x5), some (.inl x6)], [], (am_sh, am_mm U14))) 3 (fun _ => rfl) (fun hc => ?_) (fun hc => ?_)
        · have ha122a1 := ha122a.1 hc
          refine ev_seg (σ1 := ((d + 1), 191, 236, [some (.inr (.inr 86)), some (.inl x1), some (.inl x2), some (.inl x3), some (.inl x4), some (.inl x5), some (.inl x6)], [.inr (.inr 86)], (am_sh, am_mm U14))) 1 (fun _ => rfl) ?_
          obtain ⟨U15, ha122a1c, ha122a1a⟩ := ha122a1
          refine ev_cal (σc := (d, 93, 0, [some (.inr (.inr 86)), none, none, none, none, none], [], (am_sh, am_mm U14))) (fun _ => rfl) ha122a1c ?_
          show Ev kz ((d + 1), 191, 239, [some (.inr (.inr 86)), some (.inl x1), some (.inl x2), some (.inl x3), some (.inl x4), some (.inl x5), some (.inl x6)], [], (am_sh, am_mm U15)) R
          refine ev_seg (σ1 := ((d + 1), 191, 246, [some (.inr (.inr 86)), some (.inl x1), some (.inl x2), some (.inl x3), some (.inl x4), some (.inl x5), some (.inl x6)], [.inl x4, .inl x1, .inr (.inr 98)], (am_sh, am_mm U15))) 4 (fun _ => rfl) ?_
          refine eu_iast 98 (n := 32) rfl (by decide) rfl (fun _ => rfl) ha122a1a.1 ?_
          have ha122a1aa := ha122a1a.2
          refine ev_seg (σ1 := ((d + 1), 191, 253, [some (.inr (.inr 86)), some (.inl x1), some (.inl x2), some (.inl x3), some (.inl x4), some (.inl x5), some (.inl x6)], [.inl (-1), .inl x1, .inr (.inr 99)], (am_sh, am_mm (am_upd U15 98 x1.toNat x4)))) 4 (fun _ => rfl) ?_
          refine eu_iast 99 (n := 32) rfl (by decide) rfl (fun _ => rfl) ha122a1aa.1 ?_
          have ha122a1aaa := ha122a1aa.2
          refine ev_br (P := ¬ ((am_upd (am_upd U15 98 x1.toNat x4) 99 x1.toNat (-1)) 86 12) = (-1)) (σ1 := ((d + 1), 191, 342, [some (.inr (.inr 86)), some (.inl x1), some (.inl x2), some (.inl x3), some (.inl x4), some (.inl x5), some (.inl x6)], [], (am_sh, am_mm (am_upd (am_upd U15 98 x1.toNat x4) 99 x1.toNat (-1))))) (σ2 := ((d + 1), 191, 262, [some (.inr (.inr 86)), some (.inl x1), some (.inl x2), some (.inl x3), some (.inl x4), some (.inl x5), some (.inl x6)], [], (am_sh, am_mm (am_upd (am_upd U15 98 x1.toNat x4) 99 x1.toNat (-1))))) 4 (fun _ => rfl) (fun hc => ?_) (fun hc => ?_)
          · have ha122a1aaa1 := ha122a1aaa.1 hc
            exact ha122a1aaa1
          · have ha122a1aaa2 := ha122a1aaa.2 hc
            refine ev_seg (σ1 := ((d + 1), 191, 266, [some (.inr (.inr 86)), some (.inl x1), some (.inl x2), some (.inl x3), some (.inl x4), some (.inl x5), some (.inl x6)], [.inr (.inl 26990), .inr (.inr 86)], (am_sh, am_mm (am_upd (am_upd U15 98 x1.toNat x4) 99 x1.toNat (-1))))) 2 (fun _ => rfl) ?_
            obtain ⟨r16, U16, ha122a1aaa2c, ha122a1aaa2a⟩ := ha122a1aaa2
            refine ev_cal (σc := (d, 187, 0, [some (.inr (.inr 86)), some (.inr (.inl 26990)), none], [], (am_sh, am_mm (am_upd (am_upd U15 98 x1.toNat x4) 99 x1.toNat (-1))))) (fun _ => rfl) ha122a1aaa2c ?_
            show Ev kz ((d + 1), 191, 269, [some (.inr (.inr 86)), some (.inl x1), some (.inl x2), some (.inl x3), some (.inl x4), some (.inl x5), some (.inl x6)], [.inl r16], (am_sh, am_mm U16)) R
            refine ev_br (P := r16 = 0) (σ1 := ((d + 1), 191, 342, [some (.inr (.inr 86)), some (.inl x1), some (.inl x2), some (.inl x3), some (.inl x4), some (.inl x5), some (.inl x6)], [], (am_sh, am_mm U16))) (σ2 := ((d + 1), 191, 272, [some (.inr (.inr 86)), some (.inl x1), some (.inl x2), some (.inl x3), some (.inl x4), some (.inl x5), some (.inl x6)], [], (am_sh, am_mm U16))) 1 (fun _ => rfl) (fun hc => ?_) (fun hc => ?_)
            · have ha122a1aaa2a1 := ha122a1aaa2a.1 hc
              exact ha122a1aaa2a1
            · have ha122a1aaa2a2 := ha122a1aaa2a.2 hc
              refine ev_seg (σ1 := ((d + 1), 191, 273, [some (.inr (.inr 86)), some (.inl x1), some (.inl x2), some (.inl x3), some (.inl x4), some (.inl x5), some (.inl x6)], [.inr (.inr 86)], (am_sh, am_mm U16))) 1 (fun _ => rfl) ?_
              obtain ⟨U17, ha122a1aaa2a2c, ha122a1aaa2a2a⟩ := ha122a1aaa2a2
              refine ev_cal (σc := (d, 93, 0, [some (.inr (.inr 86)), none, none, none, none, none], [], (am_sh, am_mm U16))) (fun _ => rfl) ha122a1aaa2a2c ?_
              show Ev kz ((d + 1), 191, 276, [some (.inr (.inr 86)), some (.inl x1), some (.inl x2), some (.inl x3), some (.inl x4), some (.inl x5), some (.inl x6)], [], (am_sh, am_mm U17)) R
              refine ev_seg (σ1 := ((d + 1), 191, 278, [some (.inr (.inr 86)), some (.inl x1), some (.inl x2), some (.inl x3), some (.inl x4), some (.inl x5), some (.inl x6)], [.inl 1, .inr (.inr 86)], (am_sh, am_mm U17))) 2 (fun _ => rfl) ?_
              obtain ⟨r18, U18, ha122a1aaa2a2ac, ha122a1aaa2a2aa⟩ := ha122a1aaa2a2a
              refine ev_cal (σc := (d, 269, 0, [some (.inr (.inr 86)), some (.inl 1), none], [], (am_sh, am_mm U17))) (fun _ => rfl) ha122a1aaa2a2ac ?_
              show Ev kz ((d + 1), 191, 281, [some (.inr (.inr 86)), some (.inl x1), some (.inl x2), some (.inl x3), some (.inl x4), some (.inl x5), some (.inl x6)], [.inl r18], (am_sh, am_mm U18)) R
              refine ev_br (P := ¬ (U18 86 8) = 0) (σ1 := ((d + 1), 191, 323, [some (.inr (.inr 86)), some (.inl x1), some (.inl x2), some (.inl x3), some (.inl x4), some (.inl x5), some (.inl r18)], [], (am_sh, am_mm U18))) (σ2 := ((d + 1), 191, 290, [some (.inr (.inr 86)), some (.inl x1), some (.inl x2), some (.inl x3), some (.inl x4), some (.inl x5), some (.inl r18)], [], (am_sh, am_mm U18))) 4 (fun _ => rfl) (fun hc => ?_) (fun hc => ?_)
              · have ha122a1aaa2a2aa1 := ha122a1aaa2a2aa.1 hc
                exact ha122a1aaa2a2aa1
              · have ha122a1aaa2a2aa2 := ha122a1aaa2a2aa.2 hc
                refine ev_seg (σ1 := ((d + 1), 191, 293, [some (.inr (.inr 86)), some (.inl x1), some (.inl x2), some (.inl x3), some (.inl x4), some (.inl x5), some (.inl r18)], [.inl r18, .inr (.inr 86)], (am_sh, am_mm U18))) 2 (fun _ => rfl) ?_
                obtain ⟨r19, U19, ha122a1aaa2a2aa2c, ha122a1aaa2a2aa2a⟩ := ha122a1aaa2a2aa2
                refine ev_cal (σc := (d, 270, 0, [some (.inr (.inr 86)), some (.inl r18), none, none], [], (am_sh, am_mm U18))) (fun _ => rfl) ha122a1aaa2a2aa2c ?_
                show Ev kz ((d + 1), 191, 296, [some (.inr (.inr 86)), some (.inl x1), some (.inl x2), some (.inl x3), some (.inl x4), some (.inl x5), some (.inl r18)], [.inl r19], (am_sh, am_mm U19)) R
                refine ev_seg (σ1 := ((d + 1), 191, 310, [some (.inr (.inr 86)), some (.inl x1), some (.inl x2), some (.inl x3), some (.inl x4), some (.inl x5), some (.inl r18)], [.inl (w32 ((w32 (12 * (U19 86 40))) + r18)), .inr (.inr 93), .inl r19], (am_sh, am_mm U19))) 8 (fun _ => rfl) ?_
                refine eu_iald 93 (n := 24) rfl (by decide) rfl (fun _ => rfl) ha122a1aaa2a2aa2a.1 ?_
                have ha122a1aaa2a2aa2aa := ha122a1aaa2a2aa2a.2
                refine ev_br (P := ¬ r19 = (U19 93 (w32 ((w32 (12 * (U19 86 40))) + r18)).toNat)) (σ1 := ((d + 1), 191, 323, [some (.inr (.inr 86)), some (.inl x1), some (.inl x2), some (.inl x3), some (.inl x4), some (.inl x5), some (.inl r18)], [], (am_sh, am_mm U19))) (σ2 := ((d + 1), 191, 314, [some (.inr (.inr 86)), some (.inl x1), some (.inl x2), some (.inl x3), some (.inl x4), some (.inl x5), some (.inl r18)], [], (am_sh, am_mm U19))) 1 (fun _ => rfl) (fun hc => ?_) (fun hc => ?_)
                · have ha122a1aaa2a2aa2aa1 := ha122a1aaa2a2aa2aa.1 hc
                  exact ha122a1aaa2a2aa2aa1
                · have ha122a1aaa2a2aa2aa2 := ha122a1aaa2a2aa2aa.2 hc
                  refine ev_seg (σ1 := ((d + 1), 191, 320, [some (.inr (.inr 86)), some (.inl x1), some (.inl x2), some (.inl x3), some (.inl x4), some (.inl x5), some (.inl r18)], [.inl (U19 86 4), .inl 3, .inr (.inr 86)], (am_sh, am_mm U19))) 4 (fun _ => rfl) ?_
                  obtain ⟨U20, ha122a1aaa2a2aa2aa2c, ha122a1aaa2a2aa2aa2a⟩ := ha122a1aaa2a2aa2aa2
                  refine ev_cal (σc := (d, 196, 0, [some (.inr (.inr 86)), some (.inl 3), some (.inl (U19 86 4))], [], (am_sh, am_mm U19))) (fun _ => rfl) ha122a1aaa2a2aa2aa2c ?_
                  show Ev kz ((d + 1), 191, 323, [some (.inr (.inr 86)), some (.inl x1), some (.inl x2), some (.inl x3), some (.inl x4), some (.inl x5), some (.inl r18)], [], (am_sh, am_mm U20)) R
                  exact ha122a1aaa2a2aa2aa2a
        · have ha122a2 := ha122a.2 hc
          subst ha122a2
          exact ev_end 1 (fun _ => rfl)
  · have ha2 := ha.2 hc
    refine ev_br (P := ¬ x5 = 0) (σ1 := ((d + 1), 191, 192, [some (.inr (.inr 86)), some (.inl x1), some (.inl x2), some (.inl x3), some (.inl x4), some (.inl x5), some (.inl x6)], [], (am_sh, am_mm U))) (σ2 := ((d + 1), 191, 172, [some (.inr (.inr 86)), some (.inl x1), some (.inl x2), some (.inl x3), some (.inl x4), some (.inl x5), some (.inl x6)], [], (am_sh, am_mm U))) 2 (fun _ => rfl) (fun hc => ?_) (fun hc => ?_)
    · have ha21 := ha2.1 hc
      refine ev_seg (σ1 := ((d + 1), 191, 153, [some (.inr (.inr 86)), some (.inl x1), some (.inl x2), some (.inl x3), some (.inl x4), some (.inl 1), some (.inl (w32 (x6 + 1)))], [], (am_sh, am_mm U))) 5 (fun _ => rfl) ?_
      exact ha21
    · have ha22 := ha2.2 hc
      refine ev_seg (σ1 := ((d + 1), 191, 186, [some (.inr (.inr 86)), some (.inl x1), some (.inl x2), some (.inl x3), some (.inl x4), some (.inl x5), some (.inl x6)], [.inl (w32 ((w32 (16 * (U 86 40))) + x6)), .inr (.inr 98)], (am_sh, am_mm U))) 8 (fun _ => rfl) ?_
      refine eu_iald 98 (n := 32) rfl (by decide) rfl (fun _ => rfl) ha22.1 ?_
      have ha22a := ha22.2
      refine ev_br (P := ¬ (U 98 (w32 ((w32 (16 * (U 86 40))) + x6)).toNat) = x4) (σ1 := ((d + 1), 191, 196, [some (.inr (.inr 86)), some (.inl x1), some (.inl x2), some (.inl x3), some (.inl x4), some (.inl x5), some (.inl x6)], [], (am_sh, am_mm U))) (σ2 := ((d + 1), 191, 192, [some (.inr (.inr 86)), some (.inl x1), some (.inl x2), some (.inl x3), some (.inl x4), some (.inl x5), some (.inl x6)], [], (am_sh, am_mm U))) 2 (fun _ => rfl) (fun hc => ?_) (fun hc => ?_)
      · have ha22a1 := ha22a.1 hc
        refine ev_seg (σ1 := ((d + 1), 191, 153, [some (.inr (.inr 86)), some (.inl x1), some (.inl x2), some (.inl x3), some (.inl x4), some (.inl 0), some (.inl (w32 (x6 + 1)))], [], (am_sh, am_mm U))) 4 (fun _ => rfl) ?_
        exact ha22a1
      · have ha22a2 := ha22a.2 hc
        refine ev_seg (σ1 := ((d + 1), 191, 153, [some (.inr (.inr 86)), some (.inl x1), some (.inl x2), some (.inl x3), some (.inl x4), some (.inl 1), some (.inl (w32 (x6 + 1)))], [], (am_sh, am_mm U))) 5 (fun _ => rfl) ?_
        exact ha22a2
theorem st191_86_342 (kz : am_Z) (d : Nat) (x1 x2 x3 x4 x5 x6 : Int) (U : Nat → Nat → Int) (R : Option am_V × am_M) (h : (((¬ (U 86 8) = 0 : Prop)) → R = (none, (am_sh, am_mm U))) ∧ (¬ (¬ (U 86 8) = 0) → (0 ≤ (U 86 40) ∧ (U 86 40) < 2) ∧ (0 ≤ (U 86 40) ∧ (U 86 40) < 2) ∧ R = (none, (am_sh, am_mm (am_upd U 97 (U 86 40).toNat (w32 ((U 97 (U 86 40).toNat) + 1))))))) : Ev kz ((d + 1), 191, 342, [some (.inr (.inr 86)), some (.inl x1), some (.inl x2), some (.inl x3), some (.inl x4), some (.inl x5), some (.inl x6)], [], (am_sh, am_mm U)) R := by
  refine ev_br (P := ¬ (U 86 8) = 0) (σ1 := ((d + 1), 191, 362, [some (.inr (.inr 86)), some (.inl x1), some (.inl x2), some (.inl x3), some (.inl x4), some (.inl x5), some (.inl x6)], [], (am_sh, am_mm U))) (σ2 := ((d + 1), 191, 349, [some (.inr (.inr 86)), some (.inl x1), some (.inl x2), some (.inl x3), some (.inl x4), some (.inl x5), some (.inl x6)], [], (am_sh, am_mm U))) 3 (fun _ => rfl) (fun hc => ?_) (fun hc => ?_)
  · have h1 := h.1 hc
    subst h1
    exact ev_end 1 (fun _ => rfl)
  · have h2 := h.2 hc
    refine ev_seg (σ1 := ((d + 1), 191, 358, [some (.inr (.inr 86)), some (.inl x1), some (.inl x2), some (.inl x3), some (.inl x4), some (.inl x5), some (.inl x6)], [.inl (U 86 40), .inr (.inr 97), .inl (U 86 40), .inr (.inr 97)], (am_sh, am_mm U))) 5 (fun _ => rfl) ?_
    refine eu_iald 97 (n := 2) rfl (by decide) rfl (fun _ => rfl) h2.1 ?_
    have h2a := h2.2
    refine ev_seg (σ1 := ((d + 1), 191, 361, [some (.inr (.inr 86)), some (.inl x1), some (.inl x2), some (.inl x3), some (.inl x4), some (.inl x5), some (.inl x6)], [.inl (w32 ((U 97 (U 86 40).toNat) + 1)), .inl (U 86 40), .inr (.inr 97)], (am_sh, am_mm U))) 2 (fun _ => rfl) ?_
    refine eu_iast 97 (n := 2) rfl (by decide) rfl (fun _ => rfl) h2a.1 ?_
    have h2aa := h2a.2
    subst h2aa
    exact ev_end 1 (fun _ => rfl)
theorem st191_86_323 (kz : am_Z) (d : Nat) (x1 x2 x3 x4 x5 x6 : Int) (U : Nat → Nat → Int) (R : Option am_V × am_M) (h : (((¬ (U 86 8) = 0 : Prop)) → (0 ≤ x1 ∧ x1 < 32) ∧ Ev kz ((d + 1), 191, 342, [some (.inr (.inr 86)), some (.inl x1), some (.inl x2), some (.inl x3), some (.inl x4), some (.inl x5), some (.inl x6)], [], (am_sh, am_mm (am_upd U 99 x1.toNat x6))) R) ∧ (¬ (¬ (U 86 8) = 0) → ∃ U1 : Nat → Nat → Int, Ev kz (d, 93, 0, [some (.inr (.inr 86)), none, none, none, none, none], [], (am_sh, am_mm U)) (none, (am_sh, am_mm U1)) ∧ (0 ≤ x1 ∧ x1 < 32) ∧ Ev kz ((d + 1), 191, 342, [some (.inr (.inr 86)), some (.inl x1), some (.inl x2), some (.inl x3), some (.inl x4), some (.inl x5), some (.inl x6)], [], (am_sh, am_mm (am_upd U1 99 x1.toNat x6))) R)) : Ev kz ((d + 1), 191, 323, [some (.inr (.inr 86)), some (.inl x1), some (.inl x2), some (.inl x3), some (.inl x4), some (.inl x5), some (.inl x6)], [], (am_sh, am_mm U)) R := by
  refine ev_br (P := ¬ (U 86 8) = 0) (σ1 := ((d + 1), 191, 334, [some (.inr (.inr 86)), some (.inl x1), some (.inl x2), some (.inl x3), some (.inl x4), some (.inl x5), some (.inl x6)], [], (am_sh, am_mm U))) (σ2 := ((d + 1), 191, 330, [some (.inr (.inr 86)), some (.inl x1), some (.inl x2), some (.inl x3), some (.inl x4), some (.inl x5), some (.inl x6)], [], (am_sh, am_mm U))) 3 (fun _ => rfl) (fun hc => ?_) (fun hc => ?_)
  · have h1 := h.1 hc
    refine ev_seg (σ1 := ((d + 1), 191, 341, [some (.inr (.inr 86)), some (.inl x1), some (.inl x2), some (.inl x3), some (.inl x4), some (.inl x5), some (.inl x6)], [.inl x6, .inl x1, .inr (.inr 99)], (am_sh, am_mm U))) 4 (fun _ => rfl) ?_
    refine eu_iast 99 (n := 32) rfl (by decide) rfl (fun _ => rfl) h1.1 ?_
    have h1a := h1.2
    exact h1a
  · have h2 := h.2 hc
    refine ev_seg (σ1 := ((d + 1), 191, 331, [some (.inr (.inr 86)), some (.inl x1), some (.inl x2), some (.inl x3), some (.inl x4), some (.inl x5), some (.inl x6)], [.inr (.inr 86)], (am_sh, am_mm U))) 1 (fun _ => rfl) ?_
    obtain ⟨U1, h2c, h2a⟩ := h2
    refine ev_cal (σc := (d, 93, 0, [some (.inr (.inr 86)), none, none, none, none, none], [], (am_sh, am_mm U))) (fun _ => rfl) h2c ?_
    show Ev kz ((d + 1), 191, 334, [some (.inr (.inr 86)), some (.inl x1), some (.inl x2), some (.inl x3), some (.inl x4), some (.inl x5), some (.inl x6)], [], (am_sh, am_mm U1)) R
    refine ev_seg (σ1 := ((d + 1), 191, 341, [some (.inr (.inr 86)), some (.inl x1), some (.inl x2), some (.inl x3), some (.inl x4), some (.inl x5), some (.inl x6)], [.inl x6, .inl x1, .inr (.inr 99)], (am_sh, am_mm U1))) 4 (fun _ => rfl) ?_
    refine eu_iast 99 (n := 32) rfl (by decide) rfl (fun _ => rfl) h2a.1 ?_
    have h2aa := h2a.2
    exact h2aa
