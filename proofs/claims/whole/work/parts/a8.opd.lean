/-! the reference takes an operand -/
/-- the reference in its frame f: codes cl, open o, ops S above q0 -/
def rF (V : am_U) (T : Nat → Int) (L i b cl f : Nat) (kd ph bg op : Int) (o q0 : Nat) (S : List Int) : Prop := rT V T L i ∧ V 86 40 = (b : Nat) ∧ V 86 39 = (cl : Nat) ∧ V 86 46 = ((f + 1 : Nat) : Int) ∧ V 86 47 = (o : Nat) ∧ V 86 50 = op ∧ (V 113 f = kd ∧ V 114 f = ph ∧ V 115 f = bg ∧ V 117 f = (q0 : Nat)) ∧ hst V q0 S
/-- what stays in the frames below -/
def kB (V V' : am_U) (f q0 : Nat) : Prop := fZ V V' ∧ (∀ g, g < f → V' 113 g = V 113 g ∧ V' 114 g = V 114 g ∧ V' 115 g = V 115 g ∧ V' 116 g = V 116 g ∧ V' 117 g = V 117 g) ∧ V' 116 f = V 116 f ∧ ∀ j, j < q0 → V' 118 j = V 118 j
theorem kB_refl (V : am_U) (f q0 : Nat) : kB V V f q0 := ⟨fZ_refl V, fun _ _ => ⟨rfl, rfl, rfl, rfl, rfl⟩, rfl, fun _ _ => rfl⟩
theorem kB_trans {V V1 V2 : am_U} {f q0 : Nat} (h1 : kB V V1 f q0) (h2 : kB V1 V2 f q0) : kB V V2 f q0 := by
  obtain ⟨a1, a2, a3, a4⟩ := h1
  obtain ⟨b1, b2, b3, b4⟩ := h2
  refine ⟨fZ_trans a1 b1, fun g hg => ?_, by rw [b3, a3], fun j hj => by rw [b4 j hj, a4 j hj]⟩
  obtain ⟨x1, x2, x3, x4, x5⟩ := a2 g hg
  obtain ⟨y1, y2, y3, y4, y5⟩ := b2 g hg
  exact ⟨by rw [y1, x1], by rw [y2, x2], by rw [y3, x3], by rw [y4, x4], by rw [y5, x5]⟩
theorem kB_A6 {V V' : am_U} (h : fA6 V V') (f q0 : Nat) : kB V V' f q0 := by
  have r : ∀ r, r ≠ 86 → V' r = V r := fun r hr => fA6_row h hr
  refine ⟨fZ_A6 h, fun g _ => ?_, by rw [r 116 (by decide)], fun j _ => by rw [r 118 (by decide)]⟩
  rw [r 113 (by decide), r 114 (by decide), r 115 (by decide), r 116 (by decide), r 117 (by decide)]
  exact ⟨rfl, rfl, rfl, rfl, rfl⟩
section OPD
variable {N : Nat} {X : Nat → Int} {d L K i b cl f o q0 : Nat} {T kk vv : Nat → Int} {bp : Int} {V : am_U} {kd ph bg op : Int} {S : List Int}
def isTs (kd : Int) : Prop := kd = 1 ∨ kd = 5
theorem ct_isTest1 : EvK N X (M_isTest_s0 d kd V) (rI (cb (isTs kd)) V) := by
  refine M_isTest_r0 ⟨fun z => by rw [cb_t (show isTs kd from Or.inl z)], fun z => ⟨fun y => by rw [cb_f (show ¬ isTs kd from fun x => by unfold isTs at x; omega)], fun y => by rw [cb_t (show isTs kd from Or.inr y)]⟩⟩
/-- none of those with which a fact may begin -/
def noFst (kk vv : Nat → Int) (i : Nat) : Prop := ¬ (kk i = 1 ∧ vv i = 21) ∧ ¬ (kk i = 4 ∧ vv i = 91) ∧ ¬ (kk i = 1 ∧ vv i = 22) ∧ ¬ (kk i = 1 ∧ vv i = 17) ∧ ¬ (kk i = 1 ∧ vv i = 18)
theorem opd_go (hk : tkS T L K kk vv bp) (hi : i ≤ K) (hr : rT V T L i) (hx : V 86 12 = -1) (hf : f < 20) (h46 : V 86 46 = ((f + 1 : Nat) : Int)) (h113 : V 113 f = kd) (hn : isTs kd → V 115 f ≠ 0 → noFst kk vv i) : ∃ x, ∀ R, EvK N X (M_operand_s229 (d + 5) (f : Nat) x (am_upd V 115 f 0)) R → EvK N X (M_operand_s0 (d + 5) V) R := by
  have e46 : eqI (w32 (V 86 46 - 1)) ((f : Nat) : Int) := by show _ = _; rw [h46, w32_eq (by omega) (by omega)]; omega
  have hr' : rT (am_upd V 115 f 0) T L i := rT_cg hr (upd_row (by decide)) (fun j _ _ => by rw [upd_row (by decide)])
  have hx' : am_upd V 115 f 0 86 12 = -1 := by rw [upd_row (by decide)]; exact hx
  have ww : ∀ (W : am_U) (w : Nat), rT W T L i → W 86 12 = -1 → w < 26 → ¬ (kk i = 1 ∧ vv i = (w : Nat)) → EvK N X (M_isWord_s0 (d + 4) (ow8 w) W) (rI 0 W) := fun W w h1 h2 h3 h4 => by
    have := ct_isWord1 (N := N) (X := X) (d := d + 4) hk h1 hi h2 w h3
    rw [b2i_f h4] at this; exact this
  have start : ∀ {R}, (((cb (isTs kd)) = 0) → EvK N X (M_operand_s45 (d + 5) (f : Nat) V) R) ∧ (((cb (isTs kd)) ≠ 0) → ((V 115 f = 0) → EvK N X (M_operand_s45 (d + 5) (f : Nat) V) R) ∧ ((V 115 f ≠ 0) → EvK N X (M_operand_s46 (d + 5) (f : Nat) 1 V) R)) → EvK N X (M_operand_s0 (d + 5) V) R := fun {R} y => by
    refine M_operand_r0 ⟨V, ct_lex1 (d := d + 3) hx, fun _ => ?_, fun z => absurd z (by rw [hr.2.2]; omega)⟩
    rw [eqI_o e46, Int.toNat_natCast, h113]
    exact ⟨by omega, _, V, ct_isTest1, y⟩
  by_cases c : isTs kd ∧ V 115 f ≠ 0
  · obtain ⟨n1, n2, n3, n4, n5⟩ := hn c.1 c.2
    refine ⟨1, fun R hR => start ⟨fun z => absurd c.1 (cb_eq.mp z), fun _ => ⟨fun z => absurd z c.2, fun _ => ?_⟩⟩⟩
    refine M_operand_r46 ⟨fun z => absurd z (by decide), fun _ => ⟨0, V, ww V 21 hr hx (by decide) n1, fun _ => ?_, fun z => absurd rfl z⟩⟩
    have sg := ct_isSign1 (N := N) (X := X) (d := d + 4) hk hr' hi hx' 91 (by decide)
    rw [b2i_f n2] at sg
    refine M_operand_r110 ⟨by omega, fun z => absurd z (by decide), fun _ => ⟨0, am_upd V 115 f 0, by rw [Int.toNat_natCast]; exact sg, fun _ => ?_, fun z => absurd rfl z⟩⟩
    refine M_operand_r137 ⟨fun z => absurd z (by decide), fun _ => ⟨0, _, ww _ 22 hr' hx' (by decide) n3, fun _ => ?_, fun z => absurd rfl z⟩⟩
    exact M_operand_r171 ⟨fun z => absurd z (by decide), fun _ => ⟨0, _, ww _ 17 hr' hx' (by decide) n4, fun z => absurd rfl z, fun _ => ⟨0, _, ww _ 18 hr' hx' (by decide) n5, fun _ => hR, fun z => absurd rfl z⟩⟩⟩
  · have s45 : ∀ {R}, EvK N X (M_operand_s229 (d + 5) (f : Nat) 0 (am_upd V 115 f 0)) R → EvK N X (M_operand_s45 (d + 5) (f : Nat) V) R := fun {R} hR => by
      refine M_operand_r45 (M_operand_r46 ⟨fun _ => M_operand_r110 ⟨by omega, fun _ => ?_, fun z => absurd rfl z⟩, fun z => absurd rfl z⟩)
      rw [Int.toNat_natCast]
      exact M_operand_r137 ⟨fun _ => M_operand_r171 ⟨fun _ => hR, fun z => absurd rfl z⟩, fun z => absurd rfl z⟩
    refine ⟨0, fun R hR => start ⟨fun _ => s45 hR, fun z => ⟨fun _ => s45 hR, fun y => absurd ⟨cb_ne.mp z, y⟩ c⟩⟩⟩
/-- the loop takes what an operand gives -/
theorem loop_op {r : Int} {V2 : am_U} {R : Option am_V × am_M} (h50 : V 86 50 = 0) (ho : EvK N X (M_operand_s0 (d + 5) V) (rI r V2)) (h01 : r = 0 ∨ r = 1) (h1 : V2 86 8 ≠ 0 → EvK N X (M_reads_s43 (d + 6) 1 0 (am_upd V2 86 50 r)) R) (h2 : V2 86 8 = 0 → EvK N X (M_reads_s43 (d + 6) 1 1 (am_upd V2 86 50 r)) R) : EvK N X (M_reads_s43 (d + 6) 1 1 V) R :=
  M_reads_r43 ⟨fun z => absurd z (by decide), fun _ => ⟨fun z => absurd h50 z, fun _ => ⟨r, V2, ho, h01, h1, h2⟩⟩⟩
theorem loop_on {r : Int} {V2 : am_U} {R : Option am_V × am_M} (h50 : V 86 50 ≠ 0) (ho : EvK N X (M_goesOn_s0 (d + 5) V) (rI r V2)) (h1 : r = 0 → EvK N X (M_reads_s43 (d + 6) 1 0 V2) R) (h2 : r ≠ 0 → V2 86 8 ≠ 0 → EvK N X (M_reads_s43 (d + 6) 1 0 V2) R) (h3 : r ≠ 0 → V2 86 8 = 0 → EvK N X (M_reads_s43 (d + 6) 1 1 V2) R) : EvK N X (M_reads_s43 (d + 6) 1 1 V) R :=
  M_reads_r43 ⟨fun z => absurd z (by decide), fun _ => ⟨fun _ => ⟨r, V2, ho, h1, fun z => ⟨fun y => h2 z y, fun y => h3 z y⟩⟩, fun z => absurd z h50⟩⟩
/-- a bad one at an operand -/
theorem opd_bad (hr : rT V T L i) (hx : V 86 12 ≠ -1) : EvK N X (M_operand_s0 (d + 5) V) (rI 1 (am_upd (am_upd V 86 8 1) 86 9 (V 86 12))) := by
  refine M_operand_r0 ⟨_, ct_lexB (d := d + 3) hr.2.2 hx, fun z => absurd z ?_, fun _ => rfl⟩
  rw [upd_ne (by decide), upd_at]; decide
theorem on_bad (hr : rT V T L i) (hx : V 86 12 ≠ -1) : EvK N X (M_goesOn_s0 (d + 5) V) (rI 0 (am_upd (am_upd V 86 8 1) 86 9 (V 86 12))) := by
  refine M_goesOn_r0 ⟨_, ct_lexB (d := d + 3) hr.2.2 hx, fun z => absurd z ?_, fun _ => rfl⟩
  rw [upd_ne (by decide), upd_at]; decide
end OPD
