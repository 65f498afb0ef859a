/-! a statement: its word -/
section STM
variable {N : Nat} {X : Nat → Int} {T : Nat → Int} {L K : Nat} {kk vv : Nat → Int} {bp : Int} {i d b : Nat} {U V W : am_U}
theorem isFull_0 : EvK N X (Rd_isFull_s0 (d + 1) 0 U) (rI (b2i (4 ≤ U 31 0)) U) := by
  refine Rd_isFull_r0 ⟨fun _ => ⟨fun z => by rw [b2i_f (by omega)], fun z => by rw [b2i_t z]⟩, fun z => absurd z (by decide), fun z => absurd z (by decide), fun z => absurd z (by decide), fun z => absurd z (by decide), fun z => absurd z (by decide), fun z => absurd z (by decide), fun z => absurd z (by decide), fun z => absurd z (by decide), fun z => absurd z (by decide), fun z => absurd z (by decide), fun z => absurd z (by decide), fun z => absurd z (by decide), fun z => by exfalso; omega⟩
theorem isFull_1 : EvK N X (Rd_isFull_s0 (d + 1) 1 U) (rI (b2i (12 ≤ U 31 1)) U) := by
  refine Rd_isFull_r0 ⟨fun z => absurd z (by decide), fun _ => ⟨fun z => by rw [b2i_f (by omega)], fun z => by rw [b2i_t z]⟩, fun z => absurd z (by decide), fun z => absurd z (by decide), fun z => absurd z (by decide), fun z => absurd z (by decide), fun z => absurd z (by decide), fun z => absurd z (by decide), fun z => absurd z (by decide), fun z => absurd z (by decide), fun z => absurd z (by decide), fun z => absurd z (by decide), fun z => absurd z (by decide), fun z => by exfalso; omega⟩
theorem isFull_4 : EvK N X (Rd_isFull_s0 (d + 1) 4 U) (rI (b2i (10 ≤ U 31 2)) U) := by
  refine Rd_isFull_r0 ⟨fun z => absurd z (by decide), fun z => absurd z (by decide), fun z => absurd z (by decide), fun z => absurd z (by decide), fun _ => ⟨fun z => by rw [b2i_f (by omega)], fun z => by rw [b2i_t z]⟩, fun z => absurd z (by decide), fun z => absurd z (by decide), fun z => absurd z (by decide), fun z => absurd z (by decide), fun z => absurd z (by decide), fun z => absurd z (by decide), fun z => absurd z (by decide), fun z => absurd z (by decide), fun z => by exfalso; omega⟩
theorem isFull_5 : EvK N X (Rd_isFull_s0 (d + 1) 5 U) (rI (b2i (16 ≤ U 21 0)) U) := by
  refine Rd_isFull_r0 ⟨fun z => absurd z (by decide), fun z => absurd z (by decide), fun z => absurd z (by decide), fun z => absurd z (by decide), fun z => absurd z (by decide), fun _ => ⟨fun z => by rw [b2i_f (by omega)], fun z => by rw [b2i_t z]⟩, fun z => absurd z (by decide), fun z => absurd z (by decide), fun z => absurd z (by decide), fun z => absurd z (by decide), fun z => absurd z (by decide), fun z => absurd z (by decide), fun z => absurd z (by decide), fun z => by exfalso; omega⟩
theorem isFull_7 : EvK N X (Rd_isFull_s0 (d + 1) 7 U) (rI (b2i (8 ≤ U 31 4)) U) := by
  refine Rd_isFull_r0 ⟨fun z => absurd z (by decide), fun z => absurd z (by decide), fun z => absurd z (by decide), fun z => absurd z (by decide), fun z => absurd z (by decide), fun z => absurd z (by decide), fun z => absurd z (by decide), fun _ => ⟨fun z => by rw [b2i_f (by omega)], fun z => by rw [b2i_t z]⟩, fun z => absurd z (by decide), fun z => absurd z (by decide), fun z => absurd z (by decide), fun z => absurd z (by decide), fun z => absurd z (by decide), fun z => by exfalso; omega⟩
theorem isFull_12 : EvK N X (Rd_isFull_s0 (d + 1) 12 U) (rI (b2i (16 ≤ U 31 3)) U) := by
  refine Rd_isFull_r0 ⟨fun z => absurd z (by decide), fun z => absurd z (by decide), fun z => absurd z (by decide), fun z => absurd z (by decide), fun z => absurd z (by decide), fun z => absurd z (by decide), fun z => absurd z (by decide), fun z => absurd z (by decide), fun z => absurd z (by decide), fun z => absurd z (by decide), fun z => absurd z (by decide), fun z => absurd z (by decide), fun _ => ⟨fun z => by rw [b2i_f (by omega)], fun z => by rw [b2i_t z]⟩, fun z => by exfalso; omega⟩
theorem isFull_11 (h4 : 0 ≤ U 31 4 ∧ U 31 4 ≤ 8) : EvK N X (Rd_isFull_s0 (d + 1) 11 U) (rI (b2i (U 41 8 < U 42 8)) U) := by
  refine Rd_isFull_r0 ⟨fun z => absurd z (by decide), fun z => absurd z (by decide), fun z => absurd z (by decide), fun z => absurd z (by decide), fun z => absurd z (by decide), fun z => absurd z (by decide), fun z => absurd z (by decide), fun z => absurd z (by decide), fun z => absurd z (by decide), fun z => absurd z (by decide), fun z => absurd z (by decide), fun _ => ⟨_, U, Tw_hasTest_31_r0 ⟨fun z => absurd z (by decide), fun _ => ⟨fun z => absurd z (by omega), fun _ => ⟨fun z => absurd rfl z, fun _ => ⟨by omega, fun z => ?_, fun z => ?_⟩⟩⟩⟩, b2i_01, rfl⟩, fun z => absurd z (by decide), fun z => by exfalso; omega⟩
  · rw [b2i_f (show ¬ (U 41 8 < U 42 8) from Int.not_lt.mpr z)]
  · rw [b2i_t (show U 41 8 < U 42 8 from z)]
def stW (w : Int) : Prop := w = 0 ∨ w = 1 ∨ w = 4 ∨ w = 5 ∨ w = 7 ∨ w = 11 ∨ w = 12 ∨ w = 13
theorem isFull_o {w : Int} (h : ¬ stW w ∨ w = 13) : EvK N X (Rd_isFull_s0 (d + 1) w U) (rI 0 U) := by
  unfold stW at h
  refine Rd_isFull_r0 ⟨fun z => absurd z (by omega), fun z => absurd z (by omega), fun _ => rfl, fun _ => rfl, fun z => absurd z (by omega), fun z => absurd z (by omega), fun _ => rfl, fun z => absurd z (by omega), fun _ => rfl, fun _ => rfl, fun _ => rfl, fun z => absurd z (by omega), fun z => absurd z (by omega), fun _ => rfl⟩
/-- the class behind a statement's word -/
def QQ (N : Nat) (X : Nat → Int) (d : Nat) (U : am_U) (r : Int) (U' : am_U) : Prop := U 26 3 < 80 → ((r = 0 → EvK N X (Rd_readStatement_s0 (d + 90) U) (rI 0 U')) ∧ (r ≠ 0 → ∃ w : Int, ∀ R, EvK N X (Rd_readStatement_s261 (d + 90) w 1 U') R → EvK N X (Rd_readStatement_s0 (d + 90) U) R))
theorem s36_go (h7 : U 26 7 = 1) {R : Option am_V × am_M} {w : Int} (h8 : U 26 8 = w) (h3 : U 26 3 < 80) (h : EvK N X (Rd_readStatement_s36 (d + 90) w U) R) : EvK N X (Rd_readStatement_s0 (d + 90) U) R := by
  refine Rd_readStatement_r0 ⟨fun _ => ⟨fun z => absurd h7 z, fun _ => ?_⟩, fun z => absurd z (by omega)⟩
  rw [h8]; exact h
theorem s261_0 {x : Int} : EvK N X (Rd_readStatement_s261 (d + 90) x 0 U) (rI 0 U) := Rd_readStatement_r261 ⟨fun _ => rfl, fun z => absurd rfl z⟩
theorem QQ_0 (h7 : U 26 7 = 1) (h8 : U 26 8 = 0) (hf : EvK N X (Rd_isFull_s0 (d + 89) 0 U) (rI 0 U)) {r : Int} {U' : am_U} (h01 : r = 0 ∨ r = 1) (hm : EvK N X (Rd_readStreet_s0 (d + 89) U) (rI r U')) : QQ N X d U r U' := by
  intro h3
  have go : ∀ R, EvK N X (Rd_readStatement_s261 (d + 90) 0 r U') R → EvK N X (Rd_readStatement_s0 (d + 90) U) R := fun R hR => by
    refine s36_go h7 h8 h3 (Rd_readStatement_r36 ⟨0, U, hf, fun _ => ⟨fun _ => ⟨r, U', hm, hR⟩, fun z => absurd z (by decide), fun z => absurd z (by decide), fun z => absurd z (by decide), fun z => absurd z (by decide), fun z => absurd z (by decide), fun z => absurd z (by decide), fun z => absurd z (by decide), fun z => absurd z (by decide), fun z => absurd z (by decide), fun z => absurd z (by decide), fun z => absurd z (by decide), fun z => absurd z (by decide), fun z => absurd z (by decide), fun z => by exfalso; omega⟩, fun z => absurd rfl z⟩)
  refine ⟨fun e => go _ (by rw [e]; exact s261_0), fun e => ⟨0, fun R hR => go R ?_⟩⟩
  rcases h01 with z | z
  · exact absurd z e
  · rw [z]; exact hR
theorem QQ_1 (h7 : U 26 7 = 1) (h8 : U 26 8 = 1) (hf : EvK N X (Rd_isFull_s0 (d + 89) 1 U) (rI 0 U)) {r : Int} {U' : am_U} (h01 : r = 0 ∨ r = 1) (hm : EvK N X (Rd_readHouse_s0 (d + 89) U) (rI r U')) : QQ N X d U r U' := by
  intro h3
  have go : ∀ R, EvK N X (Rd_readStatement_s261 (d + 90) 1 r U') R → EvK N X (Rd_readStatement_s0 (d + 90) U) R := fun R hR => by
    refine s36_go h7 h8 h3 (Rd_readStatement_r36 ⟨0, U, hf, fun _ => ⟨fun z => absurd z (by decide), fun _ => ⟨r, U', hm, hR⟩, fun z => absurd z (by decide), fun z => absurd z (by decide), fun z => absurd z (by decide), fun z => absurd z (by decide), fun z => absurd z (by decide), fun z => absurd z (by decide), fun z => absurd z (by decide), fun z => absurd z (by decide), fun z => absurd z (by decide), fun z => absurd z (by decide), fun z => absurd z (by decide), fun z => absurd z (by decide), fun z => by exfalso; omega⟩, fun z => absurd rfl z⟩)
  refine ⟨fun e => go _ (by rw [e]; exact s261_0), fun e => ⟨1, fun R hR => go R ?_⟩⟩
  rcases h01 with z | z
  · exact absurd z e
  · rw [z]; exact hR
theorem QQ_4 (h7 : U 26 7 = 1) (h8 : U 26 8 = 4) (hf : EvK N X (Rd_isFull_s0 (d + 89) 4 U) (rI 0 U)) {r : Int} {U' : am_U} (h01 : r = 0 ∨ r = 1) (hm : EvK N X (Rd_readLane_s0 (d + 89) U) (rI r U')) : QQ N X d U r U' := by
  intro h3
  have go : ∀ R, EvK N X (Rd_readStatement_s261 (d + 90) 4 r U') R → EvK N X (Rd_readStatement_s0 (d + 90) U) R := fun R hR => by
    refine s36_go h7 h8 h3 (Rd_readStatement_r36 ⟨0, U, hf, fun _ => ⟨fun z => absurd z (by decide), fun z => absurd z (by decide), fun z => absurd z (by decide), fun z => absurd z (by decide), fun _ => ⟨r, U', hm, hR⟩, fun z => absurd z (by decide), fun z => absurd z (by decide), fun z => absurd z (by decide), fun z => absurd z (by decide), fun z => absurd z (by decide), fun z => absurd z (by decide), fun z => absurd z (by decide), fun z => absurd z (by decide), fun z => absurd z (by decide), fun z => by exfalso; omega⟩, fun z => absurd rfl z⟩)
  refine ⟨fun e => go _ (by rw [e]; exact s261_0), fun e => ⟨4, fun R hR => go R ?_⟩⟩
  rcases h01 with z | z
  · exact absurd z e
  · rw [z]; exact hR
theorem QQ_5 (h7 : U 26 7 = 1) (h8 : U 26 8 = 5) (hf : EvK N X (Rd_isFull_s0 (d + 89) 5 U) (rI 0 U)) {r : Int} {U' : am_U} (h01 : r = 0 ∨ r = 1) (hm : EvK N X (Rd_readPerson_s0 (d + 89) U) (rI r U')) : QQ N X d U r U' := by
  intro h3
  have go : ∀ R, EvK N X (Rd_readStatement_s261 (d + 90) 5 r U') R → EvK N X (Rd_readStatement_s0 (d + 90) U) R := fun R hR => by
    refine s36_go h7 h8 h3 (Rd_readStatement_r36 ⟨0, U, hf, fun _ => ⟨fun z => absurd z (by decide), fun z => absurd z (by decide), fun z => absurd z (by decide), fun z => absurd z (by decide), fun z => absurd z (by decide), fun _ => ⟨r, U', hm, hR⟩, fun z => absurd z (by decide), fun z => absurd z (by decide), fun z => absurd z (by decide), fun z => absurd z (by decide), fun z => absurd z (by decide), fun z => absurd z (by decide), fun z => absurd z (by decide), fun z => absurd z (by decide), fun z => by exfalso; omega⟩, fun z => absurd rfl z⟩)
  refine ⟨fun e => go _ (by rw [e]; exact s261_0), fun e => ⟨5, fun R hR => go R ?_⟩⟩
  rcases h01 with z | z
  · exact absurd z e
  · rw [z]; exact hR
theorem QQ_12 (h7 : U 26 7 = 1) (h8 : U 26 8 = 12) (hf : EvK N X (Rd_isFull_s0 (d + 89) 12 U) (rI 0 U)) {r : Int} {U' : am_U} (h01 : r = 0 ∨ r = 1) (hm : EvK N X (Rd_readDebt_s0 (d + 89) U) (rI r U')) : QQ N X d U r U' := by
  intro h3
  have go : ∀ R, EvK N X (Rd_readStatement_s261 (d + 90) 12 r U') R → EvK N X (Rd_readStatement_s0 (d + 90) U) R := fun R hR => by
    refine s36_go h7 h8 h3 (Rd_readStatement_r36 ⟨0, U, hf, fun _ => ⟨fun z => absurd z (by decide), fun z => absurd z (by decide), fun z => absurd z (by decide), fun z => absurd z (by decide), fun z => absurd z (by decide), fun z => absurd z (by decide), fun z => absurd z (by decide), fun z => absurd z (by decide), fun z => absurd z (by decide), fun z => absurd z (by decide), fun z => absurd z (by decide), fun z => absurd z (by decide), fun _ => ⟨r, U', hm, hR⟩, fun z => absurd z (by decide), fun z => by exfalso; omega⟩, fun z => absurd rfl z⟩)
  refine ⟨fun e => go _ (by rw [e]; exact s261_0), fun e => ⟨12, fun R hR => go R ?_⟩⟩
  rcases h01 with z | z
  · exact absurd z e
  · rw [z]; exact hR
theorem QQ_13 (h7 : U 26 7 = 1) (h8 : U 26 8 = 13) (hf : EvK N X (Rd_isFull_s0 (d + 89) 13 U) (rI 0 U)) {r : Int} {U' : am_U} (h01 : r = 0 ∨ r = 1) (hm : EvK N X (Rd_readFire_s0 (d + 89) U) (rI r U')) : QQ N X d U r U' := by
  intro h3
  have go : ∀ R, EvK N X (Rd_readStatement_s261 (d + 90) 13 r U') R → EvK N X (Rd_readStatement_s0 (d + 90) U) R := fun R hR => by
    refine s36_go h7 h8 h3 (Rd_readStatement_r36 ⟨0, U, hf, fun _ => ⟨fun z => absurd z (by decide), fun z => absurd z (by decide), fun z => absurd z (by decide), fun z => absurd z (by decide), fun z => absurd z (by decide), fun z => absurd z (by decide), fun z => absurd z (by decide), fun z => absurd z (by decide), fun z => absurd z (by decide), fun z => absurd z (by decide), fun z => absurd z (by decide), fun z => absurd z (by decide), fun z => absurd z (by decide), fun _ => ⟨r, U', hm, hR⟩, fun z => by exfalso; omega⟩, fun z => absurd rfl z⟩)
  refine ⟨fun e => go _ (by rw [e]; exact s261_0), fun e => ⟨13, fun R hR => go R ?_⟩⟩
  rcases h01 with z | z
  · exact absurd z e
  · rw [z]; exact hR
theorem QQ_7 (h7 : U 26 7 = 1) (h8 : U 26 8 = 7) (hf : EvK N X (Rd_isFull_s0 (d + 89) 7 U) (rI 0 U)) {r : Int} {U' : am_U} (hm : QLaw N X d U r U') : QQ N X d U r U' := by
  intro h3
  have go : ∀ R, (∃ (r9 : Int) (U9 : am_U), EvK N X (Rd_takeLawKind_s0 (d + 89) U) (rI r9 U9) ∧ ((r9 = 0) → EvK N X (Rd_readStatement_s197 (d + 90) 7 U9) R) ∧ ((r9 ≠ 0) → ∃ (r10 : Int) (U10 : am_U), EvK N X (Rd_readTest_s0 (d + 89) 0 U9) (rI r10 U10) ∧ ((r10 = 0) → EvK N X (Rd_readStatement_s197 (d + 90) 7 U10) R) ∧ ((r10 ≠ 0) → ∃ (r11 : Int) (U11 : am_U), EvK N X (Tw_addLaw_s0 (d + 89) (U10 26 10) (U10 26 11) U10) (rI r11 U11) ∧ ((r11 = 0) → EvK N X (Rd_readStatement_s197 (d + 90) 7 U11) R) ∧ ((r11 ≠ 0) → EvK N X (Rd_readStatement_s261 (d + 90) 7 1 U11) R)))) → EvK N X (Rd_readStatement_s0 (d + 90) U) R := fun R hb => by
    refine s36_go h7 h8 h3 (Rd_readStatement_r36 ⟨0, U, hf, fun _ => ⟨fun z => absurd z (by decide), fun z => absurd z (by decide), fun z => absurd z (by decide), fun z => absurd z (by decide), fun z => absurd z (by decide), fun z => absurd z (by decide), fun z => absurd z (by decide), fun _ => hb, fun z => absurd z (by decide), fun z => absurd z (by decide), fun z => absurd z (by decide), fun z => absurd z (by decide), fun z => absurd z (by decide), fun z => absurd z (by decide), fun z => by exfalso; omega⟩, fun z => absurd rfl z⟩)
  obtain ⟨r9, U9, k1, k2⟩ := hm
  have bad : ∀ Z : am_U, EvK N X (Rd_readStatement_s197 (d + 90) 7 Z) (rI 0 Z) := fun Z => Rd_readStatement_r197 s261_0
  rcases k2 with ⟨e1, e2, e3⟩ | ⟨e1, r10, U10, k3, k4⟩
  · rw [e2, e3]
    exact ⟨fun _ => go _ ⟨r9, U9, k1, fun _ => bad U9, fun z => absurd e1 z⟩, fun z => absurd rfl z⟩
  · rcases k4 with ⟨e4, e5, e6⟩ | ⟨e4, r11, U11, k5, e5, e6, e7⟩
    · rw [e5, e6]
      exact ⟨fun _ => go _ ⟨r9, U9, k1, fun z => absurd z e1, fun _ => ⟨r10, U10, k3, fun _ => bad U10, fun z => absurd e4 z⟩⟩, fun z => absurd rfl z⟩
    · rw [e6, e7]
      exact ⟨fun z => absurd z (by decide), fun _ => ⟨7, fun R hR => go R ⟨r9, U9, k1, fun z => absurd z e1, fun _ => ⟨r10, U10, k3, fun z => absurd z e4, fun _ => ⟨r11, U11, k5, fun z => absurd z e5, fun _ => hR⟩⟩⟩⟩⟩
theorem QQ_11 (h7 : U 26 7 = 1) (h8 : U 26 8 = 11) (hf : EvK N X (Rd_isFull_s0 (d + 89) 11 U) (rI 0 U)) {r : Int} {U' : am_U} (hm : QWed N X d U r U') : QQ N X d U r U' := by
  intro h3
  have go : ∀ R, (∃ (r9 : Int) (U9 : am_U), EvK N X (Rd_takeWed_s0 (d + 89) U) (rI r9 U9) ∧ ((r9 = 0) → EvK N X (Rd_readStatement_s235 (d + 90) 11 U9) R) ∧ ((r9 ≠ 0) → ∃ (r10 : Int) (U10 : am_U), EvK N X (Rd_readTest_s0 (d + 89) 0 U9) (rI r10 U10) ∧ ((r10 = 0) → EvK N X (Rd_readStatement_s235 (d + 90) 11 U10) R) ∧ ((r10 ≠ 0) → ∃ (r11 : Int) (U11 : am_U), EvK N X (Tw_addWed_s0 (d + 89) (U10 26 11) U10) (rI r11 U11) ∧ ((r11 = 0) → EvK N X (Rd_readStatement_s235 (d + 90) 11 U11) R) ∧ ((r11 ≠ 0) → EvK N X (Rd_readStatement_s261 (d + 90) 11 1 U11) R)))) → EvK N X (Rd_readStatement_s0 (d + 90) U) R := fun R hb => by
    refine s36_go h7 h8 h3 (Rd_readStatement_r36 ⟨0, U, hf, fun _ => ⟨fun z => absurd z (by decide), fun z => absurd z (by decide), fun z => absurd z (by decide), fun z => absurd z (by decide), fun z => absurd z (by decide), fun z => absurd z (by decide), fun z => absurd z (by decide), fun z => absurd z (by decide), fun z => absurd z (by decide), fun z => absurd z (by decide), fun z => absurd z (by decide), fun _ => hb, fun z => absurd z (by decide), fun z => absurd z (by decide), fun z => by exfalso; omega⟩, fun z => absurd rfl z⟩)
  obtain ⟨r9, U9, k1, k2⟩ := hm
  have bad : ∀ Z : am_U, EvK N X (Rd_readStatement_s235 (d + 90) 11 Z) (rI 0 Z) := fun Z => Rd_readStatement_r235 s261_0
  rcases k2 with ⟨e1, e2, e3⟩ | ⟨e1, r10, U10, k3, k4⟩
  · rw [e2, e3]
    exact ⟨fun _ => go _ ⟨r9, U9, k1, fun _ => bad U9, fun z => absurd e1 z⟩, fun z => absurd rfl z⟩
  · rcases k4 with ⟨e4, e5, e6⟩ | ⟨e4, r11, U11, k5, e5, e6, e7⟩
    · rw [e5, e6]
      exact ⟨fun _ => go _ ⟨r9, U9, k1, fun z => absurd z e1, fun _ => ⟨r10, U10, k3, fun _ => bad U10, fun z => absurd e4 z⟩⟩, fun z => absurd rfl z⟩
    · rw [e6, e7]
      exact ⟨fun z => absurd z (by decide), fun _ => ⟨11, fun R hR => go R ⟨r9, U9, k1, fun z => absurd z e1, fun _ => ⟨r10, U10, k3, fun z => absurd z e4, fun _ => ⟨r11, U11, k5, fun z => absurd z e5, fun _ => hR⟩⟩⟩⟩⟩
theorem s36_no {w : Int} (h : ¬ stW w) {U' : am_U} (hm : EvK N X (Rd_refuseHere_s0 (d + 89) U) (rI 0 U')) : EvK N X (Rd_readStatement_s36 (d + 90) w U) (rI 0 U') := by
  have hf : EvK N X (Rd_isFull_s0 (d + 89) w U) (rI 0 U) := isFull_o (d := d + 88) (Or.inl h)
  unfold stW at h
  exact Rd_readStatement_r36 ⟨0, U, hf, fun _ => ⟨fun z => absurd z (by omega), fun z => absurd z (by omega), fun _ => ⟨0, U', hm, s261_0⟩, fun _ => ⟨0, U', hm, s261_0⟩, fun z => absurd z (by omega), fun z => absurd z (by omega), fun _ => ⟨0, U', hm, s261_0⟩, fun z => absurd z (by omega), fun _ => ⟨0, U', hm, s261_0⟩, fun _ => ⟨0, U', hm, s261_0⟩, fun _ => ⟨0, U', hm, s261_0⟩, fun z => absurd z (by omega), fun z => absurd z (by omega), fun z => absurd z (by omega), fun _ => ⟨0, U', hm, s261_0⟩⟩, fun z => absurd rfl z⟩
theorem s36_full {w : Int} (hf : EvK N X (Rd_isFull_s0 (d + 89) w U) (rI 1 U)) {U' : am_U} (hm : EvK N X (Rd_refuseFor_s0 (d + 89) 6 (U 26 9) U) (rI 0 U')) : EvK N X (Rd_readStatement_s36 (d + 90) w U) (rI 0 U') :=
  Rd_readStatement_r36 ⟨1, U, hf, fun z => absurd z (by decide), fun _ => ⟨0, U', hm, Or.inl rfl, rfl⟩⟩
/-- the reference behind a statement's word -/
theorem stm_R (hk : tkS T L K kk vv bp) (hi : i ≤ K) (hr : rT V T L i) (hx : V 86 12 = -1) {R : Option am_V × am_M} (h : (((kk i = 1 ∧ vv i = 0) → ∃ V' : am_U, EvK N X (M_streeting_s0 (d + 7) V) (rV V') ∧ R = rV V') ∧ ((kk i = 1 ∧ vv i = 1) → ∃ V' : am_U, EvK N X (M_housing_s0 (d + 7) V) (rV V') ∧ R = rV V') ∧ ((kk i = 1 ∧ vv i = 4) → ∃ V' : am_U, EvK N X (M_laning_s0 (d + 7) V) (rV V') ∧ R = rV V') ∧ ((kk i = 1 ∧ vv i = 5) → ∃ V' : am_U, EvK N X (M_numbering_s0 (d + 7) V) (rV V') ∧ R = rV V') ∧ ((kk i = 1 ∧ vv i = 7) → ∃ V' : am_U, EvK N X (M_lawing_s0 (d + 7) V) (rV V') ∧ R = rV V') ∧ ((kk i = 1 ∧ vv i = 11) → ∃ V' : am_U, EvK N X (M_wedding_s0 (d + 7) V) (rV V') ∧ R = rV V') ∧ ((kk i = 1 ∧ vv i = 12) → ∃ V' : am_U, EvK N X (M_owing_s0 (d + 7) V) (rV V') ∧ R = rV V') ∧ ((kk i = 1 ∧ vv i = 13) → ∃ V' : am_U, EvK N X (M_burning_s0 (d + 7) V) (rV V') ∧ R = rV V')) ∧ (¬ (kk i = 1 ∧ stW (vv i)) → ∃ V' : am_U, EvK N X (M_blame_s0 (d + 7) 1 (V 86 4) V) (rV V') ∧ R = rV V')) : EvK N X (M_statement_s0 (d + 8) V) R := by
  obtain ⟨⟨h0, h1, h4, h5, h7, h11, h12, h13⟩, hn⟩ := h
  have ww : ∀ w : Nat, w < 26 → EvK N X (M_isWord_s0 (d + 7) (ow8 w) V) (rI (b2i (kk i = 1 ∧ vv i = (w : Nat))) V) := fun w hw => ct_isWord1 (N := N) (X := X) (d := d + 7) hk hr hi hx w hw
  refine M_statement_r0 ⟨V, ct_lex1 hx, fun _ => ?_, fun z => absurd z (by rw [hr.2.2]; decide)⟩
  exact ⟨_, V, ww 0 (by decide), fun q0 => ⟨_, V, ww 1 (by decide), fun q1 => ⟨_, V, ww 4 (by decide), fun q4 => ⟨_, V, ww 5 (by decide), fun q5 => ⟨_, V, ww 7 (by decide), fun q7 => ⟨_, V, ww 11 (by decide), fun q11 => ⟨_, V, ww 12 (by decide), fun q12 => ⟨_, V, ww 13 (by decide), fun q13 => hn (fun z => by unfold stW at z; have p0 := b2i_eq.mp q0; have p1 := b2i_eq.mp q1; have p4 := b2i_eq.mp q4; have p5 := b2i_eq.mp q5; have p7 := b2i_eq.mp q7; have p11 := b2i_eq.mp q11; have p12 := b2i_eq.mp q12; have p13 := b2i_eq.mp q13; omega), fun q13 => h13 (b2i_ne.mp q13)⟩, fun q12 => h12 (b2i_ne.mp q12)⟩, fun q11 => h11 (b2i_ne.mp q11)⟩, fun q7 => h7 (b2i_ne.mp q7)⟩, fun q5 => h5 (b2i_ne.mp q5)⟩, fun q4 => h4 (b2i_ne.mp q4)⟩, fun q1 => h1 (b2i_ne.mp q1)⟩, fun q0 => h0 (b2i_ne.mp q0)⟩
end STM
