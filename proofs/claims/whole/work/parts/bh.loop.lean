/-! all statements: both sides -/
section LOO
variable {N : Nat} {X : Nat → Int} {T : Nat → Int} {L K : Nat} {kk vv : Nat → Int} {bp : Int} {b : Nat}
/-- nothing outside the reader has changed -/
def fCr (U U' : am_U) : Prop := ∀ r, ¬ (21 ≤ r ∧ r ≤ 43) → U' r = U r
theorem rd_all (hk : tkS T L K kk vv bp) : ∀ m i : Nat, i + m = K → ∀ (s : Nat) (W : am_U) (ns nh nl nw nd cl n : Nat), s ≤ 80 → ¬ (s = 80 ∧ kk i ≠ 0) → gIn W b ns nh nl nw nd cl n → cl ≤ i → ∃ q : Option (Nat × am_U) × Int × Int, (q.1 = none → 1 ≤ q.2.1) ∧ (∀ s' W', q.1 = some (s', W') → s' ≤ 80 ∧ ∃ ns nh nl nw nd cl n, gIn W' b ns nh nl nw nd cl n ∧ cl ≤ K) ∧ (∀ (d : Nat) (x2 : Int) (U : am_U), cS U T L K kk vv bp i → cW U W → U 26 3 = (s : Nat) → ∃ U' r, EvK N X (Rd_read_s49 (d + 91) x2 (s : Nat) U) (rI r U') ∧ fCr U U' ∧ (∀ s' W', q.1 = some (s', W') → r = 1 ∧ cW U' W' ∧ U' 26 3 = (s' : Nat) ∧ U' 26 4 = 0 ∧ U' 26 5 = -1) ∧ (q.1 = none → r = 0 ∧ U' 26 4 = q.2.1 ∧ U' 26 5 = q.2.2)) ∧ (∀ (d : Nat) (V : am_U), rT V T L i → rW V W b → ∃ (V' : am_U) (n' : Nat), fY b V V' ∧ (∀ R, EvK N X (M_town_s129 (d + 9) (n' : Nat) V') R → EvK N X (M_town_s129 (d + 9) (s : Nat) V) R) ∧ (∀ s' W', q.1 = some (s', W') → n' = s' ∧ V' 86 8 = 0 ∧ V' 86 3 = 0 ∧ V' 86 9 = -1 ∧ rW V' W' b) ∧ (q.1 = none → V' 86 8 = q.2.1 ∧ V' 86 9 = q.2.2)) := by
  intro m
  induction m using Nat.strongRecOn with
  | _ m ih =>
  intro i him s W ns nh nl nw nd cl n hs hns hG hcl
  by_cases k0 : kk i = 0
  · -- the end
    refine ⟨(some (s, W), 0, 0), (fun e => by cases e), fun s' W' e => ?_, fun d x2 U hc hU h3 => ?_, fun d V hV1 hV2 => ?_⟩
    · obtain ⟨rfl, rfl⟩ : s = s' ∧ W = W' := by simpa using e
      exact ⟨hs, ns, nh, nl, nw, nd, cl, n, hG, by omega⟩
    · refine ⟨U, 1, Rd_read_r49 ⟨fun _ => rfl, fun _ => ⟨fun _ => rfl, fun z => absurd (by rw [hc.2.2.2.2.2.1]; exact k0) z⟩⟩, fun _ _ => rfl, fun s' W' e => ?_, (fun e => by cases e)⟩
      obtain ⟨rfl, rfl⟩ : s = s' ∧ W = W' := by simpa using e
      exact ⟨rfl, hU, h3, hc.2.2.1.2.2.1, hc.2.2.1.2.2.2⟩
    · refine ⟨V, s, fY_refl b V, fun R hR => hR, fun s' W' e => ?_, (fun e => by cases e)⟩
      obtain ⟨rfl, rfl⟩ : s = s' ∧ W = W' := by simpa using e
      exact ⟨rfl, hV1.2.2, (rT_end hk hV1 (by omega)).mpr k0, hV1.1.1.2, hV2⟩
  · have s80 : s < 80 := by omega
    obtain ⟨q, q1, q2, q3, q4⟩ := st_whole (N := N) (X := X) (i := i) (s := s) hk (by omega) k0 s80 hG hcl
    -- one turn of the class
    have turn : ∀ (d : Nat) (x2 : Int) (U : am_U), cS U T L K kk vv bp i → cW U W → U 26 3 = (s : Nat) → ∃ (U1 : am_U) (r : Int), fCz U U1 ∧ (∀ i' W', q.1 = some (i', W') → cS (am_upd U1 26 3 ((s + 1 : Nat) : Int)) T L K kk vv bp i' ∧ cW (am_upd U1 26 3 ((s + 1 : Nat) : Int)) W' ∧ ∀ R, EvK N X (Rd_read_s49 (d + 91) x2 ((s + 1 : Nat) : Int) (am_upd U1 26 3 ((s + 1 : Nat) : Int))) R → EvK N X (Rd_read_s49 (d + 91) x2 (s : Nat) U) R) ∧ (q.1 = none → U1 26 4 = q.2.1 ∧ U1 26 5 = q.2.2 ∧ r = 0 ∧ EvK N X (Rd_read_s49 (d + 91) x2 (s : Nat) U) (rI 0 U1)) := fun d x2 U hc hU h3 => by
      obtain ⟨U1, r, k1, k2, k3, k4⟩ := q3 d U hc hU h3
      have e7 : U 26 7 ≠ 0 := by rw [hc.2.2.2.2.2.1]; exact k0
      have e3 : U1 26 3 = (s : Nat) := by rw [k2.2]; exact h3
      refine ⟨U1, r, k2, fun i' W' e => ?_, fun e => ?_⟩
      · obtain ⟨x1, x2', x3⟩ := k3 i' W' e
        refine ⟨cS_26 x2' (by omega), cW_26 x3, fun R hR => Rd_read_r49 ⟨fun z => absurd z (by omega), fun _ => ⟨fun z => absurd z e7, fun _ => ⟨r, U1, k1, fun _ => ?_, fun z => absurd z (by rw [x1]; decide)⟩⟩⟩⟩
        rw [e3, w32_succ (i := s) (by omega)]; exact hR
      · obtain ⟨x1, x2', x3⟩ := k4 e
        exact ⟨x2', x3, x1, Rd_read_r49 ⟨fun z => absurd z (by omega), fun _ => ⟨fun z => absurd z e7, fun _ => ⟨r, U1, k1, fun z => absurd x1 z, fun _ => rfl⟩⟩⟩⟩
    -- one turn of the reference
    have turnR : ∀ (d : Nat) (V : am_U), rT V T L i → rW V W b → ∃ V2, fY b V V2 ∧ (∀ i' W', q.1 = some (i', W') → (¬ (s + 1 = 80 ∧ kk i' ≠ 0) → rT V2 T L i' ∧ rW V2 W' b) ∧ ((s + 1 = 80 ∧ kk i' ≠ 0) → V2 86 8 = 6 ∧ V2 86 9 = (plS1 T L i' : Nat))) ∧ (q.1 = none → V2 86 8 = q.2.1 ∧ V2 86 9 = q.2.2) ∧ ∀ R, EvK N X (M_town_s129 (d + 9) ((s + 1 : Nat) : Int) V2) R → EvK N X (M_town_s129 (d + 9) (s : Nat) V) R := fun d V hV1 hV2 => by
      obtain ⟨V1, V2, k1, k2, k3, k4, k5⟩ := q4 d V hV1 hV2
      refine ⟨V2, k3, k4, k5, fun R hR => M_town_r129 ⟨fun z => absurd hV1.2.2 z, fun _ => ⟨fun z => absurd ((rT_end hk hV1 (by omega)).mp z) k0, fun _ => ⟨V1, k1, V2, ?_, ?_⟩⟩⟩⟩
      · rw [w32_succ (i := s) (by omega)]; exact k2
      · rw [w32_succ (i := s) (by omega)]; exact hR
    cases hq : q.1 with
    | none =>
      have p := q1 hq
      refine ⟨(none, q.2.1, q.2.2), fun _ => p, (fun s' W' e => by cases e), fun d x2 U hc hU h3 => ?_, fun d V hV1 hV2 => ?_⟩
      · obtain ⟨U1, r, k1, k2, k3⟩ := turn d x2 U hc hU h3
        obtain ⟨x1, x2', x3, x4⟩ := k3 hq
        exact ⟨U1, 0, x4, k1.1, (fun s' W' e => by cases e), fun _ => ⟨rfl, x1, x2'⟩⟩
      · obtain ⟨V2, k1, k2, k3, k4⟩ := turnR d V hV1 hV2
        exact ⟨V2, s + 1, k1, k4, (fun s' W' e => by cases e), fun _ => k3 hq⟩
    | some p =>
      obtain ⟨i', W'⟩ := p
      obtain ⟨a1, a2, ns', nh', nl', nw', nd', cl', n', a3, a4⟩ := q2 i' W' hq
      by_cases c : s + 1 = 80 ∧ kk i' ≠ 0
      · refine ⟨(none, 6, ((plS1 T L i' : Nat) : Int)), (fun _ => by show (1 : Int) ≤ 6; decide), (fun s' W' e => by cases e), fun d x2 U hc hU h3 => ?_, fun d V hV1 hV2 => ?_⟩
        · obtain ⟨U1, r, k1, k2, k3⟩ := turn d x2 U hc hU h3
          obtain ⟨x1, x2', x3⟩ := k2 i' W' hq
          obtain ⟨U2, g1, g2, g3, g4⟩ := ct_refuseFor (N := N) (X := X) (d := d + 89) (U := am_upd U1 26 3 ((s + 1 : Nat) : Int)) 6 ((plS1 T L i' : Nat) : Int)
          have e9 : (am_upd U1 26 3 ((s + 1 : Nat) : Int)) 26 9 = (plS1 T L i' : Nat) := x1.2.2.2.2.2.2.2
          have e7 : (am_upd U1 26 3 ((s + 1 : Nat) : Int)) 26 7 ≠ 0 := by rw [x1.2.2.2.2.2.1]; exact c.2
          refine ⟨U2, 0, x3 _ (Rd_read_r49 ⟨fun z => absurd z (by omega), fun _ => ⟨fun z => absurd z e7, fun _ => ⟨0, U2, Rd_readStatement_r0 ⟨fun z => absurd z (by rw [upd_at]; omega), fun _ => ⟨0, U2, by rw [e9]; exact g1, Or.inl rfl, rfl⟩⟩, fun z => absurd rfl z, fun _ => rfl⟩⟩⟩), fun r hr => ?_, (fun s' W' e => by cases e), fun _ => ⟨rfl, g3, g4⟩⟩
          rw [(fCz_N g2).1 r hr, upd_row (by omega)]; exact k1.1 r hr
        · obtain ⟨V2, k1, k2, k3, k4⟩ := turnR d V hV1 hV2
          exact ⟨V2, s + 1, k1, k4, (fun s' W' e => by cases e), fun _ => (k2 i' W' hq).2 c⟩
      · obtain ⟨z, z1, z2, z3, z4⟩ := ih (K - i') (by omega) i' (by omega) (s + 1) W' ns' nh' nl' nw' nd' cl' n' (by omega) c a3 a4
        refine ⟨z, z1, z2, fun d x2 U hc hU h3 => ?_, fun d V hV1 hV2 => ?_⟩
        · obtain ⟨U1, r, k1, k2, k3⟩ := turn d x2 U hc hU h3
          obtain ⟨x1, x2', x3⟩ := k2 i' W' hq
          obtain ⟨U2, r2, y1, y2, y3⟩ := z3 d x2 _ x1 x2' (upd_at _ _ _ _)
          refine ⟨U2, r2, x3 _ y1, fun r hr => ?_, y3⟩
          rw [y2 r hr, upd_row (by omega)]; exact k1.1 r hr
        · obtain ⟨V2, k1, k2, k3, k4⟩ := turnR d V hV1 hV2
          obtain ⟨g1, g2⟩ := (k2 i' W' hq).1 c
          obtain ⟨V3, n3, y1, y2, y3⟩ := z4 d V2 g1 g2
          exact ⟨V3, n3, fY_trans k1 y1, fun R hR => k4 R (y2 R hR), y3⟩
end LOO
