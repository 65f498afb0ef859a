/-! acts: what they leave -/
def scrA (r j : Nat) : Bool := scr r j || decide ((16 ≤ r ∧ r ≤ 20) ∨ r = 45 ∨ r = 48 ∨ r = 52 ∨ r = 56 ∨ (58 ≤ r ∧ r ≤ 77) ∨ r = 85 ∨ (119 ≤ r ∧ r ≤ 124)) || (r == 86 && (j == 57 || j == 58 || j == 59)) || (r == 1 && j == 18)
def mskA (U : am_U) : am_U := fun r j => bif scrA r j then 0 else U r j
def agrA (U U' : am_U) : Prop := ∀ r j, scrA r j = false → U' r j = U r j
theorem agrA_refl (U : am_U) : agrA U U := fun _ _ _ => rfl
theorem agrA_trans {U U1 U2 : am_U} (h1 : agrA U U1) (h2 : agrA U1 U2) : agrA U U2 := fun r j h => by rw [h2 r j h, h1 r j h]
theorem agrA_of {U U' : am_U} (h : agr U U') : agrA U U' := fun r j e => h r j (by unfold scrA at e; cases q : scr r j with | false => rfl | true => rw [q] at e; simp at e)
theorem agrA_msk {U U' : am_U} (h : agrA U U') : mskA U' = mskA U := by
  funext r j
  unfold mskA
  cases e : scrA r j with
  | true => rfl
  | false => exact h r j e
theorem iTown_mskA {U : am_U} {b ns nh nl nw nd cl : Nat} : iTown (mskA U) b ns nh nl nw nd cl ↔ iTown U b ns nh nl nw nd cl := Iff.rfl
theorem iTown_agrA {U U' : am_U} {b ns nh nl nw nd cl : Nat} (h : agrA U U') (hi : iTown U b ns nh nl nw nd cl) : iTown U' b ns nh nl nw nd cl := by
  rw [← iTown_mskA] at hi ⊢
  rw [agrA_msk h]; exact hi
theorem iRid_agrA {U U' : am_U} (h : agrA U U') (hi : iRid U) : iRid U' := by
  have e : iRid (mskA U) ↔ iRid U := Iff.rfl
  have e' : iRid (mskA U') ↔ iRid U' := Iff.rfl
  rw [← e', agrA_msk h, e]; exact hi
theorem agrA_row {U U' : am_U} (h : agrA U U') {r : Nat} (q : ∀ j, scrA r j = false) : U' r = U r := funext fun j => h r j (q j)
/-- refusals and the seed, alike on both sides -/
def iRS (V : am_U) : Prop := (∀ k, k < 6 → V 119 k = V 85 k) ∧ (V 86 59 = V 1 18 ∧ 0 ≤ V 1 18 ∧ V 1 18 < 2147483648)
theorem iMisc_agrA {U U' : am_U} (h : agrA U U') (hi : iMisc U) (hs : iRS U') : iMisc U' := by
  refine ⟨?_, hs.1, hs.2, ?_⟩
  · rw [h 86 10 rfl, h 86 11 rfl, h 1 3 rfl, h 1 4 rfl]; exact hi.1
  · rw [h 86 89 rfl, h 1 16 rfl, agrA_row h (r := 138) (fun _ => rfl), agrA_row h (r := 84) (fun _ => rfl)]; exact hi.2.2.2
/-- the answers kept are forgotten, or stand on what has not changed -/
def iKept (U V : am_U) (n n' : Nat) : Prop := (V 45 5 = 0 ∧ V 48 9 = 0 ∧ V 52 8 = 0) ∨ (n' = n ∧ V 16 0 = U 16 0 ∧ V 17 = U 17 ∧ V 18 = U 18 ∧ V 19 = U 19 ∧ V 20 = U 20 ∧ (∀ j, j ≠ 3 → V 45 j = U 45 j) ∧ V 48 = U 48 ∧ V 52 = U 52)
/-- what an act leaves -/
def actOk (U V : am_U) (nh n n' : Nat) : Prop := agrA U V ∧ iFolk V n' nh ∧ iRS V ∧ (∃ k w g, iHist V nh k w g) ∧ iPrt V ∧ iKept U V n n'
def act2 (N : Nat) (X : Nat → Int) (sD sM : am_U → am_S) (U : am_U) (nh n : Nat) : Prop := ∃ r U1 U2 n', EvK N X (sD U) (rI r U1) ∧ EvK N X (sM U1) (rI r U2) ∧ actOk U U2 nh n n'
theorem hist_kept {U V : am_U} {n nh k w g g' : Nat} (hf : iFolk U n nh) (hh : iHist U nh k w g) (h8 : V 8 = U 8) (hr : ∀ ρ, 58 ≤ ρ → ρ < 78 → ρ ≠ 58 + (w + 1) % 20 → V ρ = U ρ) (hrow : rowIs V (58 + (w + 1) % 20) n (U 16 1) (U 16 2) (U 17) (U 18)) (e1 : V 56 1 = (((w + 1) % 20 : Nat) : Int)) (e2 : V 56 2 = ((min (k + 1) 20 : Nat) : Int)) (hg' : g' < 20) (e3 : V 86 57 = (g' : Nat)) (e4 : V 86 58 = ((min (k + 1) 20 : Nat) : Int)) (q1 : (g' + (min (k + 1) 20 - 1)) % 20 = (g + k) % 20) (q2 : ∀ i, 1 ≤ i → i < min (k + 1) 20 → (g' + (min (k + 1) 20 - 1 - i)) % 20 = (g + (k - 1 - (i - 1))) % 20) (h0 : ∀ j, 2 ≤ j → V 120 j = if j = 2 + (g + k) % 20 then U 120 0 else U 120 j) (h1 : ∀ j, 2 ≤ j → V 121 j = if j = 2 + (g + k) % 20 then U 121 0 else U 121 j) (h2 : ∀ j, 2 ≤ j → V 122 j = if j = 2 + (g + k) % 20 then U 122 0 else U 122 j) (h3 : ∀ j, 32 ≤ j → V 123 j = if 16 * (2 + (g + k) % 20) ≤ j ∧ j < 16 * (2 + (g + k) % 20) + 16 then U 123 (j - 16 * (2 + (g + k) % 20)) else U 123 j) (h4 : ∀ j, 32 ≤ j → V 124 j = if 16 * (2 + (g + k) % 20) ≤ j ∧ j < 16 * (2 + (g + k) % 20) + 16 then U 124 (j - 16 * (2 + (g + k) % 20)) else U 124 j) : iHist V nh (min (k + 1) 20) ((w + 1) % 20) g' := by
  obtain ⟨⟨a1, a2, a3⟩, ⟨a4, a5⟩, ⟨a6, a7⟩, a8⟩ := hh
  have b1 : (w + 1) % 20 < 20 := Nat.mod_lt _ (by decide)
  refine ⟨⟨e2, e4, by omega⟩, ⟨e1, b1⟩, ⟨e3, hg'⟩, fun i hi => ?_⟩
  by_cases c : i = 0
  · subst c
    rw [show 58 + ((w + 1) % 20 + 20 - 0) % 20 = 58 + (w + 1) % 20 from by omega, show 2 + (g' + (min (k + 1) 20 - 1 - 0)) % 20 = 2 + (g + k) % 20 from by rw [Nat.sub_zero, q1]]
    obtain ⟨⟨f1, f2, f3⟩, ⟨f4, f5⟩, ⟨f6, f7⟩, f8, f9, _⟩ := hf
    refine ⟨n, U 16 1, U 16 2, U 17, U 18, f3, f5, f7, by rw [h8]; exact f9, hrow, ?_, ?_, ?_, fun p hp => ?_⟩
    · rw [h2 _ (by omega), if_pos rfl]; exact f2
    · rw [h0 _ (by omega), if_pos rfl]; exact f4
    · rw [h1 _ (by omega), if_pos rfl]; exact f6
    · rw [h3 _ (by omega), h4 _ (by omega), if_pos (by omega), if_pos (by omega), Nat.add_sub_cancel_left]
      exact f8 p hp
  · have z1 : ((w + 1) % 20 + 20 - i) % 20 = (w + 20 - (i - 1)) % 20 := by omega
    have z2 := q2 i (by omega) hi
    have z3 : (w + 20 - (i - 1)) % 20 ≠ (w + 1) % 20 := by omega
    have z4 : (g + (k - 1 - (i - 1))) % 20 ≠ (g + k) % 20 := by omega
    have z5 : (w + 20 - (i - 1)) % 20 < 20 := Nat.mod_lt _ (by decide)
    have z6 : (g + (k - 1 - (i - 1))) % 20 < 20 := Nat.mod_lt _ (by decide)
    rw [z1, z2]
    refine hRow_cg h8 (hr _ (by omega) (by omega) (by omega)) ?_ ?_ ?_ (fun p hp => ⟨?_, ?_⟩) (a8 (i - 1) (by omega))
    · rw [h0 _ (by omega), if_neg (by omega)]
    · rw [h1 _ (by omega), if_neg (by omega)]
    · rw [h2 _ (by omega), if_neg (by omega)]
    · rw [h3 _ (by omega), if_neg (by omega)]
    · rw [h4 _ (by omega), if_neg (by omega)]
/-- a refusal of both sides -/
theorem act_refused {N : Nat} {X : Nat → Int} {sD sM : am_U → am_S} {U : am_U} {n nh k w g c : Nat} {ra : Int} (hf : iFolk U n nh) (hs : iRS U) (hh : iHist U nh k w g) (hp : iPrt U) (hc : c < 6) (hD : EvK N X (sD U) (rI ra (am_upd U 85 c (w32 (U 85 c + 1))))) (hM : EvK N X (sM (am_upd U 85 c (w32 (U 85 c + 1)))) (rI ra (am_upd (am_upd U 85 c (w32 (U 85 c + 1))) 119 c (w32 (U 119 c + 1))))) : act2 N X sD sM U nh n := by
  have r : ∀ r, r ≠ 85 → r ≠ 119 → am_upd (am_upd U 85 c (w32 (U 85 c + 1))) 119 c (w32 (U 119 c + 1)) r = U r := fun r q1 q2 => by rw [upd_row q2, upd_row q1]
  refine ⟨ra, _, _, n, hD, hM, ?_⟩
  generalize hV : am_upd (am_upd U 85 c (w32 (U 85 c + 1))) 119 c (w32 (U 119 c + 1)) = V at r
  have v85 : ∀ j, V 85 j = if j = c then w32 (U 85 c + 1) else U 85 j := fun j => by rw [← hV, upd_row (by decide), upd_if]
  have v119 : ∀ j, V 119 j = if j = c then w32 (U 119 c + 1) else U 119 j := fun j => by rw [← hV, upd_if, upd_row (by decide)]
  clear hV
  refine ⟨fun r' j e => ?_, ?_, ⟨fun j hj => ?_, ?_⟩, ⟨k, w, g, ?_⟩, ?_, Or.inr ⟨rfl, by rw [r 16 (by decide) (by decide)], r 17 (by decide) (by decide), r 18 (by decide) (by decide), r 19 (by decide) (by decide), r 20 (by decide) (by decide), fun j _ => by rw [r 45 (by decide) (by decide)], r 48 (by decide) (by decide), r 52 (by decide) (by decide)⟩⟩
  · by_cases q1 : r' = 85
    · subst q1; simp [scrA] at e
    · by_cases q2 : r' = 119
      · subst q2; simp [scrA] at e
      · rw [r r' q1 q2]
  · unfold iFolk; rw [r 16 (by decide) (by decide), r 122 (by decide) (by decide), r 120 (by decide) (by decide), r 121 (by decide) (by decide), r 123 (by decide) (by decide), r 124 (by decide) (by decide), r 17 (by decide) (by decide), r 18 (by decide) (by decide), r 8 (by decide) (by decide), r 19 (by decide) (by decide)]; exact hf
  · rw [v85, v119, hs.1 c hc, hs.1 j hj]
  · rw [r 86 (by decide) (by decide), r 1 (by decide) (by decide)]; exact hs.2
  · obtain ⟨a1, a2, a3, a4⟩ := hh
    refine ⟨?_, ?_, ?_, fun i hi => ?_⟩
    · rw [r 56 (by decide) (by decide), r 86 (by decide) (by decide)]; exact a1
    · rw [r 56 (by decide) (by decide)]; exact a2
    · rw [r 86 (by decide) (by decide)]; exact a3
    · have b1 : (w + 20 - i) % 20 < 20 := Nat.mod_lt _ (by decide)
      exact hRow_cg (r 8 (by decide) (by decide)) (r _ (by omega) (by omega)) (by rw [r 120 (by decide) (by decide)]) (by rw [r 121 (by decide) (by decide)]) (by rw [r 122 (by decide) (by decide)]) (fun p _ => by rw [r 123 (by decide) (by decide), r 124 (by decide) (by decide)]; exact ⟨rfl, rfl⟩) (a4 i hi)
  · unfold iPrt; rw [r 20 (by decide) (by decide), r 17 (by decide) (by decide)]; exact hp
