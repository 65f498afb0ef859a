/-! the reference: a test asked -/
def srt (c : Int) : Int :=
  if 0 ≤ c then 0 else if c = -15 then 1 else if c = -16 then 2 else if c = -4 then 3 else if c = -17 then 4 else if c = -2 then 5 else if c = -1 then 6
  else if c = -23 then 9 else if c = -143 then 10 else if c = -145 then 11 else if c = -142 then 12 else if c = -147 then 13 else if c = -137 then 14
  else if c = -24 then 15 else if c = -25 then 16 else if c = -160 then 17 else if c = -162 then 18 else if c = -161 then 19
  else if c = -21 then 20 else if c = -20 then 21 else if c = -22 then 22 else if c = -26 then 23 else if c = -18 then 24 else 25
/-- what one who is asked is, as the reference tells it -/
def envM (U : am_U) (b v n me : Nat) (ot : Int) (c : Int) : Int :=
  if c = -15 then U 123 (16 * v + me) else if c = -16 then ot
  else if U 124 (16 * v + me) ≠ -1 then (if c = -4 then U 93 (12 * b + (U 124 (16 * v + me)).toNat) else if c = -17 then ((fb_ct (fun p => U 124 (16 * v + p) == U 124 (16 * v + me)) n : Nat) : Int) else if c = -1 then U 92 (12 * b + (U 124 (16 * v + me)).toNat) else U 124 (16 * v + me))
  else (if c = -4 then 0 else if c = -17 then 0 else -1)
theorem ct_M_part {N : Nat} {X : Nat → Int} {d : Nat} {U : am_U} {b v n me : Nat} {ot c va : Int} (hb : U 86 13 = (b : Nat)) (hb2 : b < 2) (h61 : U 86 61 = (v : Nat)) (h62 : U 86 62 = (me : Nat)) (h63 : U 86 63 = ot) (hv : v < 22) (hm : me < 16) (hn : U 122 v = (n : Nat)) (hn2 : n ≤ 16) (hh : -1 ≤ U 124 (16 * v + me) ∧ U 124 (16 * v + me) < 12) (hc : isAsk c) : EvK N X (M_part_s0 (d + 2) (srt c) va U) (rJ (envM U b v n me ot c) U) := by
  refine M_part_r0 ?_
  rw [h61, h62]
  refine ⟨_, _, ct_M_homeOf v me hv hm, ?_⟩
  rw [h61, h62, h63]
  have q : U 124 (16 * v + me) ≠ -1 → ∃ g : Nat, U 124 (16 * v + me) = g ∧ g < 12 := fun q => ⟨(U 124 (16 * v + me)).toNat, by omega, by omega⟩
  rcases hc with rfl | rfl | rfl | rfl | rfl | rfl
  · refine ⟨fun h => by simp [srt] at h, fun h => by simp [srt] at h, fun h => by simp [srt] at h, fun h => by simp [srt] at h, fun h => by simp [srt] at h, fun h => by simp [srt] at h, fun _ => ⟨fun h => ?_, fun h => ?_⟩, fun h => by simp [srt] at h⟩
    · obtain ⟨g, e, e2⟩ := q h
      refine ⟨_, _, by rw [e]; exact ct_M_streetOf g hb hb2 e2, ?_⟩
      simp [envM, e]
    · simp [envM, h]
  · refine ⟨fun h => by simp [srt] at h, fun h => by simp [srt] at h, fun h => by simp [srt] at h, fun h => by simp [srt] at h, fun h => by simp [srt] at h, fun _ => ?_, fun h => by simp [srt] at h, fun h => by simp [srt] at h⟩
    simp [envM]
    split
    · rename_i h; rw [h]
    · rfl
  · refine ⟨fun h => by simp [srt] at h, fun h => by simp [srt] at h, fun h => by simp [srt] at h, fun _ => ⟨fun h => ?_, fun h => ?_⟩, fun h => by simp [srt] at h, fun h => by simp [srt] at h, fun h => by simp [srt] at h, fun h => by simp [srt] at h⟩
    · obtain ⟨g, e, e2⟩ := q h
      refine ⟨_, _, by rw [e]; exact ct_M_roomsOf g hb hb2 e2, ?_⟩
      simp [envM, e]
    · simp [envM, h]
  · refine ⟨fun h => by simp [srt] at h, fun _ => ⟨_, _, ct_M_numberOf v me hv hm, ?_⟩, fun h => by simp [srt] at h, fun h => by simp [srt] at h, fun h => by simp [srt] at h, fun h => by simp [srt] at h, fun h => by simp [srt] at h, fun h => by simp [srt] at h⟩
    simp [envM]
  · refine ⟨fun h => by simp [srt] at h, fun h => by simp [srt] at h, fun _ => ?_, fun h => by simp [srt] at h, fun h => by simp [srt] at h, fun h => by simp [srt] at h, fun h => by simp [srt] at h, fun h => by simp [srt] at h⟩
    simp [envM]
  · refine ⟨fun h => by simp [srt] at h, fun h => by simp [srt] at h, fun h => by simp [srt] at h, fun h => by simp [srt] at h, fun _ => ⟨fun h => ?_, fun h => ?_⟩, fun h => by simp [srt] at h, fun h => by simp [srt] at h, fun h => by simp [srt] at h⟩
    · refine ⟨_, _, ct_M_living v _ hv hn hn2, ?_⟩
      simp [envM, h]
    · simp [envM, h]
theorem ct_M_part0 {N : Nat} {X : Nat → Int} {d : Nat} {U : am_U} {v me : Nat} {va : Int} (h61 : U 86 61 = (v : Nat)) (h62 : U 86 62 = (me : Nat)) (hv : v < 22) (hm : me < 16) : EvK N X (M_part_s0 (d + 1) 0 va U) (rJ va U) := by
  refine M_part_r0 ?_
  rw [h61, h62]
  exact ⟨_, _, ct_M_homeOf v me hv hm, fun _ => rfl, fun h => by simp at h, fun h => by simp at h, fun h => by simp at h, fun h => by simp at h, fun h => by simp at h, fun h => by simp at h, fun h => by simp at h⟩
theorem ct_M_part9 {N : Nat} {X : Nat → Int} {d : Nat} {U : am_U} {v me : Nat} {va : Int} (h61 : U 86 61 = (v : Nat)) (h62 : U 86 62 = (me : Nat)) (hv : v < 22) (hm : me < 16) : EvK N X (M_part_s0 (d + 1) 9 va U) (rJ 1 U) := by
  refine M_part_r0 ?_
  rw [h61, h62]
  exact ⟨_, _, ct_M_homeOf v me hv hm, fun h => by simp at h, fun h => by simp at h, fun h => by simp at h, fun h => by simp at h, fun h => by simp at h, fun h => by simp at h, fun h => by simp at h, fun _ => rfl⟩
theorem ct_M_held {N : Nat} {X : Nat → Int} {d : Nat} {U : am_U} (x : Int) : EvK N X (M_held_s0 d x U) (rJ (clp x) U) := by
  refine M_held_r0 ⟨fun h => ⟨fun h2 => ?_, fun h2 => ?_⟩, fun h => ?_⟩
  · rw [show clp x = x from by unfold clp; rw [if_neg (by omega), if_neg (by omega)]]
  · rw [show clp x = -1000000000 from by unfold clp; rw [if_neg (by omega), if_pos (by omega)]]
  · rw [show clp x = 1000000000 from by unfold clp; rw [if_pos (by omega)]]
theorem ct_M_floor {N : Nat} {X : Nat → Int} {d : Nat} {U : am_U} {a b : Int} (ha : vOk false a) (h0 : b ≠ 0) : EvK N X (M_floor_s0 d a b U) (rJ (Int.fdiv a b) U) := by
  have ha' : -1000000000 ≤ a ∧ a ≤ 1000000000 := ha
  have hq : (Int.tdiv a b).natAbs ≤ a.natAbs := by
    rw [Int.natAbs_tdiv]; exact Nat.div_le_self _ _
  have e := @Int.fdiv_eq_tdiv a b
  refine M_floor_r0 ⟨fun _ => ⟨h0, h0, fun h => ?_, fun h => ⟨fun p => ⟨fun p2 => ?_, fun p2 => ?_⟩, fun p => ⟨fun p2 => ?_, fun p2 => ?_⟩⟩⟩, fun h => absurd h h0⟩
  · rw [if_pos (Int.dvd_of_tmod_eq_zero h)] at e
    rw [e, w64_eq (by omega) (by omega)]; simp
  · rw [if_neg (fun q => h (Int.tmod_eq_zero_of_dvd q)), if_pos p, if_pos p2] at e
    rw [e, w64_eq (by omega) (by omega)]; simp
  · rw [if_neg (fun q => h (Int.tmod_eq_zero_of_dvd q)), if_pos p, if_neg (by omega)] at e
    rw [e, w64_eq (x := Int.tdiv a b) (by omega) (by omega), w64_eq (by omega) (by omega)]
  · rw [if_neg (fun q => h (Int.tmod_eq_zero_of_dvd q)), if_neg (by omega), if_pos p2] at e
    rw [Int.sign_eq_one_of_pos (by omega)] at e
    rw [e, w64_eq (x := Int.tdiv a b) (by omega) (by omega), w64_eq (by omega) (by omega)]
  · rw [if_neg (fun q => h (Int.tmod_eq_zero_of_dvd q)), if_neg (by omega), if_neg (by omega)] at e
    rw [Int.sign_eq_neg_one_of_neg (by omega)] at e
    rw [e, w64_eq (by omega) (by omega)]; simp
def isTwo (c : Int) (t1 : Bool) : Prop := (t1 = true ∧ (c = -20 ∨ c = -21)) ∨ (t1 = false ∧ (c = -24 ∨ c = -25 ∨ c = -26 ∨ isBin c))
set_option maxHeartbeats 2000000 in
theorem ct_M_two {N : Nat} {X : Nat → Int} {d : Nat} {U : am_U} {c a b : Int} {t1 : Bool} (hc : isTwo c t1) (ha : vOk t1 a) (hb : vOk t1 b) : EvK N X (M_two_s0 (d + 2) (srt c) a b U) (rJ (op2 c a b) U) := by
  rcases hc with ⟨rfl, hc⟩ | ⟨rfl, hc⟩
  · have ha' : a = 0 ∨ a = 1 := ha
    have hb' : b = 0 ∨ b = 1 := hb
    rcases hc with rfl | rfl
    · refine M_two_r0 ?_
      refine ⟨fun h => by simp [srt] at h, fun h => by simp [srt] at h, fun h => by simp [srt] at h, fun h => by simp [srt] at h, fun h => by simp [srt] at h, fun h => by simp [srt] at h, fun h => by simp [srt] at h, fun h => by simp [srt] at h, fun h => by simp [srt] at h, fun h => by simp [srt] at h, fun h => by simp [srt] at h, fun _ => ?_, fun h => by simp [srt] at h, fun h => by simp [srt] at h, fun h => by simp [srt] at h⟩
      rcases ha' with rfl | rfl <;> rcases hb' with rfl | rfl <;> simp [op2] <;> rfl
    · refine M_two_r0 ?_
      refine ⟨fun h => by simp [srt] at h, fun h => by simp [srt] at h, fun h => by simp [srt] at h, fun h => by simp [srt] at h, fun h => by simp [srt] at h, fun h => by simp [srt] at h, fun h => by simp [srt] at h, fun h => by simp [srt] at h, fun h => by simp [srt] at h, fun h => by simp [srt] at h, fun _ => ?_, fun h => by simp [srt] at h, fun h => by simp [srt] at h, fun h => by simp [srt] at h, fun h => by simp [srt] at h⟩
      rcases ha' with rfl | rfl <;> rcases hb' with rfl | rfl <;> simp [op2] <;> rfl
  · have ha' : -1000000000 ≤ a ∧ a ≤ 1000000000 := ha
    have hb' : -1000000000 ≤ b ∧ b ≤ 1000000000 := hb
    have hm := mul_v ha hb
    have hf := fdiv_v (b := b) ha
    rcases hc with rfl | rfl | rfl | rfl | rfl | rfl | rfl | rfl | rfl | rfl | rfl
    all_goals refine M_two_r0 ?_
    · refine ⟨fun h => by simp [srt] at h, fun h => by simp [srt] at h, fun h => by simp [srt] at h, fun h => by simp [srt] at h, fun h => by simp [srt] at h, fun _ => ⟨fun h => ?_, fun h => ?_⟩, fun h => by simp [srt] at h, fun h => by simp [srt] at h, fun h => by simp [srt] at h, fun h => by simp [srt] at h, fun h => by simp [srt] at h, fun h => by simp [srt] at h, fun h => by simp [srt] at h, fun h => by simp [srt] at h, fun h => by simp [srt] at h⟩
      · rw [show op2 (-24) a b = b from by simp [op2]; omega]
      · rw [show op2 (-24) a b = a from by simp [op2]; omega]
    · refine ⟨fun h => by simp [srt] at h, fun h => by simp [srt] at h, fun h => by simp [srt] at h, fun h => by simp [srt] at h, fun h => by simp [srt] at h, fun h => by simp [srt] at h, fun _ => ⟨fun h => ?_, fun h => ?_⟩, fun h => by simp [srt] at h, fun h => by simp [srt] at h, fun h => by simp [srt] at h, fun h => by simp [srt] at h, fun h => by simp [srt] at h, fun h => by simp [srt] at h, fun h => by simp [srt] at h, fun h => by simp [srt] at h⟩
      · rw [show op2 (-25) a b = b from by simp [op2]; omega]
      · rw [show op2 (-25) a b = a from by simp [op2]; omega]
    · refine ⟨fun h => by simp [srt] at h, fun h => by simp [srt] at h, fun h => by simp [srt] at h, fun h => by simp [srt] at h, fun h => by simp [srt] at h, fun h => by simp [srt] at h, fun h => by simp [srt] at h, fun h => by simp [srt] at h, fun h => by simp [srt] at h, fun h => by simp [srt] at h, fun h => by simp [srt] at h, fun h => by simp [srt] at h, fun h => by simp [srt] at h, fun _ => ?_, fun h => by simp [srt] at h⟩
      exact ⟨_, _, ct_M_gcd a b (by omega) (by omega), by simp [op2]⟩
    · refine ⟨fun _ => ?_, fun h => by simp [srt] at h, fun h => by simp [srt] at h, fun h => by simp [srt] at h, fun h => by simp [srt] at h, fun h => by simp [srt] at h, fun h => by simp [srt] at h, fun h => by simp [srt] at h, fun h => by simp [srt] at h, fun h => by simp [srt] at h, fun h => by simp [srt] at h, fun h => by simp [srt] at h, fun h => by simp [srt] at h, fun h => by simp [srt] at h, fun h => by simp [srt] at h⟩
      exact ⟨_, _, ct_M_held _, by rw [w64_eq (by omega) (by omega)]; simp [op2, cmb]⟩
    · refine ⟨fun h => by simp [srt] at h, fun _ => ?_, fun h => by simp [srt] at h, fun h => by simp [srt] at h, fun h => by simp [srt] at h, fun h => by simp [srt] at h, fun h => by simp [srt] at h, fun h => by simp [srt] at h, fun h => by simp [srt] at h, fun h => by simp [srt] at h, fun h => by simp [srt] at h, fun h => by simp [srt] at h, fun h => by simp [srt] at h, fun h => by simp [srt] at h, fun h => by simp [srt] at h⟩
      exact ⟨_, _, ct_M_held _, by rw [w64_eq (by omega) (by omega)]; simp [op2, cmb]⟩
    · refine ⟨fun h => by simp [srt] at h, fun h => by simp [srt] at h, fun _ => ?_, fun h => by simp [srt] at h, fun h => by simp [srt] at h, fun h => by simp [srt] at h, fun h => by simp [srt] at h, fun h => by simp [srt] at h, fun h => by simp [srt] at h, fun h => by simp [srt] at h, fun h => by simp [srt] at h, fun h => by simp [srt] at h, fun h => by simp [srt] at h, fun h => by simp [srt] at h, fun h => by simp [srt] at h⟩
      exact ⟨_, _, ct_M_held _, by rw [w64_eq (by omega) (by omega)]; simp [op2, cmb]⟩
    · refine ⟨fun h => by simp [srt] at h, fun h => by simp [srt] at h, fun h => by simp [srt] at h, fun _ => ?_, fun h => by simp [srt] at h, fun h => by simp [srt] at h, fun h => by simp [srt] at h, fun h => by simp [srt] at h, fun h => by simp [srt] at h, fun h => by simp [srt] at h, fun h => by simp [srt] at h, fun h => by simp [srt] at h, fun h => by simp [srt] at h, fun h => by simp [srt] at h, fun h => by simp [srt] at h⟩
      by_cases h0 : b = 0
      · subst h0
        exact ⟨_, _, M_floor_r0 ⟨fun h => absurd rfl h, fun _ => rfl⟩, _, _, ct_M_held _, by simp [op2, cmb, clp]⟩
      · exact ⟨_, _, ct_M_floor ha h0, _, _, ct_M_held _, by simp [op2, cmb, h0]⟩
    · refine ⟨fun h => by simp [srt] at h, fun h => by simp [srt] at h, fun h => by simp [srt] at h, fun h => by simp [srt] at h, fun _ => ?_, fun h => by simp [srt] at h, fun h => by simp [srt] at h, fun h => by simp [srt] at h, fun h => by simp [srt] at h, fun h => by simp [srt] at h, fun h => by simp [srt] at h, fun h => by simp [srt] at h, fun h => by simp [srt] at h, fun h => by simp [srt] at h, fun h => by simp [srt] at h⟩
      refine ⟨fun h0 => ⟨_, _, ct_M_floor ha h0, _, _, ct_M_held _, ?_⟩, fun h0 => ?_⟩
      · have e := Int.fmod_def a b
        have q : -1000000000000000000 ≤ b * Int.fdiv a b ∧ b * Int.fdiv a b ≤ 1000000000000000000 := mul_v hb hf
        rw [w64_eq (x := b * Int.fdiv a b) (by omega) (by omega), w64_eq (by omega) (by omega), ← e]
        simp [op2, cmb, h0]
      · simp [op2, cmb, h0]
    all_goals (repeat' (first | apply And.intro | intro _)) <;> first | (exfalso; simp [srt] at *; done) | (simp [op2, cmb]; first | (rw [b2i_t (by omega)]; done) | (rw [b2i_f (by omega)]; done))
/-- the reference's stack -/
def mst (U : am_U) (s : List Int) : Prop := ∀ i v, s[i]? = some v → U 125 (s.length - 1 - i) = v
theorem mst_push {U : am_U} {s : List Int} (x : Int) (hs : mst U s) : mst (am_upd U 125 s.length x) (x :: s) := by
  intro i v hv
  rw [upd_if]
  cases i with
  | zero =>
    simp only [List.getElem?_cons_zero, Option.some.injEq] at hv
    simp [hv]
  | succ i =>
    simp only [List.getElem?_cons_succ] at hv
    have hi := (List.getElem?_eq_some_iff.mp hv).1
    simp only [List.length_cons]
    rw [if_neg (by omega), show s.length + 1 - 1 - (i + 1) = s.length - 1 - i from by omega]
    exact hs i v hv
theorem mst_top {U : am_U} {s : List Int} {x : Int} (hs : mst U (x :: s)) : U 125 s.length = x := by
  have := hs 0 x (by simp)
  simpa using this
theorem mst_tail {U : am_U} {s : List Int} {x : Int} (hs : mst U (x :: s)) : mst U s := by
  intro i v hv
  have hi := (List.getElem?_eq_some_iff.mp hv).1
  have := hs (i + 1) v (by simpa using hv)
  rw [List.length_cons, show s.length + 1 - 1 - (i + 1) = s.length - 1 - i from by omega] at this
  exact this
/-- what the reference needs to know of who is asked -/
def mAsk (U : am_U) (b v n me : Nat) (ot : Int) : Prop := U 86 13 = (b : Nat) ∧ b < 2 ∧ U 86 61 = (v : Nat) ∧ U 86 62 = (me : Nat) ∧ U 86 63 = ot ∧ v < 22 ∧ me < 16 ∧ U 122 v = (n : Nat) ∧ n ≤ 16 ∧ (-1 ≤ U 124 (16 * v + me) ∧ U 124 (16 * v + me) < 12)
theorem srt_two {c : Int} (h1 : (c = -20 ∨ c = -21) ∨ (c = -24 ∨ c = -25 ∨ c = -26 ∨ c = -143 ∨ c = -145 ∨ c = -142 ∨ c = -147 ∨ c = -137) ∨ (c = -160 ∨ c = -161 ∨ c = -162)) : 9 < srt c ∧ srt c ≠ 22 ∧ srt c ≠ 24 ∧ srt c ≠ 25 := by
  rcases h1 with (rfl | rfl) | (rfl | rfl | rfl | rfl | rfl | rfl | rfl | rfl) | (rfl | rfl | rfl) <;> simp [srt]
theorem stp_two {e : Int → Int} {c x y : Int} {s : List Int} (h1 : (c = -20 ∨ c = -21) ∨ (c = -24 ∨ c = -25 ∨ c = -26 ∨ c = -143 ∨ c = -145 ∨ c = -142 ∨ c = -147 ∨ c = -137) ∨ (c = -160 ∨ c = -161 ∨ c = -162)) : stp e c (x :: y :: s) = op2 c y x :: s := by
  unfold stp
  rw [if_neg (by omega), if_neg (by omega), if_neg (by omega)]
  simp only
  rw [if_neg (by omega)]
section MANS
variable {N : Nat} {X : Nat → Int} {d : Nat} {U : am_U} {x1 ot : Int} {b v n me i to : Nat} {c : Int} {s : List Int}
def mNext (N : Nat) (X : Nat → Int) (d : Nat) (x1 : Int) (b i to : Nat) (U : am_U) (s s' : List Int) : Prop := ∃ U', mst U' s' ∧ (∀ r, r ≠ 125 → U' r = U r) ∧ ∀ R, EvK N X (M_answers_s14 (d + 3) x1 (to : Nat) (s'.length : Nat) ((1600 * b + i + 1 : Nat) : Int) U') R → EvK N X (M_answers_s14 (d + 3) x1 (to : Nat) (s.length : Nat) ((1600 * b + i : Nat) : Int) U) R
theorem an_b (hb2 : b < 2) (hi : i < to) (hi2 : to ≤ 1600) : (0 ≤ ((1600 * b + i : Nat) : Int) ∧ ((1600 * b + i : Nat) : Int) < 3200) ∧ ¬ ((1600 * b + to : Nat) : Int) ≤ ((1600 * b + i : Nat) : Int) ∧ ((1600 * b + i : Nat) : Int) < ((1600 * b + to : Nat) : Int) := by omega
theorem an_to (hb : U 86 13 = (b : Nat)) (hb2 : b < 2) (hi2 : to ≤ 1600) : w32 (w32 (1600 * U 86 13) + (to : Nat)) = ((1600 * b + to : Nat) : Int) := by
  rw [hb]; exact ix_eq (by omega) (by omega) (by omega) (by omega)
theorem an_es (hb2 : b < 2) (hi : i < to) (hi2 : to ≤ 1600) : w32 (((1600 * b + i : Nat) : Int) + 1) = ((1600 * b + i + 1 : Nat) : Int) := w32_succ (by omega)
theorem an_push (hb : U 86 13 = (b : Nat)) (hb2 : b < 2) (hi : i < to) (hi2 : to ≤ 1600) (hs : mst U s) (hl : s.length ≤ 60) (hc : U 111 (1600 * b + i) = srt c) (z : Int) (hz : srt c ≤ 9) (hp : EvK N X (M_part_s0 (d + 2) (srt c) (U 112 (1600 * b + i)) U) (rJ z U)) : mNext N X d x1 b i to U s (z :: s) := by
  obtain ⟨q1, q2, q3⟩ := an_b hb2 hi hi2
  refine ⟨am_upd U 125 s.length z, mst_push z hs, fun r hr => upd_row hr, fun R hR => M_answers_r14 ⟨fun h => ?_, fun _ => ⟨q1, fun h => ?_, fun h => ?_⟩⟩⟩
  · rw [an_to hb hb2 hi2] at h; exact absurd h q2
  · rw [Int.toNat_natCast, hc] at h; omega
  · rw [Int.toNat_natCast, hc]
    refine ⟨_, _, hp, by omega, ?_⟩
    rw [Int.toNat_natCast, w32_succ (by omega), an_es hb2 hi hi2]
    exact hR
theorem an_not {x : Int} (hb : U 86 13 = (b : Nat)) (hb2 : b < 2) (hi : i < to) (hi2 : to ≤ 1600) (hs : mst U (x :: s)) (hl : s.length ≤ 60) (hc : U 111 (1600 * b + i) = srt (-22)) (hx : x = 0 ∨ x = 1) : mNext N X d x1 b i to U (x :: s) ((1 - x) :: s) := by
  obtain ⟨q1, q2, q3⟩ := an_b hb2 hi hi2
  have e1 : w32 (((x :: s).length : Nat) - 1 : Int) = (s.length : Nat) := by rw [List.length_cons, w32_eq (by omega) (by omega)]; omega
  refine ⟨am_upd U 125 s.length (1 - x), mst_push _ (mst_tail hs), fun r hr => upd_row hr, fun R hR => M_answers_r14 ⟨fun h => ?_, fun _ => ⟨q1, fun h => ?_, fun h => ?_⟩⟩⟩
  · rw [an_to hb hb2 hi2] at h; exact absurd h q2
  · rw [Int.toNat_natCast, hc, an_es hb2 hi hi2, e1, Int.toNat_natCast, mst_top hs, w64_eq (by omega) (by omega)]
    exact ⟨fun h => by simp [srt] at h, fun _ => ⟨by omega, hR⟩⟩
  · rw [Int.toNat_natCast, hc] at h; simp [srt] at h
theorem an_one {x : Int} (hb : U 86 13 = (b : Nat)) (hb2 : b < 2) (hi : i < to) (hi2 : to ≤ 1600) (hs : mst U (x :: s)) (hl : s.length ≤ 60) (hc : U 111 (1600 * b + i) = srt c) (hx : -1000000000 ≤ x ∧ x ≤ 1000000000) (h1 : c = -18 ∨ c = -19) : mNext N X d x1 b i to U (x :: s) (op1 c x :: s) := by
  obtain ⟨q1, q2, q3⟩ := an_b hb2 hi hi2
  have e1 : w32 (((x :: s).length : Nat) - 1 : Int) = (s.length : Nat) := by rw [List.length_cons, w32_eq (by omega) (by omega)]; omega
  refine ⟨am_upd U 125 s.length (op1 c x), mst_push _ (mst_tail hs), fun r hr => upd_row hr, fun R hR => M_answers_r14 ⟨fun h => ?_, fun _ => ⟨q1, fun h => ?_, fun h => ?_⟩⟩⟩
  · rw [an_to hb hb2 hi2] at h; exact absurd h q2
  · rw [Int.toNat_natCast, hc, an_es hb2 hi hi2, e1, Int.toNat_natCast, mst_top hs]
    rcases h1 with rfl | rfl
    · refine ⟨fun _ => ⟨fun h => by simp [srt] at h, fun _ => ⟨by omega, _, _, ct_M_isSquare x (by omega), fun z => ?_, fun z => ?_⟩⟩, fun h => by simp [srt] at h⟩
      · rw [show op1 (-18) x = 0 from by simp [op1]; exact z] at hR; exact hR
      · rw [show op1 (-18) x = 1 from by simp [op1]; exact cb_t (cb_ne.mp z)] at hR; exact hR
    · refine ⟨fun _ => ⟨fun _ => ⟨fun h => by simp [srt] at h, fun _ => ⟨by omega, _, _, ct_M_isPrime x (by omega), fun z => ?_, fun z => ?_⟩⟩, fun h => by simp [srt] at h⟩, fun h => by simp [srt] at h⟩
      · rw [show op1 (-19) x = 0 from by simp [op1]; exact z] at hR; exact hR
      · rw [show op1 (-19) x = 1 from by simp [op1]; exact cb_t (cb_ne.mp z)] at hR; exact hR
  · rw [Int.toNat_natCast, hc] at h
    rcases h1 with rfl | rfl <;> simp [srt] at h
theorem an_two {x y : Int} (hb : U 86 13 = (b : Nat)) (hb2 : b < 2) (hi : i < to) (hi2 : to ≤ 1600) (hs : mst U (x :: y :: s)) (hl : s.length ≤ 60) (hc : U 111 (1600 * b + i) = srt c) (h9 : 9 < srt c ∧ srt c ≠ 22 ∧ srt c ≠ 24 ∧ srt c ≠ 25) (two : EvK N X (M_two_s0 (d + 2) (srt c) y x U) (rJ (op2 c y x) U)) : mNext N X d x1 b i to U (x :: y :: s) (op2 c y x :: s) := by
  obtain ⟨q1, q2, q3⟩ := an_b hb2 hi hi2
  have e1 : w32 (((x :: y :: s).length : Nat) + (-1) : Int) = ((s.length + 1 : Nat) : Int) := by rw [List.length_cons, List.length_cons, w32_eq (by omega) (by omega)]; omega
  have e2 : w32 (((s.length + 1 : Nat) : Int) - 1) = (s.length : Nat) := by rw [w32_eq (by omega) (by omega)]; omega
  have top : U 125 (s.length + 1) = x := mst_top hs
  have top2 : U 125 s.length = y := mst_top (mst_tail hs)
  refine ⟨am_upd U 125 s.length (op2 c y x), mst_push _ (mst_tail (mst_tail hs)), fun r hr => upd_row hr, fun R hR => M_answers_r14 ⟨fun h => ?_, fun _ => ⟨q1, fun h => ?_, fun h => ?_⟩⟩⟩
  · rw [an_to hb hb2 hi2] at h; exact absurd h q2
  · rw [Int.toNat_natCast, hc, an_es hb2 hi hi2, e1, e2, Int.toNat_natCast, Int.toNat_natCast, top, top2]
    exact ⟨fun _ => ⟨fun _ => ⟨fun _ => ⟨by omega, by omega, _, _, two, hR⟩, fun h => absurd h h9.2.2.2⟩, fun h => absurd h h9.2.2.1⟩, fun h => absurd h h9.2.1⟩
  · rw [Int.toNat_natCast, hc] at h; omega
end MANS
theorem answers_step {N : Nat} {X : Nat → Int} {d : Nat} {U : am_U} {x1 ot : Int} {b v n me i to : Nat} {c : Int} {t t' : List Bool} {s : List Int} (hs : mst U s) (hc : U 111 (1600 * b + i) = srt c) (hc2 : 0 ≤ c → U 112 (1600 * b + i) = c) (ht : tyc c t = some t') (hv : vsOk t s) (hl : t.length ≤ 60) (hi : i < to) (hi2 : to ≤ 1600) (hA : mAsk U b v n me ot) : mNext N X d x1 b i to U s (stp (envM U b v n me ot) c s) := by
  obtain ⟨hb, hb2, h61, h62, h63, hv2, hm, hn, hn2, hh⟩ := hA
  have hl' : s.length ≤ 60 := by rw [vsOk_len hv]; exact hl
  rcases tyc_cases ht with ⟨h1, h2, rfl⟩ | ⟨h1, rfl⟩ | ⟨rfl, rfl⟩ | ⟨rfl, t1, rfl, rfl⟩ | ⟨h1, t1, rfl, rfl⟩ | ⟨h1, t1, rfl, rfl⟩ | ⟨h1, t1, rfl, rfl⟩ | ⟨h1, t1, rfl, rfl⟩
  · have e : stp (envM U b v n me ot) c s = c :: s := by unfold stp; rw [if_pos h1]
    rw [e]
    have q : srt c = 0 := by unfold srt; rw [if_pos h1]
    refine an_push hb hb2 hi hi2 hs hl' hc c (by omega) ?_
    rw [q, hc2 h1]
    exact ct_M_part0 h61 h62 hv2 hm
  · have e : stp (envM U b v n me ot) c s = envM U b v n me ot c :: s := by
      unfold isAsk at h1
      unfold stp; rw [if_neg (by omega), if_pos (by omega)]
    rw [e]
    refine an_push hb hb2 hi hi2 hs hl' hc _ ?_ (ct_M_part hb hb2 h61 h62 h63 hv2 hm hn hn2 hh h1)
    rcases h1 with rfl | rfl | rfl | rfl | rfl | rfl <;> simp [srt]
  · have e : stp (envM U b v n me ot) (-23) s = 1 :: s := by simp [stp]
    rw [e]
    exact an_push hb hb2 hi hi2 hs hl' hc 1 (by simp [srt]) (ct_M_part9 h61 h62 hv2 hm)
  · match s, hv with
    | x :: s1, hv =>
      rw [show stp (envM U b v n me ot) (-22) (x :: s1) = (1 - x) :: s1 from by simp [stp, op1]]
      exact an_not hb hb2 hi hi2 hs (by simp only [List.length_cons] at hl'; omega) hc hv.1
  · match s, hv with
    | x :: s1, hv =>
      have e : stp (envM U b v n me ot) c (x :: s1) = op1 c x :: s1 := by
        unfold stp; rw [if_neg (by omega), if_neg (by omega), if_neg (by omega)]
        simp only
        rw [if_pos (by omega)]
      rw [e]
      exact an_one hb hb2 hi hi2 hs (by simp only [List.length_cons] at hl'; omega) hc hv.1 h1
  · match s, hv with
    | x :: y :: s1, hv =>
      rw [stp_two (Or.inl h1)]
      exact an_two hb hb2 hi hi2 hs (by simp only [List.length_cons] at hl'; omega) hc (srt_two (Or.inl h1)) (ct_M_two (t1 := true) (Or.inl ⟨rfl, h1⟩) hv.2.1 hv.1)
  · match s, hv with
    | x :: y :: s1, hv =>
      rw [stp_two (Or.inr (Or.inl h1))]
      exact an_two hb hb2 hi hi2 hs (by simp only [List.length_cons] at hl'; omega) hc (srt_two (Or.inr (Or.inl h1))) (ct_M_two (t1 := false) (Or.inr ⟨rfl, by unfold isBin; omega⟩) hv.2.1 hv.1)
  · match s, hv with
    | x :: y :: s1, hv =>
      rw [stp_two (Or.inr (Or.inr h1))]
      exact an_two hb hb2 hi hi2 hs (by simp only [List.length_cons] at hl'; omega) hc (srt_two (Or.inr (Or.inr h1))) (ct_M_two (t1 := false) (Or.inr ⟨rfl, by unfold isBin; omega⟩) hv.2.1 hv.1)
