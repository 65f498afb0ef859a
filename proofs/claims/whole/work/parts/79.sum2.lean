/-! sums: one number added, both sides -/
theorem dv_lt {x i : Nat} (h : x / 10 ^ i = 0) : x < 10 ^ i := lt_of_div h
theorem ct_add_l {N : Nat} {X : Nat → Int} {d v x C l L : Nat} {U0 : am_U} (hx1 : 1 ≤ x) (hx : x < 1000000000) (hv : v < 1000000000000) (hL : isLen v L) (hC : C ≤ 100000) (hl : l ≤ 20) : ∀ m k : Nat, k + m = 20 → ∀ U : am_U, (∀ j, j < 64 → U 83 j = if j < k then ((dgt (v + x) j : Nat) : Int) else ((dgt v j : Nat) : Int)) → U 82 2 = ((C + cs v x k : Nat) : Int) → U 82 3 = ((lg v x l k : Nat) : Int) → U 82 1 = ((if L < k then k else L : Nat) : Int) → (k ≤ L ∨ 10 ^ (k - 1) ≤ v + x) → dgk U0 U → ∃ U' L', EvK N X (Dg_add_s10 (d + 1) (x : Nat) ((x / 10 ^ k : Nat) : Int) ((car v x k : Nat) : Int) ((rn v x k : Nat) : Int) (k : Nat) U) (rV U') ∧ dgS U' (v + x) L' ∧ U' 82 2 = ((C + cs v x 20 : Nat) : Int) ∧ U' 82 3 = ((lg v x l 20 : Nat) : Int) ∧ dgk U0 U' := by
  obtain ⟨l1, l2, l3⟩ := hL
  have hL20 : L ≤ 12 := by
    rcases l3 with q | q
    · omega
    · rcases Nat.lt_or_ge 12 L with z | z
      · have p : 10 ^ 12 ≤ 10 ^ (L - 1) := Nat.pow_le_pow_right (by decide) (by omega)
        have e : (10 : Nat) ^ 12 = 1000000000000 := by decide
        rw [e] at p
        exact absurd (Nat.lt_of_le_of_lt (Nat.le_trans p q) hv) (Nat.lt_irrefl _)
      · exact z
  have stop : ∀ k, k ≤ 20 → x / 10 ^ k + car v x k = 0 → ∀ U : am_U, (∀ j, j < 64 → U 83 j = if j < k then ((dgt (v + x) j : Nat) : Int) else ((dgt v j : Nat) : Int)) → U 82 2 = ((C + cs v x k : Nat) : Int) → U 82 3 = ((lg v x l k : Nat) : Int) → U 82 1 = ((if L < k then k else L : Nat) : Int) → (k ≤ L ∨ 10 ^ (k - 1) ≤ v + x) → dgk U0 U → ∃ U' L', EvK N X (Dg_add_s10 (d + 1) (x : Nat) ((x / 10 ^ k : Nat) : Int) ((car v x k : Nat) : Int) ((rn v x k : Nat) : Int) (k : Nat) U) (rV U') ∧ dgS U' (v + x) L' ∧ U' 82 2 = ((C + cs v x 20 : Nat) : Int) ∧ U' 82 3 = ((lg v x l 20 : Nat) : Int) ∧ dgk U0 U' := by
    intro k hk hz U h1 h2 h3 h4 h5 h6
    have x0 : x / 10 ^ k = 0 := (Nat.add_eq_zero_iff.mp hz).1
    have c0 : car v x k = 0 := (Nat.add_eq_zero_iff.mp hz).2
    have off := car_off (lt_of_div x0) c0
    have off2 : ∀ j, k ≤ j → car v x j = 0 := fun j hj => by have := off (j - k); rwa [show k + (j - k) = j from by omega] at this
    have e1 := cs_stop (v := v) (x := x) (m := k) (20 - k) (fun j hj => off2 j (by omega))
    have e2 := lg_stop (v := v) (x := x) (l := l) (m := k) (20 - k) (fun j hj => off2 j (by omega))
    rw [show k + (20 - k) = 20 from by omega] at e1 e2
    rw [x0, c0]
    refine ⟨U, if L < k then k else L, Dg_add_r10 ⟨fun _ => rfl, fun _ => ⟨fun _ => rfl, fun q => absurd q (by decide)⟩⟩, ⟨h4, ⟨?_, ?_, ?_⟩, ?_, fun j hj => ?_⟩, by rw [h2, e1], by rw [h3, e2], h6⟩
    · split <;> omega
    · have a1 : v < 10 ^ (if L < k then k else L) := Nat.lt_of_lt_of_le l2 (Nat.pow_le_pow_right (by decide) (by split <;> omega))
      have a2 : x < 10 ^ (if L < k then k else L) := Nat.lt_of_lt_of_le (lt_of_div x0) (Nat.pow_le_pow_right (by decide) (by split <;> omega))
      have a3 := off2 (if L < k then k else L) (by split <;> omega)
      rw [car_all a1 a2] at a3
      exact lt_of_div a3
    · by_cases z : L < k
      · rw [if_pos z]
        exact Or.inr (h5.resolve_left (by omega))
      · rw [if_neg z]
        rcases l3 with q | q
        · exact Or.inl q
        · exact Or.inr (Nat.le_trans q (Nat.le_add_right v x))
    · split <;> omega
    · rw [h1 j hj]
      by_cases z : j < k
      · rw [if_pos z]
      · rw [if_neg z, ← car_dgt, off2 j (by omega), dgt_0 (Nat.lt_of_lt_of_le (lt_of_div x0) (Nat.pow_le_pow_right (by decide) (by omega)))]
        have := dgt_9 v j
        rw [Nat.mod_eq_of_lt (show dgt v j + 0 + 0 < 10 by omega), Nat.add_zero]
  intro m
  induction m with
  | zero =>
    intro k hk U h1 h2 h3 h4 h5 h6
    obtain rfl : k = 20 := by omega
    refine stop 20 (Nat.le_refl 20) ?_ U h1 h2 h3 h4 h5 h6
    have p : (10 : Nat) ^ 20 = 100000000000000000000 := by decide
    have a1 : v < 10 ^ 20 := by rw [p]; exact Nat.lt_trans hv (by decide)
    have a2 : x < 10 ^ 20 := by rw [p]; exact Nat.lt_trans hx (by decide)
    rw [car_all a1 a2, Nat.div_eq_of_lt a2, Nat.div_eq_of_lt (by rw [p]; omega)]
  | succ m ih =>
    intro k hk U h1 h2 h3 h4 h5 h6
    by_cases c : x / 10 ^ k + car v x k = 0
    · exact stop k (by omega) c U h1 h2 h3 h4 h5 h6
    · have hxk : x / 10 ^ k ≤ x := Nat.div_le_self _ _
      have hcl := cs_le v x k
      have hlg := lg_le (v := v) (x := x) hl k (by omega)
      have hrn := rn_le v x k
      refine (fun (q : ∃ U' L', EvK N X (Dg_add_s10 (d + 1) (x : Nat) ((x / 10 ^ (k + 1) : Nat) : Int) ((car v x (k + 1) : Nat) : Int) ((rn v x (k + 1) : Nat) : Int) ((k + 1 : Nat) : Int) (am_upd (am_upd (am_upd (am_upd U 83 k ((dgt (v + x) k : Nat) : Int)) 82 2 ((C + cs v x (k + 1) : Nat) : Int)) 82 3 ((lg v x l (k + 1) : Nat) : Int)) 82 1 ((if L < k + 1 then k + 1 else L : Nat) : Int))) (rV U') ∧ dgS U' (v + x) L' ∧ U' 82 2 = ((C + cs v x 20 : Nat) : Int) ∧ U' 82 3 = ((lg v x l 20 : Nat) : Int) ∧ dgk U0 U') => ?_) (ih (k + 1) (by omega) _ (fun j hj => ?_) ?_ ?_ ?_ ?_ ?_)
      · obtain ⟨U', L', k1, k2⟩ := q
        refine ⟨U', L', Dg_add_st (a := dgt v k) (C := C + cs v x k) (l := lg v x l k) (L := if L < k then k else L) (by omega) (Nat.lt_of_le_of_lt hxk hx) (car_1 v x k) (Nat.pos_of_ne_zero c) (by omega) (by rw [h1 k (by omega), if_neg (Nat.lt_irrefl k)]) (dgt_9 v k) h2 (by omega) h3 (by omega) h4 (fun c' r' hc' hr' => ?_), k2⟩
        have e1 : dgt v k + x / 10 ^ k % 10 + car v x k = dgt v k + dgt x k + car v x k := rfl
        rw [e1, car_succ] at hc'
        subst hc'
        have e2 : r' = rn v x (k + 1) := by rw [hr', rn_s]
        subst e2
        rw [e1, car_dgt, ← dv_succ, Nat.add_assoc, ← cs_s, ← lg_s]
        have e3 : (if (if L < k then k else L) < k + 1 then k + 1 else (if L < k then k else L)) = (if L < k + 1 then k + 1 else L) := by
          (repeat' split) <;> omega
        rw [e3]
        exact k1
      · rw [upd_row (by decide), upd_row (by decide), upd_row (by decide), upd_if]
        by_cases z : j = k
        · rw [if_pos z, z, if_pos (Nat.lt_succ_self k)]
        · rw [if_neg z, h1 j hj]
          by_cases z2 : j < k
          · rw [if_pos z2, if_pos (Nat.lt_succ_of_lt z2)]
          · rw [if_neg z2, if_neg (by omega)]
      · rw [upd_ne (by decide), upd_ne (by decide), upd_at]
      · rw [upd_ne (by decide), upd_at]
      · exact upd_at _ _ _ _
      · rw [Nat.add_sub_cancel]
        by_cases z : k < L
        · left; omega
        · right
          by_cases z2 : x / 10 ^ k = 0
          · have c1 : 0 < car v x k := Nat.pos_of_ne_zero (fun q => c (by rw [z2, q]))
            rw [car_all (Nat.lt_of_lt_of_le l2 (Nat.pow_le_pow_right (by decide) (by omega))) (lt_of_div z2)] at c1
            exact pow_of_div c1
          · exact Nat.le_trans (pow_of_div (Nat.pos_of_ne_zero z2)) (Nat.le_add_left x v)
      · exact fun r q1 q2 => by rw [upd_row q1, upd_row q1, upd_row q1, upd_row q2]; exact h6 r q1 q2
/-- a sum under way: the number, all carries, the longest run -/
abbrev Sm : Type := Nat × Nat × Nat
def ad (t : Sm) (x : Nat) : Sm := (t.1 + x, t.2.1 + cs t.1 x 20, lg t.1 x t.2.2 20)
def dS (U : am_U) (t : Sm) (L : Nat) : Prop := dgS U t.1 L ∧ U 82 2 = (t.2.1 : Nat) ∧ U 82 3 = (t.2.2 : Nat)
theorem ct_Dadd {N : Nat} {X : Nat → Int} {d x L : Nat} {U : am_U} {t : Sm} (hx : 1 ≤ x ∧ x ≤ 999999999) (hv : t.1 < 1000000000000) (hC : t.2.1 ≤ 100000) (hl : t.2.2 ≤ 20) (hs : dS U t L) : ∃ U' L', EvK N X (Dg_add_s0 (d + 1) (x : Nat) U) (rV U') ∧ dS U' (ad t x) L' ∧ dgk U U' := by
  obtain ⟨⟨s1, s2, s3, s4⟩, s5, s6⟩ := hs
  obtain ⟨U', L', k1, k2, k3, k4, k5⟩ := ct_add_l (N := N) (X := X) (d := d) (U0 := U) hx.1 (by omega) hv s2 hC hl 20 0 (by omega) U (fun j hj => by rw [s4 j hj, if_neg (Nat.not_lt_zero j)]) s5 s6 (by rw [if_neg (Nat.not_lt_zero L)]; exact s1) (Or.inl (Nat.zero_le L)) (fun _ _ _ => rfl)
  rw [car_0, Nat.pow_zero, Nat.div_one] at k1
  exact ⟨U', L', Dg_add_r0 k1, ⟨k2, k3, k4⟩, k5⟩
/-! the reference adds -/
def dM (U : am_U) (t : Sm) : Prop := U 86 76 = (t.1 : Nat) ∧ U 86 77 = (t.2.1 : Nat) ∧ U 86 78 = (t.2.2 : Nat)
def adm (U U' : am_U) : Prop := ∀ r j, ¬ (r = 86 ∧ (j = 76 ∨ j = 77 ∨ j = 78)) → U' r j = U r j
theorem adm_refl (U : am_U) : adm U U := fun _ _ _ => rfl
theorem adm_trans {U U1 U2 : am_U} (h1 : adm U U1) (h2 : adm U1 U2) : adm U U2 := fun r j a => by rw [h2 r j a, h1 r j a]
theorem adm_upd (U : am_U) {j : Nat} (hj : j = 76 ∨ j = 77 ∨ j = 78) (x : Int) : adm U (am_upd U 86 j x) := fun r i a => by
  unfold am_upd
  rw [if_neg (fun e => a ⟨e.1, by rw [e.2]; exact hj⟩)]
theorem agr_adm {U U' : am_U} (h : adm U U') : agr U U' := fun r j e => h r j (fun q => by
  obtain ⟨rfl, q⟩ := q
  rcases q with rfl | rfl | rfl <;> simp [scr] at e)
theorem tot64 {a b c : Nat} (hc : c ≤ 1) : w32 (w32 (w64 (Int.tmod ((a : Nat) : Int) 10 + Int.tmod ((b : Nat) : Int) 10)) + ((c : Nat) : Int)) = ((a % 10 + b % 10 + c : Nat) : Int) := by
  rw [show Int.tmod ((a : Nat) : Int) 10 = ((a % 10 : Nat) : Int) from tmod_nat _ 10, show Int.tmod ((b : Nat) : Int) 10 = ((b % 10 : Nat) : Int) from tmod_nat _ 10, ← Int.natCast_add, w64_eq (by omega) (by omega), w32_eq (x := ((a % 10 + b % 10 : Nat) : Int)) (by omega) (by omega), ← Int.natCast_add, w32_eq (by omega) (by omega)]
theorem M_adds_st {N : Nat} {X : Nat → Int} {d : Nat} {U : am_U} {R : Option am_V × am_M} {x1 : Int} {a b c r C l : Nat} (ha : a < 1000000000000000) (hb : b < 1000000000000000) (hab : 0 < a ∨ 0 < b) (hc : c ≤ 1) (hr : r ≤ 1000) (hC : U 86 77 = (C : Nat)) (hC2 : C ≤ 1000000) (hl : U 86 78 = (l : Nat)) (h : ∀ c' r', c' = (a % 10 + b % 10 + c) / 10 → r' = (if c' = 1 then r + 1 else 0) → EvK N X (M_adds_s14 d x1 ((a / 10 : Nat) : Int) ((b / 10 : Nat) : Int) ((c' : Nat) : Int) ((r' : Nat) : Int) (am_upd (am_upd U 86 77 ((C + c' : Nat) : Int)) 86 78 ((if l < r' then r' else l : Nat) : Int))) R) : EvK N X (M_adds_s14 d x1 (a : Nat) (b : Nat) (c : Nat) (r : Nat) U) R := by
  refine M_adds_r14 ?_
  rw [tot64 hc, tm_d (by omega), tm_d (by omega), hC, hl, w32_succ (i := r) (by omega), w32_eq (x := ((C : Nat) : Int) + 0) (by omega) (by omega), w32_succ (i := C) (by omega)]
  have key : ((((a % 10 + b % 10 + c : Nat) : Int) ≤ 9) → ((0 ≤ ((l : Nat) : Int)) → EvK N X (M_adds_s14 d x1 ((a / 10 : Nat) : Int) ((b / 10 : Nat) : Int) 0 0 (am_upd (am_upd U 86 77 (((C : Nat) : Int) + 0)) 86 78 ((l : Nat) : Int))) R) ∧ ((((l : Nat) : Int) < 0) → EvK N X (M_adds_s14 d x1 ((a / 10 : Nat) : Int) ((b / 10 : Nat) : Int) 0 0 (am_upd (am_upd U 86 77 (((C : Nat) : Int) + 0)) 86 78 0)) R)) ∧ ((9 < ((a % 10 + b % 10 + c : Nat) : Int)) → ((((r + 1 : Nat) : Int) ≤ ((l : Nat) : Int)) → EvK N X (M_adds_s14 d x1 ((a / 10 : Nat) : Int) ((b / 10 : Nat) : Int) 1 ((r + 1 : Nat) : Int) (am_upd (am_upd U 86 77 ((C + 1 : Nat) : Int)) 86 78 ((l : Nat) : Int))) R) ∧ ((((l : Nat) : Int) < ((r + 1 : Nat) : Int)) → EvK N X (M_adds_s14 d x1 ((a / 10 : Nat) : Int) ((b / 10 : Nat) : Int) 1 ((r + 1 : Nat) : Int) (am_upd (am_upd U 86 77 ((C + 1 : Nat) : Int)) 86 78 ((r + 1 : Nat) : Int))) R)) := by
    refine ⟨fun q => ⟨fun _ => ?_, fun z => absurd z (by omega)⟩, fun q => ⟨fun z => ?_, fun z => ?_⟩⟩
    · have h0 := h 0 0 (by omega) rfl
      rw [Nat.add_zero, if_neg (Nat.not_lt_zero l)] at h0
      rw [Int.add_zero]
      exact h0
    · have h0 := h 1 (r + 1) (by omega) rfl
      rw [if_neg (by omega)] at h0
      exact h0
    · have h0 := h 1 (r + 1) (by omega) rfl
      rw [if_pos (by omega)] at h0
      exact h0
  exact ⟨fun _ => key, fun q => ⟨fun z => absurd hab (by omega), fun _ => key⟩⟩
theorem ct_adds_l {N : Nat} {X : Nat → Int} {d v x C l : Nat} {U0 : am_U} (hx : x < 1000000000) (hv : v < 1000000000000) (hC : C ≤ 100000) (hl : l ≤ 20) : ∀ m k : Nat, k + m = 20 → ∀ U : am_U, U 86 76 = (v : Nat) → U 86 77 = ((C + cs v x k : Nat) : Int) → U 86 78 = ((lg v x l k : Nat) : Int) → adm U0 U → ∃ U', EvK N X (M_adds_s14 d (x : Nat) ((v / 10 ^ k : Nat) : Int) ((x / 10 ^ k : Nat) : Int) ((car v x k : Nat) : Int) ((rn v x k : Nat) : Int) U) (rV U') ∧ dM U' (v + x, C + cs v x 20, lg v x l 20) ∧ adm U0 U' := by
  have stop : ∀ k, k ≤ 20 → v / 10 ^ k = 0 → x / 10 ^ k = 0 → ∀ U : am_U, U 86 76 = (v : Nat) → U 86 77 = ((C + cs v x k : Nat) : Int) → U 86 78 = ((lg v x l k : Nat) : Int) → adm U0 U → ∃ U', EvK N X (M_adds_s14 d (x : Nat) ((v / 10 ^ k : Nat) : Int) ((x / 10 ^ k : Nat) : Int) ((car v x k : Nat) : Int) ((rn v x k : Nat) : Int) U) (rV U') ∧ dM U' (v + x, C + cs v x 20, lg v x l 20) ∧ adm U0 U' := by
    intro k hk v0 x0 U h1 h2 h3 h4
    have e1 := cs_stop (v := v) (x := x) (m := k) (20 - k) (fun j hj => car_off2 (lt_of_div v0) (lt_of_div x0) hj)
    have e2 := lg_stop (v := v) (x := x) (l := l) (m := k) (20 - k) (fun j hj => car_off2 (lt_of_div v0) (lt_of_div x0) hj)
    rw [show k + (20 - k) = 20 from by omega] at e1 e2
    rw [v0, x0]
    refine ⟨am_upd U 86 76 ((v + x : Nat) : Int), M_adds_r14 ⟨fun q => absurd q (by decide), fun _ => ⟨fun _ => ?_, fun q => absurd q (by decide)⟩⟩, ⟨upd_at _ _ _ _, ?_, ?_⟩, adm_trans h4 (adm_upd _ (Or.inl rfl) _)⟩
    · rw [h1, ← Int.natCast_add, w64_eq (by omega) (by omega)]
    · rw [upd_ne (by decide), h2, e1]
    · rw [upd_ne (by decide), h3, e2]
  intro m
  induction m with
  | zero =>
    intro k hk U h1 h2 h3 h4
    obtain rfl : k = 20 := by omega
    have p : (10 : Nat) ^ 20 = 100000000000000000000 := by decide
    have a1 : v < 10 ^ 20 := by rw [p]; exact Nat.lt_trans hv (by decide)
    have a2 : x < 10 ^ 20 := by rw [p]; exact Nat.lt_trans hx (by decide)
    exact stop 20 (Nat.le_refl 20) (Nat.div_eq_of_lt a1) (Nat.div_eq_of_lt a2) U h1 h2 h3 h4
  | succ m ih =>
    intro k hk U h1 h2 h3 h4
    by_cases c : v / 10 ^ k = 0 ∧ x / 10 ^ k = 0
    · exact stop k (by omega) c.1 c.2 U h1 h2 h3 h4
    · have hxk : x / 10 ^ k ≤ x := Nat.div_le_self _ _
      have hvk : v / 10 ^ k ≤ v := Nat.div_le_self _ _
      have hcl := cs_le v x k
      have hrn := rn_le v x k
      obtain ⟨U', k1, k2⟩ := ih (k + 1) (by omega) (am_upd (am_upd U 86 77 ((C + cs v x (k + 1) : Nat) : Int)) 86 78 ((lg v x l (k + 1) : Nat) : Int)) (by rw [upd_ne (by decide), upd_ne (by decide)]; exact h1) (by rw [upd_ne (by decide), upd_at]) (upd_at _ _ _ _) (adm_trans h4 (adm_trans (adm_upd _ (Or.inr (Or.inl rfl)) _) (adm_upd _ (Or.inr (Or.inr rfl)) _)))
      refine ⟨U', M_adds_st (C := C + cs v x k) (l := lg v x l k) (Nat.lt_of_le_of_lt hvk (Nat.lt_trans hv (by decide))) (Nat.lt_of_le_of_lt hxk (Nat.lt_trans hx (by decide))) (by
        rcases Nat.eq_zero_or_pos (v / 10 ^ k) with z | z
        · exact Or.inr (Nat.pos_of_ne_zero (fun q => c ⟨z, q⟩))
        · exact Or.inl z) (car_1 v x k) (by omega) h2 (by omega) h3 (fun c' r' hc' hr' => ?_), k2⟩
      have e1 : v / 10 ^ k % 10 + x / 10 ^ k % 10 + car v x k = dgt v k + dgt x k + car v x k := rfl
      rw [e1, car_succ] at hc'
      subst hc'
      have e2 : r' = rn v x (k + 1) := by rw [hr', rn_s]
      subst e2
      rw [← dv_succ, ← dv_succ, Nat.add_assoc, ← cs_s, ← lg_s]
      exact k1
theorem ct_adds {N : Nat} {X : Nat → Int} {d x : Nat} {U : am_U} {t : Sm} (hx : 1 ≤ x ∧ x ≤ 999999999) (hv : t.1 < 1000000000000) (hC : t.2.1 ≤ 100000) (hl : t.2.2 ≤ 20) (hs : dM U t) : ∃ U', EvK N X (M_adds_s0 d (x : Nat) U) (rV U') ∧ dM U' (ad t x) ∧ adm U U' := by
  obtain ⟨s1, s2, s3⟩ := hs
  obtain ⟨U', k1, k2, k3⟩ := ct_adds_l (N := N) (X := X) (d := d) (U0 := U) (x := x) (by omega) hv hC hl 20 0 (by omega) U s1 s2 s3 (adm_refl U)
  rw [car_0, Nat.pow_zero, Nat.div_one, Nat.div_one] at k1
  refine ⟨U', M_adds_r0 ?_, k2, k3⟩
  rw [s1]; exact k1
