/-! the reference scans a layer for breaches -/
def scn (U : am_U) (k : Int) (P : List (Nat × Nat × Nat)) : Prop := U 86 67 = (P.length : Nat) ∧ ∀ (i : Nat) (x : Nat × Nat × Nat), k = (i : Nat) → P[i]? = some x → U 86 64 = (x.1 : Nat) ∧ U 86 65 = (x.2.1 : Nat) ∧ U 86 66 = (if x.2.2 = 16 then -1 else ((x.2.2 : Nat) : Int))
theorem scn_mk {U U' : am_U} {k : Int} {P : List (Nat × Nat × Nat)} (h : mk U U') (hs : scn U k P) : scn U' k P := by
  unfold scn
  rw [h 86 67 (by decide) (by decide), h 86 64 (by decide) (by decide), h 86 65 (by decide) (by decide), h 86 66 (by decide) (by decide)]
  exact hs
set_option maxHeartbeats 400000 in
theorem ct_counted {N : Nat} {X : Nat → Int} {d : Nat} {U : am_U} {k o : Int} {l me j : Nat} {P : List (Nat × Nat × Nat)} (hs : scn U k P) (hl : P.length < 1000000) (ho : o = if j = 16 then -1 else ((j : Nat) : Int)) : ∃ U', EvK N X (M_counted_s0 d (l : Nat) (me : Nat) o k U) (rV U') ∧ scn U' k (P ++ [(l, me, j)]) ∧ sk U U' := by
  obtain ⟨h1, h2⟩ := hs
  by_cases c : U 86 67 = k
  · refine ⟨_, M_counted_r0 ⟨fun h => absurd c h, fun _ => rfl⟩, ⟨?_, fun i x hi hx => ?_⟩, fun r q a e => ?_⟩
    · rw [upd_at, h1, w32_succ (i := P.length) (by omega), List.length_append]; rfl
    · have e : i = P.length := by omega
      subst e
      rw [List.getElem?_append_right (Nat.le_refl _), Nat.sub_self] at hx
      simp at hx
      subst hx
      refine ⟨?_, ?_, ?_⟩
      · rw [upd_ne (by decide), upd_ne (by decide), upd_ne (by decide), upd_at]
      · rw [upd_ne (by decide), upd_ne (by decide), upd_at]
      · rw [upd_ne (by decide), upd_at]; exact ho
    · by_cases z : r = 86
      · subst z
        have := e rfl
        rw [upd_ne (by omega), upd_ne (by omega), upd_ne (by omega), upd_ne (by omega)]
      · rw [upd_row z, upd_row z, upd_row z, upd_row z]
  · refine ⟨_, M_counted_r0 ⟨fun _ => rfl, fun h => absurd h c⟩, ⟨?_, fun i x hi hx => ?_⟩, fun r q a e => ?_⟩
    · rw [upd_at, h1, w32_succ (i := P.length) (by omega), List.length_append]; rfl
    · rw [upd_ne (by decide), upd_ne (by decide), upd_ne (by decide)]
      have : i < P.length := by
        have := (List.getElem?_eq_some_iff.mp hx).1
        rw [List.length_append] at this
        simp at this
        omega
      rw [List.getElem?_append_left this] at hx
      exact h2 i x hi hx
    · by_cases z : r = 86
      · subst z
        have := e rfl
        rw [upd_ne (by omega)]
      · rw [upd_row z]
theorem brC_len (U : am_U) (b nl n : Nat) (hm : Nat → Int) (w : Int) (l me : Nat) : (brC U b nl n hm w l me).length ≤ 17 := by
  have e : (brC U b nl n hm w l me).length = fb_ct (brB U b nl n hm w l me) 17 := by unfold brC; rw [List.length_map, fl_len]
  exact e ▸ fb_ct_le _ _
theorem fl_bnd {P : List (Nat × Nat × Nat)} (p : Nat → Bool) (f : Nat → Nat × Nat × Nat) (j : Nat) (h : P.length < 10000) (hj : j ≤ 17) : (P ++ (fl p j).map f).length < 1000000 := by
  have e1 : (P ++ (fl p j).map f).length = P.length + fb_ct p j := by rw [List.length_append, List.length_map, fl_len]
  have e2 := fb_ct_le p j
  generalize fb_ct p j = z at *
  rw [e1]; clear e1
  exact Nat.lt_of_lt_of_le (Nat.add_lt_add_of_lt_of_le h (Nat.le_trans e2 hj)) (by decide)
theorem ap_bnd {P Q : List (Nat × Nat × Nat)} {a c m : Nat} (h : P.length < a) (hq : Q.length ≤ c) (hm : a + c ≤ m) : (P ++ Q).length < m := by
  have e1 : (P ++ Q).length = P.length + Q.length := List.length_append
  generalize (P ++ Q).length = z at *
  omega
theorem brB_f {U : am_U} {b nl n : Nat} {hm : Nat → Int} {w : Int} {l me j : Nat} (h : ¬ brS U b nl n hm l me j) : brB U b nl n hm w l me j = false := pd_f (fun q => h q.1)
section SCAN
variable {N : Nat} {X : Nat → Int} {d : Nat} {U0 : am_U} {b ns nh nl nw nd cl v n l me : Nat} {hm : Nat → Int} {w k kind : Int}

set_option maxHeartbeats 400000 in
theorem sc_others (hc : mCtx U0 b ns nh nl nw nd cl v n hm) (hl : l < nw) (hme : me < n) (hk : kind = 1 ∨ kind = 2) (h12 : U0 12 l = 8 + kind) : ∀ m j : Nat, j + m = n → ∀ (U : am_U) (P : List (Nat × Nat × Nat)), sk U0 U → scn U k (P ++ (fl (brB U0 b nl n hm w l me) j).map (fun j => (l, me, j))) → P.length < 10000 → ∃ U', sk U0 U' ∧ scn U' k (P ++ (fl (brB U0 b nl n hm w l me) n).map (fun j => (l, me, j))) ∧ ∀ R, EvK N X (M_scans_s47 (d + 6) (v : Nat) w k (l : Nat) kind ((me + 1 : Nat) : Int) U') R → EvK N X (M_scans_s117 (d + 6) (v : Nat) w k (l : Nat) kind (me : Nat) (j : Nat) U) R := by
  have hn16 : n ≤ 16 := hc.2.2.2.1
  intro m
  induction m with
  | zero =>
    intro j hj U P h1 h2 h3
    obtain rfl : j = n := by omega
    refine ⟨U, h1, h2, fun R hR => M_scans_r117 ⟨by have := hc.2.1; omega, fun _ => ?_, fun q => ?_⟩⟩
    · rw [w32_succ (by omega)]; exact hR
    · rw [Int.toNat_natCast, sk_row h1 (r := 122) (by decide) (by decide), hc.2.2.1] at q; omega
  | succ m ih =>
    intro j hj U P h1 h2 h3
    have hcU := mCtx_sk h1 hc
    have e122 : U 122 v = (n : Nat) := hcU.2.2.1
    have hlen := fl_bnd (brB U0 b nl n hm w l me) (fun j => (l, me, j)) j h3 (by omega)
    -- one step: a state behind it, by which all goes on
    have step : ∃ U1, sk U0 U1 ∧ scn U1 k (P ++ (fl (brB U0 b nl n hm w l me) (j + 1)).map (fun j => (l, me, j))) ∧ ∀ R, EvK N X (M_scans_s117 (d + 6) (v : Nat) w k (l : Nat) kind (me : Nat) ((j + 1 : Nat) : Int) U1) R → EvK N X (M_scans_s117 (d + 6) (v : Nat) w k (l : Nat) kind (me : Nat) (j : Nat) U) R := by
      have skip : brB U0 b nl n hm w l me j = false → scn U k (P ++ (fl (brB U0 b nl n hm w l me) (j + 1)).map (fun j => (l, me, j))) := by
        intro h; rw [fl_succ, h]; simpa using h2
      by_cases sel : w = -1 ∨ w = (me : Nat) ∨ w = (j : Nat)
      · have pr := ct_M_isPair (N := N) (X := X) (d := d + 3) (kind := kind) hk hcU hme (show j < n by omega)
        have emet : metS U b nl n hm (8 + kind) me j ↔ metS U0 b nl n hm (8 + kind) me j := by
          unfold metS nbU
          rw [sk_row h1 (r := 6) (by decide) (by decide), sk_row h1 (r := 95) (by decide) (by decide), sk_row h1 (r := 96) (by decide) (by decide)]
        rw [propext emet] at pr
        by_cases pm : metS U0 b nl n hm (8 + kind) me j
        · rw [cb_t pm] at pr
          obtain ⟨z1, z2, z3, z4⟩ := hcU.2.2.2.2 j (by omega)
          have nu := ct_M_numberOf (N := N) (X := X) (d := d + 5) (U := U) v j hc.2.1 (by omega)
          rw [z1] at nu
          obtain ⟨U2, g1, g2⟩ := ct_M_law (N := N) (X := X) (d := d) (ot := U 17 j) hcU hl hme (by omega)
          have e17 : U 17 j = U0 17 j := by rw [sk_row h1 (r := 17) (by decide) (by decide)]
          have eh : hTS U n hm l me (U 17 j) ↔ hTS U0 n hm l me (U0 17 j) := by rw [hTS_cg (stq_sk h1), e17]
          rw [propext eh] at g1
          by_cases hh : hTS U0 n hm l me (U0 17 j)
          · rw [cb_t hh] at g1
            have nb : brB U0 b nl n hm w l me j = false := brB_f (by
              rintro (⟨q, -⟩ | ⟨-, -, q⟩)
              · omega
              · exact q hh)
            refine ⟨U2, sk_trans h1 (sk_mk g2), scn_mk g2 (skip nb), fun R hR => M_scans_r117 ⟨by have := hc.2.1; omega, fun q => ?_, fun _ => ?_⟩⟩
            · rw [Int.toNat_natCast, e122] at q; omega
            · rw [w32_succ (i := j) (by omega)]
              exact ⟨fun _ => ⟨_, _, pr, fun _ => ⟨_, _, nu, _, _, g1, fun _ => hR, fun q => by simp at q⟩, fun q => by simp at q⟩, fun q0 => ⟨fun _ => ⟨_, _, pr, fun _ => ⟨_, _, nu, _, _, g1, fun _ => hR, fun q => by simp at q⟩, fun q => by simp at q⟩, fun q1 => ⟨fun q2 => absurd sel (by omega), fun _ => ⟨_, _, pr, fun _ => ⟨_, _, nu, _, _, g1, fun _ => hR, fun q => by simp at q⟩, fun q => by simp at q⟩⟩⟩⟩
          · rw [cb_f hh] at g1
            have yb : brB U0 b nl n hm w l me j = true := pd_t ⟨Or.inr ⟨by omega, by rw [h12]; exact pm, hh⟩, sel⟩
            obtain ⟨U3, f1, f2, f3⟩ := ct_counted (N := N) (X := X) (d := d + 5) (U := U2) (k := k) (o := (j : Nat)) (l := l) (me := me) (j := j) (scn_mk g2 h2) hlen (by rw [if_neg (by omega)])
            refine ⟨U3, sk_trans (sk_trans h1 (sk_mk g2)) f3, ?_, fun R hR => M_scans_r117 ⟨by have := hc.2.1; omega, fun q => ?_, fun _ => ?_⟩⟩
            · rw [fl_succ, yb, if_pos rfl, List.map_append, ← List.append_assoc]; exact f2
            · rw [Int.toNat_natCast, e122] at q; omega
            · rw [w32_succ (i := j) (by omega)]
              exact ⟨fun _ => ⟨_, _, pr, fun _ => ⟨_, _, nu, _, _, g1, fun q => absurd rfl q, fun _ => ⟨_, f1, hR⟩⟩, fun q => by simp at q⟩, fun q0 => ⟨fun _ => ⟨_, _, pr, fun _ => ⟨_, _, nu, _, _, g1, fun q => absurd rfl q, fun _ => ⟨_, f1, hR⟩⟩, fun q => by simp at q⟩, fun q1 => ⟨fun q2 => absurd sel (by omega), fun _ => ⟨_, _, pr, fun _ => ⟨_, _, nu, _, _, g1, fun q => absurd rfl q, fun _ => ⟨_, f1, hR⟩⟩, fun q => by simp at q⟩⟩⟩⟩
        · rw [cb_f pm] at pr
          have nb : brB U0 b nl n hm w l me j = false := brB_f (by
            rintro (⟨q, -⟩ | ⟨-, q, -⟩)
            · omega
            · rw [h12] at q; exact pm q)
          refine ⟨U, h1, skip nb, fun R hR => M_scans_r117 ⟨by have := hc.2.1; omega, fun q => ?_, fun _ => ?_⟩⟩
          · rw [Int.toNat_natCast, e122] at q; omega
          · rw [w32_succ (i := j) (by omega)]
            exact ⟨fun _ => ⟨_, _, pr, fun q => absurd rfl q, fun _ => hR⟩, fun q0 => ⟨fun _ => ⟨_, _, pr, fun q => absurd rfl q, fun _ => hR⟩, fun q1 => ⟨fun q2 => absurd sel (by omega), fun _ => ⟨_, _, pr, fun q => absurd rfl q, fun _ => hR⟩⟩⟩⟩
      · have nb : brB U0 b nl n hm w l me j = false := pd_f (fun q => sel q.2)
        refine ⟨U, h1, skip nb, fun R hR => M_scans_r117 ⟨by have := hc.2.1; omega, fun q => ?_, fun _ => ?_⟩⟩
        · rw [Int.toNat_natCast, e122] at q; omega
        · rw [w32_succ (i := j) (by omega)]
          exact ⟨fun q => absurd (Or.inl q) sel, fun q0 => ⟨fun q => absurd (Or.inr (Or.inl q)) sel, fun q1 => ⟨fun _ => hR, fun q => absurd (Or.inr (Or.inr q)) sel⟩⟩⟩
    obtain ⟨U1, s1', s2', s3'⟩ := step
    obtain ⟨U', k1, k2, k3⟩ := ih (j + 1) (by omega) U1 P s1' s2' h3
    exact ⟨U', k1, k2, fun R hR => s3' R (k3 R hR)⟩
set_option maxHeartbeats 400000 in
theorem sc_mes (hw : w < 16) (hc : mCtx U0 b ns nh nl nw nd cl v n hm) (hl : l < nw) (hk : kind = 0 ∨ kind = 1 ∨ kind = 2) (h12 : U0 12 l = 8 + kind) : ∀ m me : Nat, me + m = n → ∀ (U : am_U) (P : List (Nat × Nat × Nat)), sk U0 U → scn U k (P ++ fr (brC U0 b nl n hm w l) me) → P.length < 5000 → ∃ U', sk U0 U' ∧ scn U' k (P ++ fr (brC U0 b nl n hm w l) n) ∧ ∀ R, EvK N X (M_scans_s13 (d + 6) (v : Nat) w k ((l + 1 : Nat) : Int) U') R → EvK N X (M_scans_s47 (d + 6) (v : Nat) w k (l : Nat) kind (me : Nat) U) R := by
  have hn16 : n ≤ 16 := hc.2.2.2.1
  have hnw := hc.1.2.2.2.2.2.2.1.2.2.1
  have rowlen : ∀ i, i ≤ n → (fr (brC U0 b nl n hm w l) i).length ≤ 17 * i := by
    intro i
    induction i with
    | zero => intro _; simp [fr]
    | succ i ih =>
      intro hi
      have e1 : (fr (brC U0 b nl n hm w l) (i + 1)).length = (fr (brC U0 b nl n hm w l) i).length + (brC U0 b nl n hm w l i).length := by rw [fr_succ, List.length_append]
      have := ih (by omega)
      have := brC_len U0 b nl n hm w l i
      omega
  intro m
  induction m with
  | zero =>
    intro me hme U P h1 h2 h3
    obtain rfl : me = n := by omega
    refine ⟨U, h1, h2, fun R hR => M_scans_r47 ⟨by have := hc.2.1; omega, fun _ => ?_, fun q => ?_⟩⟩
    · rw [w32_succ (by omega)]; exact hR
    · rw [Int.toNat_natCast, sk_row h1 (r := 122) (by decide) (by decide), hc.2.2.1] at q; omega
  | succ m ih =>
    intro me hme U P h1 h2 h3
    have hcU := mCtx_sk h1 hc
    have e122 : U 122 v = (n : Nat) := hcU.2.2.1
    have ho := ct_M_homeOf (N := N) (X := X) (d := d + 5) (U := U) v me hc.2.1 (by omega)
    obtain ⟨z1, z2, z3, z4⟩ := hcU.2.2.2.2 me (by omega)
    rw [z2] at ho
    have hb0 : ¬ ((U 122 ((v : Nat) : Int).toNat) ≤ ((me : Nat) : Int)) := by rw [Int.toNat_natCast, e122]; omega
    have hv : 0 ≤ ((v : Nat) : Int) ∧ ((v : Nat) : Int) < 22 := by have := hc.2.1; omega
    have rl := rowlen me (by omega)
    have step : ∃ U1, sk U0 U1 ∧ scn U1 k (P ++ fr (brC U0 b nl n hm w l) (me + 1)) ∧ ∀ R, EvK N X (M_scans_s47 (d + 6) (v : Nat) w k (l : Nat) kind ((me + 1 : Nat) : Int) U1) R → EvK N X (M_scans_s47 (d + 6) (v : Nat) w k (l : Nat) kind (me : Nat) U) R := by
      have none : brC U0 b nl n hm w l me = [] → scn U k (P ++ fr (brC U0 b nl n hm w l) (me + 1)) := by
        intro h; rw [fr_succ, h, List.append_nil]; exact h2
      by_cases hom : hm me = -1
      · refine ⟨U, h1, none ?_, fun R hR => M_scans_r47 ⟨hv, fun q => absurd q hb0, fun _ => ⟨_, _, ho, fun q => absurd hom q, fun _ => by rw [w32_succ (i := me) (by omega)]; exact hR⟩⟩⟩
        unfold brC
        rw [fl_nil]; rfl
        intro i hi
        refine brB_f ?_
        rintro (⟨-, -, q, -⟩ | ⟨-, ⟨-, q, -⟩, -⟩) <;> omega
      · by_cases k0 : kind = 0
        · -- a law of each
          have cell : brC U0 b nl n hm w l me = if brB U0 b nl n hm w l me 16 then [(l, me, 16)] else [] := by
            unfold brC
            rw [fl_succ, fl_nil (p := brB U0 b nl n hm w l me) (n := 16) (fun i hi => brB_f (by
              rintro (⟨-, q, -⟩ | ⟨q, -⟩)
              · omega
              · rw [h12, k0] at q; exact q rfl))]
            split <;> simp
          by_cases sel : w = -1 ∨ w = (me : Nat)
          · obtain ⟨U2, g1, g2⟩ := ct_M_law (N := N) (X := X) (d := d) (ot := 0) hcU hl (show me < n by omega) (by omega)
            rw [propext (hTS_cg (stq_sk h1) n hm l me 0)] at g1
            by_cases hh : hTS U0 n hm l me 0
            · rw [cb_t hh] at g1
              have nb : brB U0 b nl n hm w l me 16 = false := brB_f (by
                rintro (⟨-, -, -, q⟩ | ⟨q, -⟩)
                · exact q hh
                · rw [h12, k0] at q; exact q rfl)
              refine ⟨U2, sk_trans h1 (sk_mk g2), scn_mk g2 (none (by rw [cell, nb]; rfl)), fun R hR => M_scans_r47 ⟨hv, fun q => absurd q hb0, fun _ => ⟨_, _, ho, fun _ => ⟨fun q => absurd k0 q, fun _ => ?_⟩, fun q => absurd q hom⟩⟩⟩
              rw [w32_succ (i := me) (by omega)]
              exact ⟨fun _ => ⟨_, _, g1, fun _ => hR, fun q => by simp at q⟩, fun q0 => ⟨fun q1 => absurd sel (by omega), fun _ => ⟨_, _, g1, fun _ => hR, fun q => by simp at q⟩⟩⟩
            · rw [cb_f hh] at g1
              have yb : brB U0 b nl n hm w l me 16 = true := pd_t ⟨Or.inl ⟨by rw [h12, k0]; rfl, rfl, by omega, hh⟩, by omega⟩
              obtain ⟨U3, f1, f2, f3⟩ := ct_counted (N := N) (X := X) (d := d + 5) (U := U2) (k := k) (o := -1) (l := l) (me := me) (j := 16) (scn_mk g2 h2) (ap_bnd h3 rl (by omega)) (by simp)
              refine ⟨U3, sk_trans (sk_trans h1 (sk_mk g2)) f3, ?_, fun R hR => M_scans_r47 ⟨hv, fun q => absurd q hb0, fun _ => ⟨_, _, ho, fun _ => ⟨fun q => absurd k0 q, fun _ => ?_⟩, fun q => absurd q hom⟩⟩⟩
              · rw [fr_succ, cell, yb, if_pos rfl, ← List.append_assoc]; exact f2
              · rw [w32_succ (i := me) (by omega)]
                exact ⟨fun _ => ⟨_, _, g1, fun q => absurd rfl q, fun _ => ⟨_, f1, hR⟩⟩, fun q0 => ⟨fun q1 => absurd sel (by omega), fun _ => ⟨_, _, g1, fun q => absurd rfl q, fun _ => ⟨_, f1, hR⟩⟩⟩⟩
          · have nb : brB U0 b nl n hm w l me 16 = false := pd_f (fun q => by
              rcases q.2 with z | z | z
              · exact sel (Or.inl z)
              · exact sel (Or.inr z)
              · omega)
            refine ⟨U, h1, none (by rw [cell, nb]; rfl), fun R hR => M_scans_r47 ⟨hv, fun q => absurd q hb0, fun _ => ⟨_, _, ho, fun _ => ⟨fun q => absurd k0 q, fun _ => ?_⟩, fun q => absurd q hom⟩⟩⟩
            rw [w32_succ (i := me) (by omega)]
            exact ⟨fun q => absurd (Or.inl q) sel, fun q0 => ⟨fun _ => hR, fun q => absurd (Or.inr q) sel⟩⟩
        · obtain ⟨U1, f1, f2, f3⟩ := sc_others (N := N) (X := X) (d := d) (w := w) (k := k) (kind := kind) hc hl (show me < n by omega) (by omega) h12 n 0 (by omega) U (P ++ fr (brC U0 b nl n hm w l) me) h1 (by simpa [fl] using h2) (ap_bnd h3 rl (by omega))
          have cell : brC U0 b nl n hm w l me = (fl (brB U0 b nl n hm w l me) n).map (fun j => (l, me, j)) := by
            unfold brC
            rw [fl_cut (m := n) (by omega) (fun i a b => brB_f (by
              rintro (⟨q, -⟩ | ⟨-, ⟨q, -⟩, -⟩)
              · omega
              · omega))]
          refine ⟨U1, f1, ?_, fun R hR => M_scans_r47 ⟨hv, fun q => absurd q hb0, fun _ => ⟨_, _, ho, fun _ => ⟨fun _ => f3 R hR, fun q => absurd q k0⟩, fun q => absurd q hom⟩⟩⟩
          rw [fr_succ, cell, ← List.append_assoc]; exact f2
    obtain ⟨U1, s1', s2', s3'⟩ := step
    obtain ⟨U', k1, k2, k3⟩ := ih (me + 1) (by omega) U1 P s1' s2' h3
    exact ⟨U', k1, k2, fun R hR => s3' R (k3 R hR)⟩
set_option maxHeartbeats 400000 in
theorem sc_laws (hw : w < 16) (hc : mCtx U0 b ns nh nl nw nd cl v n hm) : ∀ m l : Nat, l + m = nw → ∀ (U : am_U), sk U0 U → scn U k (fr (fun l => fr (brC U0 b nl n hm w l) n) l) → ∃ U', EvK N X (M_scans_s13 (d + 6) (v : Nat) w k (l : Nat) U) (rI (((brA U0 b nl nw n hm w).length : Nat) : Int) U') ∧ sk U0 U' ∧ scn U' k (brA U0 b nl nw n hm w) := by
  have hn16 : n ≤ 16 := hc.2.2.2.1
  have hnw := hc.1.2.2.2.2.2.2.1
  have rowlen : ∀ l, (fr (brC U0 b nl n hm w l) n).length ≤ 272 := by
    intro l
    have : ∀ i, (fr (brC U0 b nl n hm w l) i).length ≤ 17 * i := by
      intro i
      induction i with
      | zero => simp [fr]
      | succ i ih =>
        have e1 : (fr (brC U0 b nl n hm w l) (i + 1)).length = (fr (brC U0 b nl n hm w l) i).length + (brC U0 b nl n hm w l i).length := by rw [fr_succ, List.length_append]
        have := brC_len U0 b nl n hm w l i
        omega
    have := this n
    omega
  have alllen : ∀ i, (fr (fun l => fr (brC U0 b nl n hm w l) n) i).length ≤ 272 * i := by
    intro i
    induction i with
    | zero => simp [fr]
    | succ i ih =>
      have e1 : (fr (fun l => fr (brC U0 b nl n hm w l) n) (i + 1)).length = (fr (fun l => fr (brC U0 b nl n hm w l) n) i).length + (fr (brC U0 b nl n hm w i) n).length := by rw [fr_succ, List.length_append]
      have := rowlen i
      omega
  intro m
  induction m with
  | zero =>
    intro l hl U h1 h2
    obtain rfl : l = nw := by omega
    have hb : U 86 13 = (b : Nat) := by rw [h1 86 13 (by decide) (by decide)]; exact hc.1.1.1
    have hb2 := hc.1.1.2
    have e100 : U 100 b = (l : Nat) := by rw [sk_row h1 (r := 100) (by decide) (by decide)]; exact hnw.2.1
    refine ⟨U, M_scans_r13 ?_, h1, h2⟩
    rw [hb, Int.toNat_natCast, e100]
    refine ⟨by omega, fun _ => ?_, fun q => absurd q (by omega)⟩
    rw [h2.1]; rfl
  | succ m ih =>
    intro l hl U h1 h2
    have hb : U 86 13 = (b : Nat) := by rw [h1 86 13 (by decide) (by decide)]; exact hc.1.1.1
    have hb2 := hc.1.1.2
    have e100 : U 100 b = (nw : Nat) := by rw [sk_row h1 (r := 100) (by decide) (by decide)]; exact hnw.2.1
    obtain ⟨q1, q2, -⟩ := hnw.2.2.2.2.2 l (by omega)
    have hl8 : nw ≤ 8 := hnw.2.2.1
    obtain ⟨U1, f1, f2, f3⟩ := sc_mes (N := N) (X := X) (d := d) (w := w) (k := k) (kind := U0 101 (8 * b + l)) hw hc (show l < nw by omega) q2 q1 n 0 (by omega) U (fr (fun l => fr (brC U0 b nl n hm w l) n) l) h1 (by simpa [fr] using h2) (by have := alllen l; omega)
    rw [← fr_succ (fun l => fr (brC U0 b nl n hm w l) n) l] at f2
    obtain ⟨U', k1, k2, k3⟩ := ih (l + 1) (by omega) U1 f1 f2
    refine ⟨U', M_scans_r13 ?_, k2, k3⟩
    rw [hb, Int.toNat_natCast, e100, ix_eq (k := 8 * b + l) (by omega) (by omega) (by omega) (by omega), Int.toNat_natCast, sk_row h1 (r := 101) (by decide) (by decide)]
    exact ⟨by omega, fun q => absurd q (by omega), fun _ => ⟨by omega, f3 _ k1⟩⟩
end SCAN
set_option maxHeartbeats 400000 in
theorem ct_scans {N : Nat} {X : Nat → Int} {d : Nat} {U : am_U} {b ns nh nl nw nd cl v n : Nat} {hm : Nat → Int} {w k : Int} (hw : w < 16) (hc : mCtx U b ns nh nl nw nd cl v n hm) : ∃ U', EvK N X (M_scans_s0 (d + 6) (v : Nat) w k U) (rI (((brA U b nl nw n hm w).length : Nat) : Int) U') ∧ sk U U' ∧ scn U' k (brA U b nl nw n hm w) := by
  have h1 : sk U (am_upd (am_upd U 86 67 0) 86 64 (-1)) := fun r j a e => by
    by_cases z : r = 86
    · subst z
      have := e rfl
      rw [upd_ne (by omega), upd_ne (by omega)]
    · rw [upd_row z, upd_row z]
  obtain ⟨U', f1, f2, f3⟩ := sc_laws (N := N) (X := X) (d := d) (w := w) (k := k) hw hc nw 0 (by omega) _ h1 ⟨by rw [upd_ne (by decide), upd_at]; rfl, fun i x _ hx => by simp [fr] at hx⟩
  exact ⟨U', M_scans_r0 f1, f2, f3⟩
