/-! the reference asks a whole test -/
def cdOk (code : Nat → Int) (U : am_U) (b n : Nat) : Prop := ∀ i, i < n → U 111 (1600 * b + i) = srt (code i) ∧ (0 ≤ code i → U 112 (1600 * b + i) = code i)
theorem envM_cg {U U' : am_U} (h123 : U' 123 = U 123) (h124 : U' 124 = U 124) (h92 : U' 92 = U 92) (h93 : U' 93 = U 93) (b v n me : Nat) (ot : Int) : envM U' b v n me ot = envM U b v n me ot := by
  funext c; unfold envM; rw [h123, h124, h92, h93]
theorem ct_M_answers_l {N : Nat} {X : Nat → Int} {d : Nat} {U0 : am_U} {code : Nat → Int} {x1 ot : Int} {b v n me f l : Nat} (hw : wfT code f l) (hcd : cdOk code U0 b (f + l)) (he : ∀ c, isAsk c → vOk false (envM U0 b v n me ot c)) (hA : mAsk U0 b v n me ot) (hf : f + l ≤ 1600) : ∀ m k, k + m = l → ∀ (U : am_U) t, (∀ r, r ≠ 125 → U r = U0 r) → mst U (run (envM U0 b v n me ot) code f k) → tyr code f k = some t → ∃ U', EvK N X (M_answers_s14 (d + 3) x1 ((f + l : Nat) : Int) ((run (envM U0 b v n me ot) code f k).length : Nat) ((1600 * b + (f + k) : Nat) : Int) U) (rI (holdsT (envM U0 b v n me ot) code f l) U') ∧ ∀ r, r ≠ 125 → U' r = U0 r := by
  intro m
  induction m with
  | zero =>
    intro k hk U t h1 h2 h3
    obtain rfl : k = l := by omega
    have hb : U 86 13 = (b : Nat) := by rw [h1 86 (by decide)]; exact hA.1
    have eto := an_to (U := U) (b := b) (to := f + k) hb hA.2.1 hf
    refine ⟨U, M_answers_r14 ⟨fun _ => ?_, fun h => ?_⟩, h1⟩
    · rcases wf_end he hw with q | q
      · rw [q] at h2
        have := mst_top h2
        simp only [List.length_nil] at this
        rw [this]
        refine ⟨fun _ => ?_, fun h => by simp at h⟩
        unfold holdsT
        rw [cb_f (by rw [q]; simp)]
      · rw [q] at h2
        have := mst_top h2
        simp only [List.length_nil] at this
        rw [this]
        refine ⟨fun h => by simp at h, fun _ => ?_⟩
        unfold holdsT
        rw [cb_t q]
    · rw [eto] at h; omega
  | succ m ih =>
    intro k hk U t h1 h2 h3
    obtain ⟨t2, e2⟩ := tyr_le hw (k + 1) (by omega)
    obtain ⟨t1, e3, e4, e5⟩ := tyr_succ e2
    rw [h3] at e3
    cases e3
    have hA' : mAsk U b v n me ot := by
      unfold mAsk at hA ⊢
      rw [h1 86 (by decide), h1 122 (by decide), h1 124 (by decide)]; exact hA
    have hev : envM U b v n me ot = envM U0 b v n me ot := envM_cg (h1 123 (by decide)) (h1 124 (by decide)) (h1 92 (by decide)) (h1 93 (by decide)) b v n me ot
    obtain ⟨c1, c2⟩ := hcd (f + k) (by omega)
    obtain ⟨U1, q1, q2, q3⟩ := answers_step (N := N) (X := X) (d := d) (U := U) (x1 := x1) (ot := ot) (b := b) (v := v) (n := n) (me := me) (i := f + k) (to := f + l) (c := code (f + k)) h2 (by rw [h1 111 (by decide)]; exact c1) (by rw [h1 112 (by decide)]; exact c2) e4 (run_ok he h3) (tyr_len h3) (by omega) hf hA'
    rw [hev] at q1 q3
    obtain ⟨U2, q4, q5⟩ := ih (k + 1) (by omega) U1 t2 (fun r hr => by rw [q2 r hr, h1 r hr]) q1 e2
    exact ⟨U2, q3 _ q4, q5⟩
/-- what asking writes -/
def mk (U U' : am_U) : Prop := ∀ r j, r ≠ 125 → (r = 86 → j ≠ 61 ∧ j ≠ 62 ∧ j ≠ 63) → U' r j = U r j
theorem mk_refl (U : am_U) : mk U U := fun _ _ _ _ => rfl
theorem mk_trans {U U1 U2 : am_U} (h1 : mk U U1) (h2 : mk U1 U2) : mk U U2 := fun r j a b => by rw [h2 r j a b, h1 r j a b]
theorem mk_row {U U' : am_U} (h : mk U U') {r : Nat} (h1 : r ≠ 125) (h2 : r ≠ 86) : U' r = U r := funext fun j => h r j h1 (fun e => absurd e h2)
theorem ct_M_asks {N : Nat} {X : Nat → Int} {d : Nat} {U : am_U} {code : Nat → Int} {ot : Int} {b v n me f l : Nat} (hw : wfT code f l) (hcd : cdOk code U b (f + l)) (he : ∀ c, isAsk c → vOk false (envM U b v n me ot c)) (hf : f + l ≤ 1600) (hb : U 86 13 = (b : Nat)) (hb2 : b < 2) (hv : v < 22) (hm : me < 16) (hn : U 122 v = (n : Nat)) (hn2 : n ≤ 16) (hh : -1 ≤ U 124 (16 * v + me) ∧ U 124 (16 * v + me) < 12) : ∃ U', EvK N X (M_asks_s0 (d + 4) (v : Nat) (me : Nat) ot (f : Nat) ((f + l : Nat) : Int) U) (rI (holdsT (envM U b v n me ot) code f l) U') ∧ mk U U' := by
  have hr : ∀ r, r ≠ 86 → (am_upd (am_upd (am_upd U 86 61 (v : Nat)) 86 62 (me : Nat)) 86 63 ot) r = U r := fun r h => by rw [upd_row h, upd_row h, upd_row h]
  have hev : envM (am_upd (am_upd (am_upd U 86 61 (v : Nat)) 86 62 (me : Nat)) 86 63 ot) b v n me ot = envM U b v n me ot := envM_cg (hr 123 (by decide)) (hr 124 (by decide)) (hr 92 (by decide)) (hr 93 (by decide)) b v n me ot
  have hA : mAsk (am_upd (am_upd (am_upd U 86 61 (v : Nat)) 86 62 (me : Nat)) 86 63 ot) b v n me ot := by
    refine ⟨?_, hb2, ?_, ?_, ?_, hv, hm, ?_, hn2, ?_⟩
    · rw [upd_ne (by decide), upd_ne (by decide), upd_ne (by decide)]; exact hb
    · rw [upd_ne (by decide), upd_ne (by decide), upd_at]
    · rw [upd_ne (by decide), upd_at]
    · rw [upd_at]
    · rw [hr 122 (by decide)]; exact hn
    · rw [hr 124 (by decide)]; exact hh
  obtain ⟨U', g1, g2⟩ := ct_M_answers_l (N := N) (X := X) (d := d) (U0 := am_upd (am_upd (am_upd U 86 61 (v : Nat)) 86 62 (me : Nat)) 86 63 ot) (x1 := (f : Nat)) hw (by
    intro i hi; rw [hr 111 (by decide), hr 112 (by decide)]; exact hcd i hi) (by rw [hev]; exact he) hA hf l 0 (by omega) _ [] (fun r _ => rfl) (fun i z hz => by simp [run] at hz) rfl
  rw [hev] at g1
  refine ⟨U', M_asks_r0 ⟨_, _, M_answers_r0 ?_, ?_, rfl⟩, fun r j h1 h2 => ?_⟩
  · have : w32 (w32 (1600 * (am_upd (am_upd (am_upd U 86 61 (v : Nat)) 86 62 (me : Nat)) 86 63 ot) 86 13) + (f : Nat)) = ((1600 * b + f : Nat) : Int) := an_to hA.1 hb2 (by omega)
    rw [this]
    exact g1
  · exact cb_01 _
  · rw [g2 r h1]
    by_cases e : r = 86
    · subst e
      obtain ⟨a1, a2, a3⟩ := h2 rfl
      rw [upd_ne a3, upd_ne a2, upd_ne a1]
    · rw [hr r e]
theorem ct_M_lawHolds {N : Nat} {X : Nat → Int} {d : Nat} {U : am_U} {code : Nat → Int} {ot : Int} {b v n me f l k : Nat} (hk : k < 8) (h102 : U 102 (8 * b + k) = (f : Nat)) (h103 : U 103 (8 * b + k) = ((f + l : Nat) : Int)) (hw : wfT code f l) (hcd : cdOk code U b (f + l)) (he : ∀ c, isAsk c → vOk false (envM U b v n me ot c)) (hf : f + l ≤ 1600) (hb : U 86 13 = (b : Nat)) (hb2 : b < 2) (hv : v < 22) (hm : me < 16) (hn : U 122 v = (n : Nat)) (hn2 : n ≤ 16) (hh : -1 ≤ U 124 (16 * v + me) ∧ U 124 (16 * v + me) < 12) : ∃ U', EvK N X (M_lawHolds_s0 (d + 5) (v : Nat) (k : Nat) (me : Nat) ot U) (rI (holdsT (envM U b v n me ot) code f l) U') ∧ mk U U' := by
  obtain ⟨U', g1, g2⟩ := ct_M_asks (N := N) (X := X) (d := d) hw hcd he hf hb hb2 hv hm hn hn2 hh
  refine ⟨U', M_lawHolds_r0 ?_, g2⟩
  rw [hb, ix_eq (k := 8 * b + k) (by omega) (by omega) (by omega) (by omega), Int.toNat_natCast, h102, h103]
  exact ⟨by omega, _, _, g1, cb_01 _, rfl⟩
