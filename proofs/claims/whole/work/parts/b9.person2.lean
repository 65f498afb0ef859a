/-! a person is told: the reference behind the number -/
theorem upd_cgr {B W : am_U} {r r' j : Nat} {x : Int} (h : B r = W r) : am_upd B r' j x r = am_upd W r' j x r := by
  funext i
  unfold am_upd
  by_cases c : r = r' ∧ i = j
  · rw [if_pos c, if_pos c]
  · rw [if_neg c, if_neg c, h]
theorem rW_cg {V W1 W2 : am_U} {b : Nat} (h : rW V W1 b) (hr : ∀ r, 88 ≤ r → r ≤ 110 → W2 r = W1 r) (h3 : W2 3 18 = W1 3 18) (h15 : W2 15 = W1 15) : rW V W2 b := by
  obtain ⟨a1, a2, a3, a4⟩ := h
  exact ⟨a1, fun r q1 q2 => by rw [hr r q1 q2]; exact a2 r q1 q2, by rw [h3]; exact a3, by rw [h3, h15]; exact a4⟩
theorem rW_pp {V W : am_U} {b n : Nat} {v hm : Int} (h : rW V (am_upd (am_upd (am_upd W 98 (16 * b + n) v) 99 (16 * b + n) hm) 97 b ((n + 1 : Nat) : Int)) b) : rW V (ppW W b n v hm) b := by
  refine rW_cg h (fun r q1 q2 => ?_) ?_ ?_
  · unfold ppW
    exact upd_cgr (upd_cgr (upd_cgr (by rw [upd_row (by omega), upd_row (by omega), upd_row (by omega)])))
  · rw [ppW_row (by omega) (by omega), upd_row (by decide), upd_row (by decide), upd_row (by decide)]
  · rw [ppW_row (by omega) (by omega), upd_row (by decide), upd_row (by decide), upd_row (by decide)]
section PR2
variable {N : Nat} {X : Nat → Int} {T : Nat → Int} {L K : Nat} {kk vv : Nat → Int} {bp : Int} {o b ns nh nl nw nd cl n : Nat} {W : am_U}
theorem s342_ok {d : Nat} {Z : am_U} {x1 x2 x3 x4 x5 x6 : Int} (h8 : Z 86 8 = 0) (h40 : Z 86 40 = (b : Nat)) (hb : b < 2) (h97 : Z 97 b = (n : Nat)) (hn : n < 16) : EvK N X (M_numbering_s342 (d + 1) x1 x2 x3 x4 x5 x6 Z) (rV (am_upd Z 97 b ((n + 1 : Nat) : Int))) := by
  refine M_numbering_r342 ⟨fun z => absurd h8 z, fun _ => ?_⟩
  rw [h40, Int.toNat_natCast, h97, w32_succ (i := n) (by omega)]
  exact ⟨by omega, rfl⟩
theorem s342_no {d : Nat} {Z : am_U} {x1 x2 x3 x4 x5 x6 : Int} (h8 : 0 < Z 86 8) : EvK N X (M_numbering_s342 (d + 1) x1 x2 x3 x4 x5 x6 Z) (rV Z) := M_numbering_r342 ⟨fun _ => rfl, fun z => absurd z (by omega)⟩
theorem s323_no {d k : Nat} {Z : am_U} {x2 x3 x4 x5 x6 : Int} (h8 : 0 < Z 86 8) (hk : k < 32) : EvK N X (M_numbering_s323 (d + 1) (k : Nat) x2 x3 x4 x5 x6 Z) (rV (am_upd Z 99 k x6)) := by
  refine M_numbering_r323 ⟨fun _ => ⟨by omega, ?_⟩, fun z => absurd z (by omega)⟩
  rw [Int.toNat_natCast]
  exact s342_no (by rw [upd_row (by decide)]; exact h8)
theorem pers_R (hk : tkS T L K kk vv bp) (hG : gIn W b ns nh nl nw nd cl n) (hn : n < 16) (ho : o ≤ K) (h3 : kk o = 3) {rh v pl x2 : Int} (fh : fdR (W 5) (vv (o + 2)) nh rh) (hx : (x2 = 0 ∧ v = vv o ∧ pl = (plS1 T L o : Nat)) ∨ (x2 = 1 ∧ v = -(vv o))) (d : Nat) (V : am_U) (hr : rT V T L o) (hV : rW V W b) : ∃ V', EvK N X (M_numbering_s112 (d + 4) ((16 * b + n : Nat) : Int) x2 pl V) (rV V') ∧ fY b V V' ∧ (∀ i' W', (ocP T L kk vv bp W b n o v pl rh).1 = some (i', W') → rT V' T L i' ∧ rW V' W' b) ∧ ((ocP T L kk vv bp W b n o v pl rh).1 = none → V' 86 8 = (ocP T L kk vv bp W b n o v pl rh).2.1 ∧ V' 86 9 = (ocP T L kk vv bp W b n o v pl rh).2.2) := by
  obtain ⟨hb, h18, hS, hH, hL, hD, hF, hLw, hWd, hP⟩ := hG
  have hnh := hH.2.2.1
  have bdh := fdR_bd fh
  have iK : o < K := tk_lt hk ho (by omega)
  have hx12 : V 86 12 = -1 := by
    rcases Int.decEq (V 86 12) (-1) with z | z
    · have := (rT_bad hk hr ho z).1; omega
    · exact z
  obtain ⟨e6, v1, v2⟩ := (rT_num hk hr ho hx12).2 h3
  have z8 : V 86 8 = 0 := hr.2.2
  have e97 : V 97 b = (n : Nat) := by rw [hV.2.1 97 (by decide) (by decide)]; exact hP.2.1
  obtain ⟨k, hk'⟩ : ∃ k : Nat, k = 16 * b + n := ⟨_, rfl⟩
  rw [← hk']
  -- to the loop's end
  have goB : ∃ F : Int, (F = 0 ↔ goodN W n v) ∧ ∀ R, EvK N X (M_numbering_s153 (d + 4) (k : Nat) x2 pl v F (n : Nat) V) R → EvK N X (M_numbering_s112 (d + 4) (k : Nat) x2 pl V) R := by
    have st : ∀ f : Int, (f = 0 ∨ f = 1) → (f = 0 ↔ v ≠ 0) → ∃ F : Int, (F = 0 ↔ goodN W n v) ∧ ∀ R, EvK N X (M_numbering_s153 (d + 4) (k : Nat) x2 pl v F (n : Nat) V) R → EvK N X (M_numbering_s153 (d + 4) (k : Nat) x2 pl v f 0 V) R := fun f hf hg => by
      obtain ⟨F, a1, a2, a3⟩ := s153_go (N := N) (X := X) (d := d + 3) (x1 := (k : Nat)) (x2 := x2) (x3 := pl) (v := v) hV.1 hb e97 hP.2.2.1 n 0 (by omega) f hf ⟨fun z => ⟨hg.mp z, fun j hj => absurd hj (Nat.not_lt_zero j)⟩, fun z => hg.mpr z.1⟩
      refine ⟨F, a2.trans ?_, a3⟩
      unfold goodN
      have e : ∀ j, j < n → V 98 (16 * b + j) = W 17 j := fun j hj => by rw [hV.2.1 98 (by decide) (by decide)]; exact (hP.2.2.2.1 j hj).1
      constructor
      · rintro ⟨y1, y2⟩; exact ⟨y1, fun j hj => by rw [← e j hj]; exact y2 j hj⟩
      · rintro ⟨y1, y2⟩; exact ⟨y1, fun j hj => by rw [e j hj]; exact y2 j hj⟩
    by_cases c : v = 0
    · obtain ⟨F, a1, a2⟩ := st 1 (Or.inr rfl) ⟨fun z => absurd z (by decide), fun z => absurd c z⟩
      refine ⟨F, a1, fun R hR => M_numbering_r112 ⟨fun _ => ?_, fun z => absurd z (by omega)⟩⟩
      have a := a2 R hR
      rcases hx with ⟨x0, xv, _⟩ | ⟨x0, xv⟩
      · rw [e6, ← xv]
        exact ⟨fun _ => ⟨fun z => absurd c z, fun _ => a⟩, fun z => absurd x0 z⟩
      · rw [e6, w32_eq (x := -(vv o)) (by omega) (by omega), ← xv]
        exact ⟨fun z => absurd z (by omega), fun _ => ⟨fun z => absurd c z, fun _ => a⟩⟩
    · obtain ⟨F, a1, a2⟩ := st 0 (Or.inl rfl) ⟨fun _ => c, fun _ => rfl⟩
      refine ⟨F, a1, fun R hR => M_numbering_r112 ⟨fun _ => ?_, fun z => absurd z (by omega)⟩⟩
      have a := a2 R hR
      rcases hx with ⟨x0, xv, _⟩ | ⟨x0, xv⟩
      · rw [e6, ← xv]
        exact ⟨fun _ => ⟨fun _ => a, fun z => absurd z c⟩, fun z => absurd x0 z⟩
      · rw [e6, w32_eq (x := -(vv o)) (by omega) (by omega), ← xv]
        exact ⟨fun z => absurd z (by omega), fun _ => ⟨fun _ => a, fun z => absurd z c⟩⟩
  obtain ⟨F, hF0, go⟩ := goB
  unfold ocP
  rcases Classical.em (goodN W n v) with p2 | p2
  · -- a number that can be told
    have F0 := hF0.mpr p2
    obtain ⟨V1, a1, a2, a3⟩ := ct_ahead1 (N := N) (X := X) (d := d + 2) hk hr
    have q1 := rW_A6 hV a2
    obtain ⟨A, hA⟩ : ∃ A, A = am_upd (am_upd V1 98 k v) 99 k (-1) := ⟨_, rfl⟩
    have gA : rT A T L (o + 1) := by rw [hA]; exact rT_row a3 (by rw [upd_row (by decide), upd_row (by decide)]) (by rw [upd_row (by decide), upd_row (by decide)])
    have qA : rW A (am_upd (am_upd W 98 k v) 99 k (-1)) b := by rw [hA]; exact rW_up (rW_up q1 (by decide)) (by decide)
    have jb : ∀ r, r = 98 ∨ r = 99 → wdt r * b ≤ k ∧ k < wdt r * b + wdt r := fun r hr => by
      rcases hr with rfl | rfl
      · show 16 * b ≤ k ∧ k < 16 * b + 16; omega
      · show 16 * b ≤ k ∧ k < 16 * b + 16; omega
    have yA : fY b V A := by rw [hA]; exact fY_up (fY_up (fY_A6 a2) (by decide) (jb 98 (by omega))) (by decide) (jb 99 (by omega))
    have A97 : ∀ Z : am_U, rW Z (am_upd (am_upd W 98 k v) 99 k (-1)) b → Z 97 b = (n : Nat) := fun Z hZ => by
      rw [hZ.2.1 97 (by decide) (by decide), upd_row (by decide), upd_row (by decide)]; exact hP.2.1
    have j1 : wdt 97 * b ≤ b ∧ b < wdt 97 * b + wdt 97 := by show 1 * b ≤ b ∧ b < 1 * b + 1; omega
    have h12 : A 86 12 = V1 86 12 := by rw [hA, upd_row (by decide), upd_row (by decide)]
    rcases Classical.em (isInW kk vv (o + 1)) with p3 | p3
    · have iK1 : o + 1 < K := tk_lt hk (by omega) (by have := p3.1; omega)
      have x12 : V1 86 12 = -1 := by
        rcases Int.decEq (V1 86 12) (-1) with z | z
        · have := (rT_bad hk a3 (by omega) z).1
          have := p3.1
          omega
        · exact z
      have iw := ct_isWord1 (N := N) (X := X) (d := d + 3) hk gA (by omega) (by rw [h12]; exact x12) 6 (by decide)
      rw [b2i_t (show kk (o + 1) = 1 ∧ vv (o + 1) = ((6 : Nat) : Int) from p3)] at iw
      obtain ⟨V3, c1, c2, c3⟩ := ct_ahead1 (N := N) (X := X) (d := d + 2) hk gA
      have q3 := rW_A6 qA c2
      have y3 : fY b V V3 := fY_trans yA (fY_A6 c2)
      have hH2 : gHs (am_upd (am_upd W 98 k v) 99 k (-1)) b ns nh nl := gHs_k hH (Nat.le_refl _) (by rw [upd_row (by decide), upd_row (by decide)]) (fun r hr => by rw [upd_row (by omega), upd_row (by omega)])
      have fh2 : fdR ((am_upd (am_upd W 98 k v) 99 k (-1)) 5) (vv (o + 2)) nh rh := by rw [upd_row (by decide), upd_row (by decide)]; exact fh
      obtain ⟨sA, sB⟩ := ct_looked (N := N) (X := X) (d := d + 1) (q := 1) (r := rh) hk (by omega) c3 (fun h V9 hV9 => by rw [hV9]; exact fdM1 q3 hb hH2 (wn_ok hk (by omega) h) fh2)
      rw [show o + 1 + 1 = o + 2 from rfl] at sA sB
      have run : ∀ R, (∃ (r4 : Int) (U4 : am_U), EvK N X (M_looked_s0 (d + 3) 1 V3) (rI r4 U4) ∧ (((U4 86 8) ≠ 0) → EvK N X (M_numbering_s323 (d + 4) (k : Nat) x2 pl v F r4 U4) R) ∧ (((U4 86 8) = 0) → ∃ (r5 : Int) (U5 : am_U), EvK N X (M_livingTold_s0 (d + 3) r4 U4) (rI r5 U5) ∧ (0 ≤ (w32 ((w32 (12 * (U5 86 40))) + r4)) ∧ (w32 ((w32 (12 * (U5 86 40))) + r4)) < 24) ∧ ((r5 ≠ (U5 93 ((w32 ((w32 (12 * (U5 86 40))) + r4)).toNat))) → EvK N X (M_numbering_s323 (d + 4) (k : Nat) x2 pl v F r4 U5) R) ∧ ((r5 = (U5 93 ((w32 ((w32 (12 * (U5 86 40))) + r4)).toNat))) → ∃ U6 : am_U, EvK N X (M_blame_s0 (d + 3) 3 (U5 86 4) U5) (rV U6) ∧ EvK N X (M_numbering_s323 (d + 4) (k : Nat) x2 pl v F r4 U6) R))) → EvK N X (M_numbering_s112 (d + 4) (k : Nat) x2 pl V) R := fun R hR => by
        refine go R (M_numbering_r153 ?_)
        rw [hV.1, Int.toNat_natCast, e97]
        refine ⟨by omega, fun _ => ⟨fun _ => ⟨fun _ => ⟨V1, a1, by omega, fun z => absurd x12 z, fun _ => ?_⟩, fun z => absurd z (by omega)⟩, fun z => absurd F0 z⟩, fun z => absurd z (by omega)⟩
        rw [Int.toNat_natCast, ← hA]
        exact ⟨1, A, iw, fun z => absurd z (by decide), fun _ => ⟨V3, c1, hR⟩⟩
      rcases Classical.em (kk (o + 2) = 2 ∧ rh ≠ -1) with p4 | p4
      · have lk := sA p4
        clear sA sB
        have k2 := p4.1
        have py := bdh.2.2 p4.2
        obtain ⟨h, hh⟩ : ∃ h : Nat, h = rh.toNat := ⟨_, rfl⟩
        have eh : rh = ((h : Nat) : Int) := by omega
        have lt := ct_livingTold (N := N) (X := X) (d := d + 3) (V := V3) q3.1 hb (A97 V3 q3) hP.2.2.1 rh
        have el : fb_ct (fun p => V3 99 (16 * b + p) == rh) n = lvg W n h := by
          unfold lvg
          refine fb_ct_cong (fun p hp => ?_)
          rw [q3.2.1 99 (by decide) (by decide), upd_ne (by omega), upd_row (by decide), (hP.2.2.2.1 p hp).2, eh]
        rw [el] at lt
        have x0 : eqI (w32 (w32 (12 * ((b : Nat) : Int)) + rh)) ((12 * b + h : Nat) : Int) := by show _ = _; rw [w32_eq (x := 12 * ((b : Nat) : Int)) (by omega) (by omega), w32_eq (by omega) (by omega)]; omega
        have e93 : V3 93 (12 * b + h) = W 8 h := by
          rw [q3.2.1 93 (by decide) (by decide), upd_row (by decide), upd_row (by decide)]
          exact (hH.2.2.2 h (by omega)).2.2.1.1
        have le : ((lvg W n h : Nat) : Int) ≤ W 8 h := hP.2.2.2.2.1.2.2 h (by omega)
        have z83 : V3 86 8 = 0 := c3.2.2
        have x123 : V3 86 12 = -1 := (wn_V hk c3 (by omega) k2).2.2.1
        by_cases c : ((lvg W n h : Nat) : Int) = W 8 h
        · obtain ⟨V9, f1, f2, f3, f4⟩ := blame_at (N := N) (X := X) (d := d + 3) hk c3 (by omega) x123 3
          refine ⟨am_upd V9 99 k rh, run _ ⟨rh, V3, lk, fun z => absurd z83 z, fun _ => ⟨_, V3, lt, ?_⟩⟩, fY_up (fY_trans y3 (fY_89 f2)) (by decide) (jb 99 (by omega)), ?_⟩
          · rw [q3.1, eqI_o x0, Int.toNat_natCast, e93]
            exact ⟨by omega, fun z => absurd c z, fun _ => ⟨V9, f1, s323_no (by omega) (by omega)⟩⟩
          · rw [oc_t h3, oc_t p2, if_pos p3, oc_f (show ¬ roomP kk W n (o + 2) rh from fun z => by have := z.2.2; rw [← hh] at this; omega), if_pos k2, upd_row (by decide)]
            exact ⟨(fun i' W2 e => by cases e), fun _ => ⟨f3, f4⟩⟩
        · obtain ⟨V4, m1, m2, m3⟩ := ct_ahead1 (N := N) (X := X) (d := d + 2) hk c3
          have q4 := rW_A6 q3 m2
          have y4 : fY b V V4 := fY_trans y3 (fY_A6 m2)
          refine ⟨am_upd (am_upd V4 99 k rh) 97 b ((n + 1 : Nat) : Int), run _ ⟨rh, V3, lk, fun z => absurd z83 z, fun _ => ⟨_, V3, lt, ?_⟩⟩, fY_up (fY_up y4 (by decide) (jb 99 (by omega))) (by decide) j1, ?_⟩
          · rw [q3.1, eqI_o x0, Int.toNat_natCast, e93]
            refine ⟨by omega, fun _ => M_numbering_r323 ⟨fun z => absurd z83 z, fun _ => ⟨V4, m1, by omega, ?_⟩⟩, fun z => absurd z c⟩
            rw [Int.toNat_natCast]
            exact s342_ok (by rw [upd_row (by decide)]; exact m3.2.2) (by rw [upd_row (by decide)]; exact q4.1) hb (by rw [upd_row (by decide)]; exact A97 V4 q4) hn
          · rw [oc_t h3, oc_t p2, if_pos p3, oc_t (show roomP kk W n (o + 2) rh from ⟨k2, p4.2, by rw [← hh]; omega⟩)]
            refine ⟨fun i' W2 e => ?_, (fun e => by cases e)⟩
            obtain ⟨rfl, rfl⟩ : o + 3 = i' ∧ ppW W b n v rh = W2 := by simpa using e
            refine ⟨rT_row m3 (by rw [upd_row (by decide), upd_row (by decide)]) (by rw [upd_row (by decide), upd_row (by decide)]), rW_pp ?_⟩
            have t1 := rW_up (r := 97) (j := b) (x := ((n + 1 : Nat) : Int)) (rW_up (r := 99) (j := k) (x := rh) q4 (by decide)) (by decide)
            rw [upd_2, hk'] at t1
            rw [hk']; exact t1
      · obtain ⟨V4, m1, m2, m3, m4⟩ := sB p4
        clear sA sB
        have p : 0 < V4 86 8 := by rw [m3]; split <;> decide
        refine ⟨am_upd V4 99 k 0, run _ ⟨0, V4, m1, fun _ => s323_no p (by omega), fun z => absurd z (by omega)⟩, fY_up (fY_trans y3 (fY_89 m2)) (by decide) (jb 99 (by omega)), ?_⟩
        rw [oc_t h3, oc_t p2, if_pos p3, oc_f (show ¬ roomP kk W n (o + 2) rh from fun z => p4 ⟨z.1, z.2.1⟩), upd_row (by decide)]
        exact ⟨(fun i' W2 e => by cases e), fun _ => ⟨m3, m4⟩⟩
    · have en := s342_ok (N := N) (X := X) (d := d + 3) (Z := A) (x1 := (k : Nat)) (x2 := x2) (x3 := pl) (x4 := v) (x5 := F) (x6 := (n : Nat)) gA.2.2 qA.1 hb (A97 A qA) hn
      refine ⟨am_upd A 97 b ((n + 1 : Nat) : Int), go _ (M_numbering_r153 ?_), fY_up yA (by decide) j1, ?_⟩
      · rw [hV.1, Int.toNat_natCast, e97]
        refine ⟨by omega, fun _ => ⟨fun _ => ⟨fun _ => ⟨V1, a1, by omega, ?_⟩, fun z => absurd z (by omega)⟩, fun z => absurd F0 z⟩, fun z => absurd z (by omega)⟩
        rw [Int.toNat_natCast, ← hA]
        refine ⟨fun _ => en, fun z => ⟨0, A, ?_, fun _ => en, fun z2 => absurd rfl z2⟩⟩
        have iw := ct_isWord1 (N := N) (X := X) (d := d + 3) hk gA (by omega) (by rw [h12]; exact z) 6 (by decide)
        rw [b2i_f (show ¬ (kk (o + 1) = 1 ∧ vv (o + 1) = ((6 : Nat) : Int)) from p3)] at iw
        exact iw
      · rw [oc_t h3, oc_t p2, if_neg p3]
        refine ⟨fun i' W2 e => ?_, (fun e => by cases e)⟩
        obtain ⟨rfl, rfl⟩ : o + 1 = i' ∧ ppW W b n v (-1) = W2 := by simpa using e
        refine ⟨rT_row gA (upd_row (by decide)) (upd_row (by decide)), rW_pp ?_⟩
        rw [← hk']
        exact rW_up qA (by decide)
  · -- one that can't
    have F1 : F ≠ 0 := fun z => p2 (hF0.mp z)
    obtain ⟨V9, f1, f2, f3, f4⟩ : ∃ V9, EvK N X (M_blame_s0 (d + 3) 4 pl V) (rV V9) ∧ f89 V V9 ∧ V9 86 8 = 4 ∧ V9 86 9 = pl := ⟨_, ct_blame1 z8 4 pl, f89_blame _ _ _, by rw [upd_ne (by decide), upd_at], upd_at _ _ _ _⟩
    refine ⟨V9, go _ (M_numbering_r153 ?_), fY_89 f2, ?_⟩
    · rw [hV.1, Int.toNat_natCast, e97]
      refine ⟨by omega, fun _ => ⟨fun z => absurd z F1, fun _ => ?_⟩, fun z => absurd z (by omega)⟩
      rcases hx with ⟨x0, xv, xp⟩ | ⟨x0, xv⟩
      · rw [rT_pl hr, ← xp]
        exact ⟨fun _ => ⟨V9, f1, fun z => absurd z (by omega), fun _ => rfl⟩, fun z => absurd x0 z⟩
      · exact ⟨fun z => absurd z (by omega), fun _ => ⟨V9, f1, fun z => absurd z (by omega), fun _ => rfl⟩⟩
    · rw [oc_t h3, oc_f p2]
      exact ⟨(fun i' W2 e => by cases e), fun _ => ⟨f3, f4⟩⟩
end PR2
