/-! an image comes on: the class's whole reading, the reference's -/
theorem ct_check_2 {N : Nat} {X : Nat → Int} {d L : Nat} {U : am_U} {B : Nat → Int} (hL : L ≤ 1600) (h1 : ∀ j, j < L → U 2 j = B j) (h2 : ∀ j, j < L → 0 ≤ B j ∧ B j ≤ 255) : ∀ m i : Nat, i + m = L → EvK N X (Fk_checkOf_2_s5 d (L : Nat) (ck B i) (i : Nat) U) (rI (ck B L) U) := by
  intro m
  induction m with
  | zero =>
    intro i hi
    obtain rfl : i = L := by omega
    exact Fk_checkOf_2_r5 ⟨fun _ => rfl, fun z => absurd z (by omega)⟩
  | succ m ih =>
    intro i hi
    have b := ck_in (B := B) i (fun j hj => h2 j (by omega))
    have b2 := h2 i (by omega)
    have nx := ih (i + 1) (by omega)
    refine Fk_checkOf_2_r5 ⟨fun z => absurd z (by omega), fun _ => ⟨fun z => absurd z (by omega), fun _ => ⟨by omega, ?_⟩⟩⟩
    rw [Int.toNat_natCast, h1 i (by omega), w32_eq (x := 5 * ck B i) (by omega) (by omega), w32_eq (x := 5 * ck B i + B i) (by omega) (by omega), w32_succ (i := i) (by omega)]
    exact nx
def onOk (T : Nat → Int) (L n : Nat) (rm : Nat → Int) (nh : Nat) : Prop := onHd T L n ∧ pplOk (onN T) (onH T) rm n nh
def rfA (N : Nat) (X : Nat → Int) (d : Nat) (x2 : Int) (U1 : am_U) (Y ni : Int) (R : Option am_V × am_M) : Prop := ((9999 < Y) → R = rI 0 (am_upd (am_upd U1 21 1 Y) 21 2 ni)) ∧ ((Y ≤ 9999) → ((1 < (U1 2 2)) → R = rI 0 (am_upd (am_upd U1 21 1 Y) 21 2 ni)) ∧ (((U1 2 2) ≤ 1) → (0 ≤ (w32 (x2 - 1)) ∧ (w32 (x2 - 1)) < 1600) ∧ ∃ (r2 : Int) (U2 : am_U), EvK N X (Fk_checkOf_2_s0 d (w32 (x2 - 1)) (am_upd (am_upd U1 21 1 Y) 21 2 ni)) (rI r2 U2) ∧ (((U1 2 ((w32 (x2 - 1)).toNat)) = r2) → EvK N X (Fk_readFrom_s104 (d + 1) x2 4 U2) R) ∧ (((U1 2 ((w32 (x2 - 1)).toNat)) ≠ r2) → R = rI 0 U2)))
theorem ct_readFrom {N : Nat} {X : Nat → Int} {d L nh : Nat} {U : am_U} {T : Nat → Int} (hT : U 2 = T) (hTb : ∀ j, j < 1600 → 0 ≤ T j ∧ T j ≤ 255) (hL : L ≤ 1600) (h31 : U 3 1 = (nh : Nat)) (hnh : nh ≤ 12) (hrm : ∀ g, g < nh → 0 ≤ U 8 g) : ∃ r U', EvK N X (Fk_readFrom_s0 (d + 3) (L : Nat) U) (rI r U') ∧ fr21 U U' ∧ ((r = 1 ∧ ∃ n, onOk T L n (U 8) nh ∧ spR U' T n) ∨ (r = 0 ∧ ¬ ∃ n, onOk T L n (U 8) nh)) := by
  obtain ⟨U1, c1, c2, c3, c4, c5, c6⟩ := ct_clear_21 (N := N) (X := X) (d := d + 1) (U := U)
  have fr1 : fr21 U U1 := fun r q => c6 r (by omega) (by omega)
  have u2 : U1 2 = T := by rw [fr1 2 (by decide)]; exact hT
  obtain ⟨n, hn⟩ : ∃ n : Nat, T 3 = n := ⟨(T 3).toNat, by have := hTb 3 (by decide); omega⟩
  have b0 := hTb 0 (by decide)
  have b1 := hTb 1 (by decide)
  have b2 := hTb 2 (by decide)
  have b3 := hTb 3 (by decide)
  have eY : w32 (w32 (256 * T 0) + T 1) = 256 * T 0 + T 1 := by rw [w32_eq (x := 256 * T 0) (by omega) (by omega), w32_eq (by omega) (by omega)]
  have eL : w32 (5 + w32 (5 * ((n : Nat) : Int))) = ((5 + 5 * n : Nat) : Int) := by rw [w32_eq (x := 5 * ((n : Nat) : Int)) (by omega) (by omega), w32_eq (by omega) (by omega)]; omega
  by_cases h1 : n ≤ 16 ∧ L = 5 + 5 * n
  · obtain ⟨h16, rfl⟩ := h1
    have e1 : w32 (((5 + 5 * n : Nat) : Int) - 1) = ((4 + 5 * n : Nat) : Int) := by clear eY eL; rw [w32_eq (by omega) (by omega)]; omega
    have hA : ∀ ni : Int, (T 2 ≤ 1 → ni = T 2) → ∃ r U', rfA N X (d + 2) ((5 + 5 * n : Nat) : Int) U1 (256 * T 0 + T 1) ni (rI r U') ∧ fr21 U U' ∧ ((r = 1 ∧ ∃ n', onOk T (5 + 5 * n) n' (U 8) nh ∧ spR U' T n') ∨ (r = 0 ∧ ¬ ∃ n', onOk T (5 + 5 * n) n' (U 8) nh)) := by
      intro ni hni
      have frS : fr21 U (am_upd (am_upd U1 21 1 (256 * T 0 + T 1)) 21 2 ni) := fun r q => by rw [upd_row (by omega), upd_row (by omega)]; exact fr1 r q
      have e4 : ∀ n', onHd T (5 + 5 * n) n' → n' = n := fun n' h => by have := h.2.2.1; omega
      unfold rfA
      rw [e1, Int.toNat_natCast, u2]
      clear eY eL e1
      by_cases y1 : 256 * T 0 + T 1 ≤ 9999
      · by_cases y2 : T 2 ≤ 1
        · have ckr := Fk_checkOf_2_r0 (ct_check_2 (N := N) (X := X) (d := d + 2) (L := 4 + 5 * n) (U := am_upd (am_upd U1 21 1 (256 * T 0 + T 1)) 21 2 ni) (B := T) (by omega) (fun j _ => by rw [upd_row (by decide), upd_row (by decide), u2]) (fun j hj => hTb j (by omega)) (4 + 5 * n) 0 (by omega))
          by_cases y3 : T (4 + 5 * n) = ck T (4 + 5 * n)
          · obtain ⟨r', U', k1, k2, k3⟩ := ct_read_l (N := N) (X := X) (d := d) (n := n) (U0 := U) hT hTb h31 hnh h16 n 0 (by omega) (am_upd (am_upd U1 21 1 (256 * T 0 + T 1)) 21 2 ni) frS ⟨by rw [upd_ne (by decide), upd_ne (by decide)]; exact c2, ⟨by rw [upd_ne (by decide), upd_at], by rw [upd_at]; exact hni y2⟩, fun q hq => absurd hq (Nat.not_lt_zero q), by rw [upd_row (by decide), upd_row (by decide), upd_row (by decide), upd_row (by decide)]; exact c5⟩ (pplOk_0 hrm)
            refine ⟨r', U', ⟨fun z => absurd z (by omega), fun _ => ⟨fun z => absurd z (by omega), fun _ => ⟨by omega, _, _, ckr, fun _ => k1, fun z => absurd y3 z⟩⟩⟩, k2, ?_⟩
            rcases k3 with ⟨q1, q2, q3⟩ | ⟨q1, q2⟩
            · exact Or.inl ⟨q1, n, ⟨⟨hn, h16, rfl, y1, y2, y3⟩, q2⟩, q3⟩
            · refine Or.inr ⟨q1, fun ⟨n', o1, o2⟩ => q2 ?_⟩
              rw [e4 n' o1] at o2; exact o2
          · refine ⟨0, _, ⟨fun z => absurd z (by omega), fun _ => ⟨fun z => absurd z (by omega), fun _ => ⟨by omega, _, _, ckr, fun z => absurd z y3, fun _ => rfl⟩⟩⟩, frS, Or.inr ⟨rfl, fun ⟨n', o1, o2⟩ => y3 ?_⟩⟩
            have := o1.2.2.2.2.2
            rw [e4 n' o1] at this; exact this
        · exact ⟨0, _, ⟨fun z => absurd z (by omega), fun _ => ⟨fun _ => rfl, fun z => absurd z y2⟩⟩, frS, Or.inr ⟨rfl, fun ⟨n', o1, o2⟩ => y2 o1.2.2.2.2.1⟩⟩
      · exact ⟨0, _, ⟨fun _ => rfl, fun z => absurd z y1⟩, frS, Or.inr ⟨rfl, fun ⟨n', o1, o2⟩ => y1 o1.2.2.2.1⟩⟩
    by_cases c : T 2 = 1
    · obtain ⟨r, U', a1, a2⟩ := hA 1 (fun _ => c.symm)
      refine ⟨r, U', Fk_readFrom_r0 ⟨U1, c1, ?_⟩, a2⟩
      unfold rfA at a1
      rw [u2] at a1
      rw [u2, eY, hn, eL]
      clear eY eL e1 hA
      exact ⟨fun z => absurd z (by omega), fun _ => ⟨fun z => absurd z (by omega), fun _ => ⟨fun z => absurd z (by omega), fun _ => ⟨fun _ => ⟨fun z => absurd c z, fun _ => a1⟩, fun z => absurd rfl z⟩⟩⟩⟩
    · obtain ⟨r, U', a1, a2⟩ := hA 0 (fun z => by omega)
      refine ⟨r, U', Fk_readFrom_r0 ⟨U1, c1, ?_⟩, a2⟩
      unfold rfA at a1
      rw [u2] at a1
      rw [u2, eY, hn, eL]
      clear eY eL e1 hA
      exact ⟨fun z => absurd z (by omega), fun _ => ⟨fun z => absurd z (by omega), fun _ => ⟨fun z => absurd z (by omega), fun _ => ⟨fun _ => ⟨fun _ => a1, fun z => absurd z c⟩, fun z => absurd rfl z⟩⟩⟩⟩
  · refine ⟨0, U1, Fk_readFrom_r0 ⟨U1, c1, ?_⟩, fr1, Or.inr ⟨rfl, fun ⟨n', o1, o2⟩ => h1 ?_⟩⟩
    · rw [u2, hn, eL]
      clear eY eL
      exact ⟨fun _ => rfl, fun _ => ⟨fun _ => rfl, fun _ => ⟨fun _ => rfl, fun z => ⟨fun z2 => absurd h1 (by omega), fun _ => rfl⟩⟩⟩⟩
    · obtain ⟨p1, p2, p3, -⟩ := o1
      clear eY eL
      omega
/-! the reference -/
theorem ct_areRooms {N : Nat} {X : Nat → Int} {d v b n nh : Nat} {U : am_U} (hv : v < 22) (hb : U 86 13 = (b : Nat)) (hb2 : b < 2) (hn : U 122 v = (n : Nat)) (hn2 : n ≤ 16) (h90 : U 90 b = (nh : Nat)) (hnh : nh ≤ 12) : ∃ r, EvK N X (M_areRooms_s0 (d + 2) (v : Nat) U) (rI r U) ∧ ((r = 1 ∧ ∀ g, g < nh → ((fb_ct (fun p => U 124 (16 * v + p) == ((g : Nat) : Int)) n : Nat) : Int) ≤ U 93 (12 * b + g)) ∨ (r = 0 ∧ ¬ ∀ g, g < nh → ((fb_ct (fun p => U 124 (16 * v + p) == ((g : Nat) : Int)) n : Nat) : Int) ≤ U 93 (12 * b + g))) := by
  have loop : ∀ m g : Nat, g + m = nh → (∀ k, k < g → ((fb_ct (fun p => U 124 (16 * v + p) == ((k : Nat) : Int)) n : Nat) : Int) ≤ U 93 (12 * b + k)) → ∃ r, EvK N X (M_areRooms_s2 (d + 2) (v : Nat) (g : Nat) U) (rI r U) ∧ ((r = 1 ∧ ∀ g, g < nh → ((fb_ct (fun p => U 124 (16 * v + p) == ((g : Nat) : Int)) n : Nat) : Int) ≤ U 93 (12 * b + g)) ∨ (r = 0 ∧ ¬ ∀ g, g < nh → ((fb_ct (fun p => U 124 (16 * v + p) == ((g : Nat) : Int)) n : Nat) : Int) ≤ U 93 (12 * b + g))) := by
    intro m
    induction m with
    | zero =>
      intro g hg h
      obtain rfl : g = nh := by omega
      refine ⟨1, M_areRooms_r2 ?_, Or.inl ⟨rfl, h⟩⟩
      rw [hb, Int.toNat_natCast, h90]
      exact ⟨by omega, fun _ => rfl, fun z => absurd z (by omega)⟩
    | succ m ih =>
      intro g hg h
      have lv := ct_M_living (N := N) (X := X) (d := d) (U := U) v (g : Nat) hv hn hn2
      have rm := ct_M_roomsOf (N := N) (X := X) (d := d + 1) (U := U) g hb hb2 (by omega)
      by_cases c : ((fb_ct (fun p => U 124 (16 * v + p) == ((g : Nat) : Int)) n : Nat) : Int) ≤ U 93 (12 * b + g)
      · obtain ⟨r, k1, k2⟩ := ih (g + 1) (by omega) (fun k hk => by
          by_cases e : k = g
          · rw [e]; exact c
          · exact h k (by omega))
        refine ⟨r, M_areRooms_r2 ?_, k2⟩
        rw [hb, Int.toNat_natCast, h90]
        refine ⟨by omega, fun z => absurd z (by omega), fun _ => ⟨_, _, lv, _, _, rm, fun _ => ?_, fun z => absurd z (by omega)⟩⟩
        rw [w32_succ (i := g) (by omega)]; exact k1
      · refine ⟨0, M_areRooms_r2 ?_, Or.inr ⟨rfl, fun o => c (o g (by omega))⟩⟩
        rw [hb, Int.toNat_natCast, h90]
        exact ⟨by omega, fun z => absurd z (by omega), fun _ => ⟨_, _, lv, _, _, rm, fun z => absurd z c, fun _ => rfl⟩⟩
  obtain ⟨r, k1, k2⟩ := loop nh 0 (by omega) (fun k hk => absurd hk (Nat.not_lt_zero k))
  exact ⟨r, M_areRooms_r0 k1, k2⟩
/-- nothing but what is tried has changed -/
def frT (U U' : am_U) : Prop := ∀ r j, ¬ (r = 122 ∧ j = 1) → ¬ ((r = 123 ∨ r = 124) ∧ 16 ≤ j ∧ j < 32) → U' r j = U r j
theorem frT_trans {U U1 U2 : am_U} (h1 : frT U U1) (h2 : frT U1 U2) : frT U U2 := fun r j a b => by rw [h2 r j a b, h1 r j a b]
theorem agr_frT {U U' : am_U} (h : frT U U') : agr U U' := fun r j e => h r j (fun q => by obtain ⟨rfl, rfl⟩ := q; exact absurd e (by decide)) (fun q => by
  obtain ⟨q1, q2⟩ := q
  rcases q1 with rfl | rfl
  · simp [scr] at e; omega
  · simp [scr] at e; omega)
def tyR (U : am_U) (T : Nat → Int) (p : Nat) : Prop := ∀ q, q < p → U 123 (16 + q) = onN T q ∧ U 124 (16 + q) = onH T q
/-- those that stand together, rooms aside -/
def prOk (T : Nat → Int) (p nh : Nat) : Prop := (∀ q, q < p → onN T q ≠ 0 ∧ (-999999999 ≤ onN T q ∧ onN T q ≤ 999999999) ∧ -1 ≤ onH T q ∧ onH T q < (nh : Nat)) ∧ ∀ q q', q < q' → q' < p → onN T q ≠ onN T q'
theorem ct_comes_l {N : Nat} {X : Nat → Int} {d n b nh : Nat} {U0 : am_U} {T rm : Nat → Int} {x1 x2 : Int} (hTe : ∀ j, j < 1600 → U0 87 j = T j) (hTb : ∀ j, j < 1600 → 0 ≤ T j ∧ T j ≤ 255) (h3 : T 3 = (n : Nat)) (hn : n ≤ 16) (hb : U0 86 13 = (b : Nat)) (hb2 : b < 2) (h90 : U0 90 b = (nh : Nat)) (hnh : nh ≤ 12) (hrm : ∀ g, g < nh → U0 93 (12 * b + g) = rm g) : ∀ m p : Nat, p + m = n → ∀ U, frT U0 U → U 122 1 = (n : Nat) → tyR U T p → prOk T p nh → ∃ r U', EvK N X (M_comesOn_s125 (d + 3) x1 x2 (p : Nat) U) (rI r U') ∧ frT U0 U' ∧ ((r = 1 ∧ pplOk (onN T) (onH T) rm n nh ∧ tyR U' T n ∧ U' 122 1 = (n : Nat)) ∨ (r = 0 ∧ ¬ pplOk (onN T) (onH T) rm n nh)) := by
  intro m
  induction m with
  | zero =>
    intro p hp U h1 h2 h4 h5
    obtain rfl : p = n := by omega
    have u3 : U 87 3 = (p : Nat) := by rw [h1 87 3 (by omega) (by omega), hTe 3 (by decide)]; exact h3
    obtain ⟨r, a1, a2⟩ := ct_areRooms (N := N) (X := X) (d := d) (v := 1) (b := b) (n := p) (nh := nh) (U := U) (by decide) (by rw [h1 86 13 (by omega) (by omega)]; exact hb) hb2 h2 hn (by rw [h1 90 b (by omega) (by omega)]; exact h90) hnh
    have e : ∀ g, g < nh → (((fb_ct (fun q => U 124 (16 * 1 + q) == ((g : Nat) : Int)) p : Nat) : Int) ≤ U 93 (12 * b + g) ↔ ((fb_ct (fun q => onH T q == ((g : Nat) : Int)) p : Nat) : Int) ≤ rm g) := fun g hg => by
      rw [h1 93 (12 * b + g) (by omega) (by omega), hrm g hg, fb_ct_cong (q := fun q => onH T q == ((g : Nat) : Int)) (fun q hq => by rw [Nat.mul_one, (h4 q hq).2])]
    rcases a2 with ⟨rfl, a3⟩ | ⟨rfl, a3⟩
    · exact ⟨1, U, M_comesOn_r125 ⟨fun _ => ⟨1, U, a1, Or.inr rfl, rfl⟩, fun z => absurd z (by rw [u3]; omega)⟩, h1, Or.inl ⟨rfl, ⟨h5.1, h5.2, fun g hg => (e g hg).mp (a3 g hg)⟩, h4, h2⟩⟩
    · exact ⟨0, U, M_comesOn_r125 ⟨fun _ => ⟨0, U, a1, Or.inl rfl, rfl⟩, fun z => absurd z (by rw [u3]; omega)⟩, h1, Or.inr ⟨rfl, fun o => a3 (fun g hg => (e g hg).mpr (o.2.2 g hg))⟩⟩
  | succ m ih =>
    intro p hp U h1 h2 h4 h5
    have u87 : ∀ j, j < 1600 → U 87 j = T j := fun j hj => by rw [h1 87 j (by omega) (by omega)]; exact hTe j hj
    have u3 : U 87 3 = (n : Nat) := by rw [u87 3 (by decide)]; exact h3
    have ub : U 86 13 = (b : Nat) := by rw [h1 86 13 (by omega) (by omega)]; exact hb
    have u90 : U 90 b = (nh : Nat) := by rw [h1 90 b (by omega) (by omega)]; exact h90
    have tb8 := hTb (8 + 5 * p) (by omega)
    have e4 : w32 (4 + w32 (5 * ((p : Nat) : Int))) = ((4 + 5 * p : Nat) : Int) := by rw [w32_eq (x := 5 * ((p : Nat) : Int)) (by omega) (by omega), w32_eq (by omega) (by omega)]; omega
    have e8 : w32 (8 + w32 (5 * ((p : Nat) : Int))) = ((8 + 5 * p : Nat) : Int) := by rw [w32_eq (x := 5 * ((p : Nat) : Int)) (by omega) (by omega), w32_eq (by omega) (by omega)]; omega
    have four : EvK N X (M_fourBytes_s0 (d + 2) ((4 + 5 * p : Nat) : Int) U) (rI (onN T p) U) := by
      refine M_fourBytes_r0 ?_
      clear e4 e8
      rw [w32_eq (x := ((4 + 5 * p : Nat) : Int) + 1) (by omega) (by omega), w32_eq (x := ((4 + 5 * p : Nat) : Int) + 2) (by omega) (by omega), w32_eq (x := ((4 + 5 * p : Nat) : Int) + 3) (by omega) (by omega), show (((4 + 5 * p : Nat) : Int) + 1).toNat = 4 + 5 * p + 1 from by omega, show (((4 + 5 * p : Nat) : Int) + 2).toNat = 4 + 5 * p + 2 from by omega, show (((4 + 5 * p : Nat) : Int) + 3).toNat = 4 + 5 * p + 3 from by omega, Int.toNat_natCast, u87 _ (by omega), u87 _ (by omega), u87 _ (by omega), u87 _ (by omega)]
      exact ⟨by omega, by omega, by omega, by omega, rfl⟩
    have no : ¬ (onN T p ≠ 0 ∧ (-999999999 ≤ onN T p ∧ onN T p ≤ 999999999) ∧ onH T p < (nh : Nat)) ∨ (∃ q, q < p ∧ onN T q = onN T p) → ¬ pplOk (onN T) (onH T) rm n nh := fun q o => by
      have o1 := o.1 p (by clear e4 e8; omega)
      rcases q with q | ⟨q, q1, q2⟩
      · exact q ⟨o1.1, o1.2.1, o1.2.2.2⟩
      · exact o.2.1 q p q1 (by clear e4 e8; omega) q2
    have start : ∀ {R}, (onN T p = 0 → R = rI 0 U) ∧ (onN T p ≠ 0 → (999999999 < onN T p → R = rI 0 U) ∧ (onN T p ≤ 999999999 → (onN T p < -999999999 → R = rI 0 U) ∧ (-999999999 ≤ onN T p → (T (8 + 5 * p) ≤ (nh : Nat) → EvK N X (M_comesOn_s195 (d + 2 + 1) x1 x2 (p : Nat) (onN T p) 0 U) R) ∧ ((nh : Nat) < T (8 + 5 * p) → R = rI 0 U)))) → EvK N X (M_comesOn_s125 (d + 3) x1 x2 (p : Nat) U) R := fun {R} g => by
      refine M_comesOn_r125 ⟨fun z => absurd z (by rw [u3]; clear e4 e8; omega), fun _ => ?_⟩
      rw [e4, e8]
      refine ⟨_, _, four, g.1, fun z1 => ⟨(g.2 z1).1, fun z2 => ⟨((g.2 z1).2 z2).1, fun z3 => ?_⟩⟩⟩
      rw [ub, Int.toNat_natCast, Int.toNat_natCast, u90, u87 _ (by clear e4 e8; omega)]
      clear e4 e8
      exact ⟨by omega, by omega, ((g.2 z1).2 z2).2 z3⟩
    by_cases k1 : onN T p ≠ 0 ∧ (-999999999 ≤ onN T p ∧ onN T p ≤ 999999999) ∧ onH T p < (nh : Nat)
    · obtain ⟨k11, k12, k13⟩ := k1
      have k14 : T (8 + 5 * p) ≤ (nh : Nat) := by clear e4 e8; unfold onH at k13; omega
      have inner : ∀ t i : Nat, i + t = p → (∀ q, q < i → onN T q ≠ onN T p) → ∃ r U', EvK N X (M_comesOn_s195 (d + 2 + 1) x1 x2 (p : Nat) (onN T p) (i : Nat) U) (rI r U') ∧ frT U0 U' ∧ ((r = 1 ∧ pplOk (onN T) (onH T) rm n nh ∧ tyR U' T n ∧ U' 122 1 = (n : Nat)) ∨ (r = 0 ∧ ¬ pplOk (onN T) (onH T) rm n nh)) := by
        intro t
        induction t with
        | zero =>
          intro i hi hq
          obtain rfl : i = p := by omega
          have e16 : w32 (16 + ((i : Nat) : Int)) = ((16 + i : Nat) : Int) := by clear e4 e8; rw [w32_eq (by omega) (by omega)]; omega
          obtain ⟨r, U', m1, m2⟩ := ih (i + 1) (by clear e4 e8 e16; omega) (am_upd (am_upd U 123 (16 + i) (onN T i)) 124 (16 + i) (onH T i)) (frT_trans h1 (fun r j a c => by
            clear e4 e8 e16
            rw [upd_if2 (by omega), upd_if2 (by omega)])) (by rw [upd_row (by decide), upd_row (by decide)]; exact h2) (fun q hq' => by
            rw [upd_if, upd_row (show 123 ≠ 124 by decide), upd_if, upd_row (show 124 ≠ 123 by decide)]
            by_cases c : q = i
            · rw [c, if_pos rfl, if_pos rfl]; exact ⟨rfl, rfl⟩
            · rw [if_neg (by clear e4 e8 e16; omega), if_neg (by clear e4 e8 e16; omega)]; exact h4 q (by clear e4 e8 e16; omega)) ⟨fun q hq' => by
              by_cases c : q = i
              · rw [c]; exact ⟨k11, k12, by unfold onH; clear e4 e8 e16; omega, k13⟩
              · exact h5.1 q (by clear e4 e8 e16; omega), fun q q' g1 g2 => by
              by_cases c : q' = i
              · rw [c]; exact hq q (by clear e4 e8 e16; omega)
              · exact h5.2 q q' g1 (by clear e4 e8 e16; omega)⟩
          refine ⟨r, U', M_comesOn_r195 ⟨fun _ => ?_, fun z => absurd z (by clear e4 e8 e16; omega)⟩, m2⟩
          rw [e16, e8, Int.toNat_natCast, Int.toNat_natCast, u87 _ (by clear e4 e8 e16; omega), w32_succ (i := i) (by clear e4 e8 e16; omega)]
          clear e4 e8 e16
          rw [w32_eq (x := T (8 + 5 * i) - 1) (by omega) (by omega)]
          exact ⟨by omega, by omega, m1⟩
        | succ t iht =>
          intro i hi hq
          clear e4 e8
          have nm := ct_M_numberOf (N := N) (X := X) (d := d + 2) (U := U) 1 i (by decide) (by omega)
          rw [Nat.mul_one, (h4 i (by omega)).1] at nm
          by_cases c : onN T i = onN T p
          · exact ⟨0, U, M_comesOn_r195 ⟨fun z => absurd z (by omega), fun _ => ⟨_, _, nm, fun z => absurd c z, fun _ => rfl⟩⟩, h1, Or.inr ⟨rfl, no (Or.inr ⟨i, by omega, c⟩)⟩⟩
          · obtain ⟨r, U', m1, m2⟩ := iht (i + 1) (by omega) (fun q hq' => by
              by_cases c2 : q = i
              · rw [c2]; exact c
              · exact hq q (by omega))
            refine ⟨r, U', M_comesOn_r195 ⟨fun z => absurd z (by omega), fun _ => ⟨_, _, nm, fun _ => ?_, fun z => absurd z c⟩⟩, m2⟩
            rw [w32_succ (i := i) (by omega)]; exact m1
      obtain ⟨r, U', m1, m2⟩ := inner p 0 (by clear e4 e8; omega) (fun q hq => absurd hq (Nat.not_lt_zero q))
      clear e4 e8
      exact ⟨r, U', start ⟨fun z => absurd z k11, fun _ => ⟨fun z => absurd z (by omega), fun _ => ⟨fun z => absurd z (by omega), fun _ => ⟨fun _ => m1, fun z => absurd z (by omega)⟩⟩⟩⟩, m2⟩
    · clear e4 e8
      refine ⟨0, U, start ⟨fun _ => rfl, fun z1 => ⟨fun _ => rfl, fun z2 => ⟨fun _ => rfl, fun z3 => ⟨fun z4 => absurd ⟨z1, ⟨z3, z2⟩, ?_⟩ k1, fun _ => rfl⟩⟩⟩⟩, h1, Or.inr ⟨rfl, no (Or.inl k1)⟩⟩
      unfold onH; omega
