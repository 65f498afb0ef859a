/-! a check by program of a method's rows, and that it suffices -/
def am_cI (o : Nat) (init : Bool) (pc len : Nat) (ins : Instr) (a b : Nat) (c : Int) : Bool := match ins with
  | .goto off => len == 3 && decide ((pc : Int) + off = (a : Int))
  | .ifCond _ off => len == 3 && decide ((pc : Int) + off = (a : Int))
  | .if_icmp _ off => len == 3 && decide ((pc : Int) + off = (a : Int))
  | .getfield idx => len == 3 && (am_pF o).any (fun q => q.1 == idx && q.2.1 == a && q.2.2.1 == b && q.2.2.2 == c.toNat)
  | .putfield idx => len == 3 && ((am_pP o).any (fun q => q.1 == idx && q.2.1 == a && q.2.2.1 == b && q.2.2.2 == c.toNat) || (init && (am_pQ o).any (fun q => q.1 == idx && q.2.1 == a && q.2.2.1 == b && q.2.2.2 == c.toNat)))
  | .getstatic idx => len == 3 && (am_pS o).any (fun q => q.1 == idx && q.2.1 == b && decide (q.2.2 = c))
  | .ldc idx => len == 2 && (bif a == 0 then (am_pK o).any (fun q => q.1 == idx && decide (q.2 = c)) else (am_pT o).any (fun q => q.1 == idx && decide (q.2 = c)))
  | .ldc_w idx => len == 3 && (am_pK o).any (fun q => q.1 == idx && decide (q.2 = c))
  | .ldc2_w idx => len == 3 && (am_pJ o).any (fun q => q.1 == idx && decide (q.2 = c))
  | .new idx => len == 3 && (am_pC o).any (fun q => q.1 == idx && q.2.1 == a && q.2.2 == b)
  | .newarray aty => len == 2 && (match aty with | .int => a == 100 | .long => a == 101 | .byte => a == 102 | .boolean => a == 103 | _ => false)
  | .multianewarray idx dims => len == 4 && dims == 2 && (am_pU o).any (fun q => q == idx)
  | .tableswitch dflt _ _ offs => decide (0 ≤ (pc : Int) + dflt) && offs.toList.all (fun o => decide (0 ≤ (pc : Int) + o))
  | .lookupswitch dflt ps => (ps.toList.zip (ps.toList.drop 1)).all (fun (a, next) => a.1 < next.1) && decide (0 ≤ (pc : Int) + dflt) && ps.toList.all (fun o => decide (0 ≤ (pc : Int) + o.2))
  | .invokestatic idx => len == 3 && (bif a == 9999 then (am_pA o).any (fun q => q == idx) else bif Nat.ble 9990 a then (am_pR o).any (fun q => q.1 == idx && q.2 == a) else (am_pM o).any (fun q => q.1 == idx && q.2 == a) && am_pY.any (fun q => q.1 == a && q.2.1 == b && q.2.2.1 == 0) && decide (c = ((am_mt a).2.2.1 : Int)))
  | .invokevirtual idx => len == 3 && (am_pV o).any (fun q => q.1 == idx && q.2 == a) && am_pY.any (fun q => q.1 == a && q.2.1 == b % 16 && q.2.2.1 == 1 && q.2.2.2 == b / 16) && decide (c = ((am_mt a).2.2.1 : Int))
  | .invokespecial idx => len == 3 && (bif a == 9998 then b % 16 == 0 && (am_pO o).any (fun q => q == idx) else (am_pI o).any (fun q => q.1 == idx && q.2 == a) && am_pY.any (fun q => q.1 == a && q.2.1 == b % 16 && q.2.2.1 == 2) && decide (c = ((am_mt a).2.2.1 : Int)))
  | .iconst n => len == 1 && decide (n = c) && decide (-2147483648 ≤ c ∧ c < 2147483648)
  | .bipush n => len == 2 && decide (n = c) && decide (-128 ≤ c ∧ c < 128)
  | .sipush n => len == 3 && decide (n = c) && decide (-32768 ≤ c ∧ c < 32768)
  | .lconst n => len == 1 && decide (((n : Nat) : Int) = c)
  | .iload_n k => len == 1 && (k : Nat) == a
  | .lload_n k => len == 1 && (k : Nat) == a
  | .aload_n k => len == 1 && (k : Nat) == a
  | .istore_n k => len == 1 && (k : Nat) == a
  | .lstore_n k => len == 1 && (k : Nat) == a
  | .astore_n k => len == 1 && (k : Nat) == a
  | .iload i => len == 2 && i == a
  | .lload i => len == 2 && i == a
  | .aload i => len == 2 && i == a
  | .istore i => len == 2 && i == a
  | .lstore i => len == 2 && i == a
  | .astore i => len == 2 && i == a
  | .iinc i n => len == 3 && i == a && decide (n = c)
  | _ => len == 1
def am_cQ (o : Nat) (init : Bool) (bytes : ByteArray) (q : Nat × am_I) : Bool := decide (decode bytes q.1 = .ok (q.2.2.1, q.2.1)) && am_cI o init q.1 q.2.1 q.2.2.1 q.2.2.2.1 q.2.2.2.2.1 q.2.2.2.2.2
theorem i8_of {c : Int} (h : -128 ≤ c ∧ c < 128) : (Int8.ofInt c).toInt32 = Int32.ofInt c := by
  apply Int32.toInt_inj.mp
  have h32 : in32 c := by unfold in32; omega
  rw [Int8.toInt_toInt32, Int8.toInt_ofInt, i32_to h32, Int.bmod_def]
  simp only [Int8.size]
  omega
theorem i16_of {c : Int} (h : -32768 ≤ c ∧ c < 32768) : (Int16.ofInt c).toInt32 = Int32.ofInt c := by
  apply Int32.toInt_inj.mp
  have h32 : in32 c := by unfold in32; omega
  rw [Int16.toInt_toInt32, Int16.toInt_ofInt, i32_to h32, Int.bmod_def]
  simp only [Int16.size]
  omega
abbrev am_ok (mi pc : Nat) (ai : am_I) : Prop := am_okI am_cl am_tg am_zc am_zf am_zn am_zst am_zstr am_tb am_mt mi pc ai
set_option maxHeartbeats 4000000 in
theorem am_cQ_ok {o mi : Nat} {init : Bool} {bytes : ByteArray} (hF : am_Fc o) (hcls : (am_mt mi).1.cls = am_on o) (hby : (am_mt mi).2.1 = bytes) (hin : init = true → (am_mt mi).1.name = "<init>") {q : Nat × am_I} (h : am_cQ o init bytes q = true) : am_ok mi q.1 q.2 := by
  obtain ⟨pc, len, ins, a, b, c⟩ := q
  unfold am_cQ at h
  rw [Bool.and_eq_true] at h
  obtain ⟨hd, h⟩ := h
  have hd := of_decide_eq_true hd
  obtain ⟨fF, fP, fQ, fS, fK, fJ, fT, fC, fM, fV, fI, fR, fA, fO, fU⟩ := hF
  refine ⟨by rw [hby]; exact hd, ?_⟩
  simp only [hcls]
  unfold am_cI at h
  simp only at h
  split at h
  · simp only [Bool.and_eq_true, beq_iff_eq, decide_eq_true_eq] at h
    exact h
  · simp only [Bool.and_eq_true, beq_iff_eq, decide_eq_true_eq] at h
    exact h
  · simp only [Bool.and_eq_true, beq_iff_eq, decide_eq_true_eq] at h
    exact h
  · -- getfield
    simp only [Bool.and_eq_true, beq_iff_eq, List.any_eq_true] at h
    obtain ⟨h1, ⟨i, a', b', c'⟩, hm, ⟨⟨e1, e2⟩, e3⟩, e4⟩ := h
    dsimp only at e1 e2 e3 e4
    subst e1; subst e2; subst e3
    have hf := fF _ hm
    unfold am_fF at hf
    dsimp only at hf
    rw [e4] at hf
    exact ⟨h1, hf⟩
  · -- putfield
    simp only [Bool.and_eq_true, Bool.or_eq_true, beq_iff_eq, List.any_eq_true] at h
    obtain ⟨h1, ⟨⟨i, a', b', c'⟩, hm, ⟨⟨e1, e2⟩, e3⟩, e4⟩ | ⟨hi, ⟨i, a', b', c'⟩, hm, ⟨⟨e1, e2⟩, e3⟩, e4⟩⟩ := h
    · dsimp only at e1 e2 e3 e4
      subst e1; subst e2; subst e3
      obtain ⟨C, T, N, g1, g2, g3, g4, g5⟩ := fP _ hm
      dsimp only at g1 g2 g3 g4 g5
      rw [e4] at g3
      exact ⟨h1, C, T, N, g1, g2, g3, g4, Or.inl g5⟩
    · dsimp only at e1 e2 e3 e4
      subst e1; subst e2; subst e3
      obtain ⟨C, T, N, g1, g2, g3, g4, g5, g6⟩ := fQ _ hm
      dsimp only at g1 g2 g3 g4 g5 g6
      rw [e4] at g3
      exact ⟨h1, C, T, N, g1, g2, g3, g4, Or.inr ⟨g5, hin hi, g6⟩⟩
  · -- getstatic
    simp only [Bool.and_eq_true, beq_iff_eq, List.any_eq_true, decide_eq_true_eq] at h
    obtain ⟨h1, ⟨i, b', c'⟩, hm, ⟨e1, e2⟩, e3⟩ := h
    dsimp only at e1 e2 e3
    subst e1; subst e2; subst e3
    obtain ⟨C, n, d, g1, g2, g3⟩ := fS _ hm
    exact ⟨h1, C, n, d, g1, g2, g3⟩
  · -- ldc
    rename_i idx
    by_cases ha : a = 0
    · subst ha
      simp only [Bool.and_eq_true, beq_iff_eq, List.any_eq_true, decide_eq_true_eq, beq_self_eq_true, cond_true] at h
      obtain ⟨h1, ⟨i, c'⟩, hm, e1, e3⟩ := h
      dsimp only at e1 e3
      subst e1; subst e3
      obtain ⟨g1, g2⟩ := fK _ hm
      dsimp only
      rw [if_pos rfl]
      exact ⟨h1, rfl, g1, by exact g2⟩
    · have hb : (a == 0) = false := by simpa using ha
      simp only [hb, cond_false, Bool.and_eq_true, beq_iff_eq, List.any_eq_true, decide_eq_true_eq] at h
      obtain ⟨h1, ⟨i, c'⟩, hm, e1, e3⟩ := h
      dsimp only at e1 e3
      subst e1; subst e3
      obtain ⟨g1, tx, g2⟩ := fT _ hm
      dsimp only
      rw [if_neg ha]
      exact ⟨h1, g1, tx, g2⟩
  · simp only [Bool.and_eq_true, beq_iff_eq, List.any_eq_true, decide_eq_true_eq] at h
    obtain ⟨h1, ⟨i, c'⟩, hm, e1, e3⟩ := h
    dsimp only at e1 e3
    subst e1; subst e3
    obtain ⟨g1, g2⟩ := fK _ hm
    exact ⟨h1, g1, g2⟩
  · simp only [Bool.and_eq_true, beq_iff_eq, List.any_eq_true, decide_eq_true_eq] at h
    obtain ⟨h1, ⟨i, c'⟩, hm, e1, e3⟩ := h
    dsimp only at e1 e3
    subst e1; subst e3
    obtain ⟨g1, g2⟩ := fJ _ hm
    exact ⟨h1, g1, g2⟩
  · -- new
    simp only [Bool.and_eq_true, beq_iff_eq, List.any_eq_true] at h
    obtain ⟨h1, ⟨i, a', b'⟩, hm, ⟨e1, e2⟩, e3⟩ := h
    dsimp only at e1 e2 e3
    subst e1; subst e2; subst e3
    exact ⟨h1, fC _ hm⟩
  · -- newarray
    rename_i aty
    simp only [Bool.and_eq_true, beq_iff_eq] at h
    obtain ⟨h1, h2⟩ := h
    obtain ⟨w1, w2, w3, w4⟩ := am_wNA
    split at h2
    · simp only [beq_iff_eq] at h2; exact ⟨h1, Or.inl ⟨rfl, h2⟩, w1⟩
    · simp only [beq_iff_eq] at h2; exact ⟨h1, Or.inr (Or.inl ⟨rfl, h2⟩), w2⟩
    · simp only [beq_iff_eq] at h2; exact ⟨h1, Or.inr (Or.inr (Or.inl ⟨rfl, h2⟩)), w3⟩
    · simp only [beq_iff_eq] at h2; exact ⟨h1, Or.inr (Or.inr (Or.inr ⟨rfl, h2⟩)), w4⟩
    · cases h2
  · -- multianewarray
    simp only [Bool.and_eq_true, beq_iff_eq, List.any_eq_true] at h
    obtain ⟨⟨h1, h2⟩, i, hm, e1⟩ := h
    subst e1
    exact ⟨h1, h2, fU _ hm⟩
  · simp only [Bool.and_eq_true, List.all_eq_true, decide_eq_true_eq] at h
    exact h
  · simp only [Bool.and_eq_true, decide_eq_true_eq] at h
    obtain ⟨⟨h1, h2⟩, h3⟩ := h
    exact ⟨h1, h2, fun o ho => of_decide_eq_true (List.all_eq_true.mp h3 o ho)⟩
  · -- invokestatic
    rename_i idx
    by_cases ha : a = 9999
    · subst ha
      simp only [Bool.and_eq_true, beq_iff_eq, List.any_eq_true, beq_self_eq_true, cond_true] at h
      obtain ⟨h1, i, hm, e1⟩ := h
      subst e1
      dsimp only
      rw [if_pos rfl]
      exact ⟨h1, fA _ hm⟩
    · have hb : (a == 9999) = false := by simpa using ha
      by_cases ha2 : 9990 ≤ a
      · have hb2 : Nat.ble 9990 a = true := Nat.ble_eq_true_of_le ha2
        simp only [hb, hb2, cond_false, cond_true, Bool.and_eq_true, beq_iff_eq, List.any_eq_true] at h
        obtain ⟨h1, ⟨i, a'⟩, hm, e1, e2⟩ := h
        dsimp only at e1 e2
        subst e1; subst e2
        dsimp only
        rw [if_neg ha, if_pos ha2]
        exact ⟨h1, fR _ hm⟩
      · have hb2 : Nat.ble 9990 a = false := by
          cases h9 : Nat.ble 9990 a with
          | false => rfl
          | true => exact absurd (Nat.le_of_ble_eq_true h9) ha2
        simp only [hb, hb2, cond_false, Bool.and_eq_true, beq_iff_eq, List.any_eq_true, decide_eq_true_eq] at h
        obtain ⟨h1, ⟨⟨⟨i, a'⟩, hm, e1, e2⟩, ⟨y1, y2, y3, y4⟩, hy, ⟨e3, e4⟩, e5⟩, hc⟩ := h
        dsimp only at e1 e2 e3 e4 e5
        subst e1; subst e2; subst e3; subst e4; subst hc
        have hY := am_xY _ hy
        dsimp only
        rw [if_neg ha, if_neg ha2]
        exact ⟨h1, hY.1, hY.2.1 e5, fM _ hm⟩
  · -- invokevirtual
    simp only [Bool.and_eq_true, beq_iff_eq, List.any_eq_true, decide_eq_true_eq] at h
    obtain ⟨⟨⟨h1, ⟨i, a'⟩, hm, e1, e2⟩, ⟨y1, y2, y3, y4⟩, hy, ⟨⟨e3, e4⟩, e5⟩, e6⟩, hc⟩ := h
    dsimp only at e1 e2 e3 e4 e5 e6
    subst e1; subst e2; subst e3; subst hc
    have hY := am_xY _ hy
    have hV := hY.2.2.1 e5
    dsimp only at hV
    have hC := hY.1
    dsimp only at hC
    rw [e4] at hC
    rw [e6] at hV
    exact ⟨h1, hC, hV.1, hV.2.1, fV _ hm, hV.2.2⟩
  · -- invokespecial
    rename_i idx
    by_cases ha : a = 9998
    · subst ha
      simp only [Bool.and_eq_true, beq_iff_eq, List.any_eq_true, beq_self_eq_true, cond_true] at h
      obtain ⟨h1, h2, i, hm, e1⟩ := h
      subst e1
      dsimp only
      rw [if_pos rfl]
      exact ⟨h1, h2, fO _ hm⟩
    · have hb : (a == 9998) = false := by simpa using ha
      simp only [hb, cond_false, Bool.and_eq_true, beq_iff_eq, List.any_eq_true, decide_eq_true_eq] at h
      obtain ⟨h1, ⟨⟨⟨i, a'⟩, hm, e1, e2⟩, ⟨y1, y2, y3, y4⟩, hy, ⟨e3, e4⟩, e5⟩, hc⟩ := h
      dsimp only at e1 e2 e3 e4 e5
      subst e1; subst e2; subst e3; subst hc
      have hY := am_xY _ hy
      have hV := hY.2.2.2 e5
      have hC := hY.1
      dsimp only at hC hV
      rw [e4] at hC
      dsimp only
      rw [if_neg ha]
      exact ⟨h1, hC, hV.1, hV.2.1, hV.2.2, fI _ hm⟩
  · simp only [Bool.and_eq_true, beq_iff_eq, decide_eq_true_eq] at h
    exact ⟨h.1.1, h.1.2, h.2⟩
  · simp only [Bool.and_eq_true, beq_iff_eq, decide_eq_true_eq] at h
    obtain ⟨⟨h1, rfl⟩, h3⟩ := h
    exact ⟨h1, i8_of h3, by unfold in32; omega⟩
  · simp only [Bool.and_eq_true, beq_iff_eq, decide_eq_true_eq] at h
    obtain ⟨⟨h1, rfl⟩, h3⟩ := h
    exact ⟨h1, i16_of h3, by unfold in32; omega⟩
  · simp only [Bool.and_eq_true, beq_iff_eq, decide_eq_true_eq] at h
    obtain ⟨h1, h2⟩ := h
    exact ⟨h1, h2, by unfold in64; omega⟩
  case h_34 =>
    simp only [Bool.and_eq_true, beq_iff_eq, decide_eq_true_eq] at h
    exact ⟨h.1.1, h.1.2, h.2⟩
  case h_35 =>
    have h := beq_iff_eq.mp h
    cases ins <;> first
      | exact h
      | (exfalso; simp_all; done)
      | (exfalso; simp_all; rename_i hx; exact hx _ _ _ _ rfl rfl rfl rfl)
  all_goals
    simp only [Bool.and_eq_true, beq_iff_eq] at h
    exact h
theorem am_split {p : Nat × am_I → Bool} {l : List (Nat × am_I)} (n : Nat) (h1 : (l.take n).all p = true) (h2 : (l.drop n).all p = true) : l.all p = true := by
  rw [← List.take_append_drop n l, List.all_append, h1, h2]; rfl
