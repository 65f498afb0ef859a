theorem am_Inst : ∀ (ci : Nat) (C : String) (T : u_T) (N : Nat), am_cl[ci]? = some (C, T, N) → Cond.instantiable C N ∈ am_tb := by
  intro ci C T N h
  match ci, h with
  | 0, h => cases h; exact aw_1
  | 1, h => cases h; exact aw_130
  | 2, h => cases h; exact aw_133
  | 3, h => cases h; exact aw_136
  | 4, h => cases h; exact aw_139
  | 5, h => cases h; exact aw_142
  | 6, h => cases h; exact aw_145
  | 7, h => cases h; exact aw_148
  | 8, h => cases h; exact aw_151
  | 9, h => cases h; exact aw_154
  | 10, h => cases h; exact aw_157
  | 11, h => cases h; exact aw_4
  | k + 12, h => exact absurd h (by simp [am_cl])
/-! the law's entry: what the Statement gives of the start, as the small machine's constants -/
theorem am_isR {args : Array Value} {s : State} {t : Term} (h : (Cond.isRef t).before args s = true) : ∃ n : Nat, t.eval args s none [] s = some (match n with | 0 => .null | k + 1 => .ref k) := by
  cases hv : t.eval args s none [] s with
  | none => simp [Cond.before, Cond.holds, Cond.value, hv] at h
  | some w =>
    cases w with
    | null => exact ⟨0, rfl⟩
    | ref a => exact ⟨a + 1, rfl⟩
    | _ => simp [Cond.before, Cond.holds, Cond.value, hv] at h
def am_fl : List Cond := flatC (Jvm.Cond.and given_1 narrow_1)
abbrev am_tmP : Term := .static "NumberDoor$Numbers" "SMALL_PRIMES" "[I"
abbrev am_tmW : Term := .static "NumberDoor$Numbers" "WITNESSES" "[I"
abbrev am_tmS (k : Nat) : Term := .string "NumberDoor$Tokens" k
abbrev am_tmV (k : Nat) : Term := .field (am_tmS k) "java/lang/String" "value" "[B"
abbrev am_tmF : Term := .static "jdk/internal/util/Preconditions" "SIOOBE_FORMATTER" "Ljava/util/function/BiFunction;"
def am_pr12 : List Int := [2, 3, 5, 7, 11, 13, 17, 19, 23, 29, 31, 37]
def am_pr3 : List Int := [2, 7, 61]
theorem am_e12 : ∀ j, j < 12 → am_fl[12 + j]? = some (Cond.eq (.elem am_tmP (.int (Int32.ofNat j))) (.int (Int32.ofInt (am_pr12.getD j 0)))) := by decide +kernel
theorem am_e27 : ∀ j, j < 3 → am_fl[27 + j]? = some (Cond.eq (.elem am_tmW (.int (Int32.ofNat j))) (.int (Int32.ofInt (am_pr3.getD j 0)))) := by decide +kernel
theorem am_e34 : ∀ j, j < 156 → am_fl[34 + j]? = some (Cond.eq (.elem (am_tmV 68) (.int (Int32.ofNat j))) (.int (Int32.ofInt (am_by7.getD j 0)))) := by decide +kernel
theorem am_e194 : ∀ j, j < 14 → am_fl[194 + j]? = some (Cond.eq (.elem (am_tmV 48) (.int (Int32.ofNat j))) (.int (Int32.ofInt (am_by6.getD j 0)))) := by decide +kernel
theorem am_r4 : ∀ j, j < 12 → -2147483648 ≤ am_pr12.getD j 0 ∧ am_pr12.getD j 0 < 2147483648 := by decide
theorem am_r5 : ∀ j, j < 3 → -2147483648 ≤ am_pr3.getD j 0 ∧ am_pr3.getD j 0 < 2147483648 := by decide
theorem am_r6 : ∀ j, j < 14 → -128 ≤ am_by6.getD j 0 ∧ am_by6.getD j 0 < 128 := by decide +kernel
theorem am_r7 : ∀ j, j < 156 → -128 ≤ am_by7.getD j 0 ∧ am_by7.getD j 0 < 128 := by decide +kernel
theorem am_str1 {args : Array Value} {s : State} {A : Nat → Prop} (k n : Nat) (bl : List Int) (hn : n < 2 ^ 31) (hex : (Cond.exactly (am_tmS k) "java/lang/String").before args s = true) (hco : (Cond.eq (.field (am_tmS k) "java/lang/String" "coder" "B") (.int 0)).before args s = true) (har : (Cond.arrayOf (am_tmV k) .byte).before args s = true) (hle : (Cond.eq (.length (am_tmV k)) (.int (Int32.ofNat n))).before args s = true)
    (hel : ∀ j : Nat, j < n → (Cond.eq (.elem (am_tmV k) (.int (Int32.ofNat j))) (.int (Int32.ofInt (bl.getD j 0)))).before args s = true) (hA : ∀ a : Nat, a < s.heap.size → ¬ A a) :
    ∃ a t : Nat, (am_tmS k).eval args s none [] s = some (.ref a) ∧ va_O "java/lang/String" a A s s.heap ∧ va_OF "java/lang/String" "coder" "B" (.int 0) a A s s.heap ∧ va_OF "java/lang/String" "value" "[B" (.ref t) a A s s.heap ∧ va_T .byte t n (fun j => .int (Int32.ofInt (bl.getD j 0))) A s s.heap := by
  obtain ⟨a, c, cA, kA, q1, q2, q3, q4, q5, q6, -⟩ := Cond.exactly_spec (args := args) (first := s) (o := none) (s := s) (idx := []) (t := am_tmS k) (cls := "java/lang/String") hex
  obtain ⟨t, ht, hT⟩ := va_Tof (f := fun j => .int (Int32.ofInt (bl.getD j 0))) (A := A) hn har (va_eqt hle) (fun j hj => va_eqt (hel j hj)) hA
  exact ⟨a, t, q1, ⟨cA, q3, q5, by rw [q6]; exact q2, hA a (Array.getElem?_eq_some_iff.mp q3).1⟩, vk_OFof q1 (va_eqt hco) hA, vk_OFof q1 ht hA, hT⟩
theorem am_arrc {args : Array Value} {s : State} {ty : FieldType} (h : (Cond.arrayClass ty).before args s = true) : ∃ c, ArrOfT s c ty ∧ s.vm.findClass ("[" ++ ty.toString) = some c := by
  obtain ⟨c, k, comp, h1, h2, h3⟩ := Cond.arrayClass_spec h
  exact ⟨c, fun n z => ⟨fun k h => (by cases h), k, h2, comp, h3⟩, h1⟩
set_option maxHeartbeats 2000000 in
theorem am_entryK {s : State} {b L : Nat} {xs : Nat → Int32} (hts : ∀ w ∈ lw_tbl, w.before #[Value.ref b] s = true) (hX : va_X b L xs s s.heap) (hbl : b < s.heap.size) (hL : L ≤ 3072) (hgv : (Jvm.Cond.and given_1 narrow_1).before #[Value.ref b] s = true) :
    ∃ (ad : Int → Nat) (cA : Nat → ClassId) (D : va_G), am_Ad s.heap.size ad ∧ ad (-1) = b ∧ am_K s.heap.size ad cA D am_cl (am_kz L (fun j => (xs j).toInt)) am_zc am_zf am_zst am_zstr s s.heap := by
  have hA : ∀ a : Nat, a < s.heap.size → ¬ am_A s.heap.size a := fun a h q => Nat.lt_irrefl _ (Nat.lt_of_lt_of_le h q)
  have hf := flat_of_before _ hgv
  have hfi : ∀ (i : Nat) {c : Cond}, am_fl[i]? = some c → c.before #[Value.ref b] s = true := fun i c h => hf c (List.mem_of_getElem? h)
  have htb : ∀ w ∈ am_tb, w.before #[Value.ref b] s = true := fun w h => hts w (am_tb_in w h)
  obtain ⟨a3, t7, e3, o3, c3, v3, T7⟩ := am_str1 68 156 am_by7 (by decide) (hfi 30 (by decide +kernel)) (hfi 31 (by decide +kernel)) (hfi 32 (by decide +kernel)) (hfi 33 (by decide +kernel)) (fun j hj => hfi _ (am_e34 j hj)) hA
  obtain ⟨a2, t6, e2, o2, c2, v2, T6⟩ := am_str1 48 14 am_by6 (by decide) (hfi 190 (by decide +kernel)) (hfi 191 (by decide +kernel)) (hfi 192 (by decide +kernel)) (hfi 193 (by decide +kernel)) (fun j hj => hfi _ (am_e194 j hj)) hA
  obtain ⟨t4, e4, T4⟩ := va_Tof (tm := am_tmP) (ty := .int) (N := 12) (f := fun j => .int (Int32.ofInt (am_pr12.getD j 0))) (by decide) (hfi 10 (by decide +kernel)) (va_eqt (hfi 11 (by decide +kernel))) (fun j hj => va_eqt (hfi _ (am_e12 j hj))) hA
  obtain ⟨t5, e5, T5⟩ := va_Tof (tm := am_tmW) (ty := .int) (N := 3) (f := fun j => .int (Int32.ofInt (am_pr3.getD j 0))) (by decide) (hfi 25 (by decide +kernel)) (va_eqt (hfi 26 (by decide +kernel))) (fun j hj => va_eqt (hfi _ (am_e27 j hj))) hA
  obtain ⟨n8, e8⟩ := am_isR (hfi 5 (c := Cond.isRef am_tmF) (by decide +kernel))
  have e9 := va_eqi (hfi 4 (c := Cond.eq (.static "java/lang/String" "COMPACT_STRINGS" "Z") (.int 1)) (by decide +kernel))
  obtain ⟨cI, kI1, kI2⟩ := am_arrc (hts (Cond.arrayClass .int) (List.mem_append_right _ (List.mem_append_left _ (List.mem_of_getElem? (l := tables_1_1) (i := 131) rfl))))
  obtain ⟨cJ, kJ1, kJ2⟩ := am_arrc (hts (Cond.arrayClass .long) (List.mem_append_right _ (List.mem_append_left _ (List.mem_of_getElem? (l := tables_1_1) (i := 180) rfl))))
  obtain ⟨cB, kB1, kB2⟩ := am_arrc (hts (Cond.arrayClass .byte) (List.mem_append_right _ (List.mem_append_right _ (List.mem_append_right _ (List.mem_append_right _ (List.mem_append_left _ (List.mem_of_getElem? (l := tables_1_4) (i := 179) rfl)))))))
  obtain ⟨cZ, kZ1, kZ2⟩ := am_arrc (hts (Cond.arrayClass .boolean) (List.mem_append_right _ (List.mem_append_right _ (List.mem_append_right _ (List.mem_append_right _ (List.mem_append_right _ (List.mem_append_right _ (List.mem_append_right _ (List.mem_append_left _ (List.mem_of_getElem? (l := tables_1_7) (i := 232) rfl))))))))))
  obtain ⟨comp, cQ, kQ, hq1, -, hq3, hq4, hq5⟩ := arrayOverA_spec (hts (Cond.arrayOver (.array .int)) (List.mem_append_right _ (List.mem_append_right _ (List.mem_append_left _ (List.mem_of_getElem? (l := tables_1_2) (i := 112) rfl)))))
  have hcl : ∀ c : Nat, ∃ x : ClassId × (Nat → Nat), ∀ q : vw_C, am_cl[c]? = some q → u_Kn s q.1 q.2.1 q.2.2 x.1 x.2 := by
    intro c
    cases hc : am_cl[c]? with
    | none => exact ⟨(0, fun _ => 0), fun q h => by cases h⟩
    | some q =>
      obtain ⟨C, T, N⟩ := q
      obtain ⟨cC, iS, hk⟩ := u_known htb (am_Cl_ok c C T N hc).2.1 (htb _ (am_Inst c C T N hc))
      exact ⟨(cC, iS), fun q h => by cases h; exact hk⟩
  obtain ⟨fD, hfD⟩ := Classical.axiomOfChoice hcl
  refine ⟨fun r => if 0 < r then s.heap.size + am_ix r.toNat else match (-r).toNat with | 1 => b | 2 => a2 | 3 => a3 | 4 => t4 | 5 => t5 | 6 => t6 | 7 => t7 | _ => n8,
    fun so => match so with | 100 => cI | 101 => cJ | 102 => cB | 103 => cZ | _ => cQ, (fun c => (fD c).1, fun c => (fD c).2), ?_, rfl, ⟨fun c q hc => hfD c q hc, ?_⟩, ?_, ?_, ?_, ?_, ?_⟩
  · intro k
    dsimp only
    rw [if_pos (by omega), show ((k : Int) + 1).toNat = k + 1 by omega]
  · intro k q hk
    unfold am_tys at hk
    match k, hk with
    | 0, hk => cases hk; exact ⟨kI1, kI2⟩
    | 1, hk => cases hk; exact ⟨kJ1, kJ2⟩
    | 2, hk => cases hk; exact ⟨kB1, kB2⟩
    | 3, hk => cases hk; exact ⟨kZ1, kZ2⟩
    | 4, hk => cases hk; exact ⟨fun n z => ⟨fun k h => (by cases h), kQ, hq3, comp, hq4⟩, hq5⟩
  · intro z so n f hz hkz h77
    unfold am_kz at hkz
    split at hkz <;> cases hkz
    · refine ⟨fun h => absurd h (by decide), fun _ => ⟨by decide, by omega, ?_, fun j _ => i32_in _⟩⟩
      obtain ⟨scr, x1, x2, x3, x4, x5⟩ := hX
      exact ⟨scr, x1, x2, x3, by omega, by rw [x4], fun j hj => by rw [x5 j hj]; show some (Value.int (xs j)) = some (Value.int (Int32.ofInt (xs j).toInt)); rw [i32_of], hA b hbl⟩
    · refine ⟨fun _ => ⟨o2, fun b hb => ?_⟩, fun h => absurd h (by decide)⟩
      match b, hb with
      | 0, _ => exact ⟨v2, trivial⟩
      | 1, _ => exact ⟨c2, by show in32 0; unfold in32; omega⟩
    · refine ⟨fun _ => ⟨o3, fun b hb => ?_⟩, fun h => absurd h (by decide)⟩
      match b, hb with
      | 0, _ => exact ⟨v3, trivial⟩
      | 1, _ => exact ⟨c3, by show in32 0; unfold in32; omega⟩
    · refine ⟨fun h => absurd h (by decide), fun _ => ⟨by decide, by decide, T4, ?_⟩⟩
      exact fun j hj => am_r4 j hj
    · refine ⟨fun h => absurd h (by decide), fun _ => ⟨by decide, by decide, T5, ?_⟩⟩
      exact fun j hj => am_r5 j hj
    · refine ⟨fun h => absurd h (by decide), fun _ => ⟨by decide, by decide, T6, ?_⟩⟩
      exact fun j hj => am_r6 j hj
    · refine ⟨fun h => absurd h (by decide), fun _ => ⟨by decide, by decide, T7, ?_⟩⟩
      exact fun j hj => am_r7 j hj
    · exact absurd rfl h77
  · refine List.forall_mem_cons.mpr ⟨va_Zof (hts _ (List.mem_append_right _ (List.mem_append_right _ (List.mem_append_right _ (List.mem_append_right _ (List.mem_append_right _ (List.mem_append_left _ (List.mem_of_getElem? (l := tables_1_5) (i := 13) rfl)))))))) (hts _ (List.mem_append_right _ (List.mem_append_left _ (List.mem_of_getElem? (l := tables_1_1) (i := 22) rfl)))) e4 hA, List.forall_mem_cons.mpr ⟨va_Zof (hts _ (List.mem_append_right _ (List.mem_append_right _ (List.mem_append_right _ (List.mem_append_right _ (List.mem_append_right _ (List.mem_append_left _ (List.mem_of_getElem? (l := tables_1_5) (i := 15) rfl)))))))) (hts _ (List.mem_append_right _ (List.mem_append_left _ (List.mem_of_getElem? (l := tables_1_1) (i := 22) rfl)))) e5 hA, List.forall_mem_cons.mpr ⟨va_Zof (hts _ (List.mem_append_right _ (List.mem_append_right _ (List.mem_append_right _ (List.mem_append_left _ (List.mem_of_getElem? (l := tables_1_3) (i := 56) rfl)))))) (hts _ (List.mem_append_right _ (List.mem_append_left _ (List.mem_of_getElem? (l := tables_1_1) (i := 14) rfl)))) e9 hA, List.forall_mem_cons.mpr ⟨va_Zof (hts _ (List.mem_append_right _ (List.mem_append_right _ (List.mem_append_right _ (List.mem_append_left _ (List.mem_of_getElem? (l := tables_1_3) (i := 72) rfl)))))) (hts _ (List.mem_append_right _ (List.mem_append_left _ (List.mem_of_getElem? (l := tables_1_1) (i := 16) rfl)))) e8 hA, fun _ h => absurd h List.not_mem_nil⟩⟩⟩⟩
  · refine List.forall_mem_cons.mpr ⟨vk_R.of (hts _ (List.mem_append_right _ (List.mem_append_right _ (List.mem_append_right _ (List.mem_append_left _ (List.mem_of_getElem? (l := tables_1_3) (i := 46) rfl)))))) e3, List.forall_mem_cons.mpr ⟨vk_R.of (hts _ (List.mem_append_right _ (List.mem_append_right _ (List.mem_append_right _ (List.mem_append_left _ (List.mem_of_getElem? (l := tables_1_3) (i := 95) rfl)))))) e2, fun _ h => absurd h List.not_mem_nil⟩⟩
  · refine List.forall_mem_cons.mpr ⟨va_Nw.of rfl (hts _ (List.mem_append_right _ (List.mem_append_right _ (List.mem_append_right _ (List.mem_append_right _ (List.mem_append_right _ (List.mem_append_left _ (List.mem_of_getElem? (l := tables_1_5) (i := 93) rfl)))))))), List.forall_mem_cons.mpr ⟨va_Nw.of rfl (hts _ (List.mem_append_right _ (List.mem_append_right _ (List.mem_append_right _ (List.mem_append_right _ (List.mem_append_right _ (List.mem_append_left _ (List.mem_of_getElem? (l := tables_1_5) (i := 127) rfl)))))))), List.forall_mem_cons.mpr ⟨va_Nw.of rfl (hts _ (List.mem_append_right _ (List.mem_append_right _ (List.mem_append_right _ (List.mem_append_right _ (List.mem_append_right _ (List.mem_append_right _ (List.mem_append_left _ (List.mem_of_getElem? (l := tables_1_6) (i := 147) rfl))))))))), fun _ h => absurd h List.not_mem_nil⟩⟩⟩
  · exact over_moved (Vm.Alike.refl s.vm) (hts _ (List.mem_append_right _ (List.mem_append_right _ (List.mem_append_left _ (List.mem_of_getElem? (l := tables_1_2) (i := 112) rfl)))))

