/-! new int[n][k]; the claim -/
theorem am_outer (c : ClassId) (N h0 : Nat) : ∀ i : Nat, Jvm.Free.Multi.outerC c N h0 i = arrV c N (fun j => if j < i then .ref (h0 + 1 + j) else .null)
  | 0 => by
    show ({ cls := c, slots := Array.replicate N .null, vm := .none } : Cell) = _
    rw [arrV_new]
    exact am_arrV (fun j _ => by simp)
  | i + 1 => by
    show (Jvm.Free.Multi.outerC c N h0 i).setSlot i (.ref (h0 + 1 + i)) = _
    rw [am_outer c N h0 i, arrV_store]
    refine am_arrV (fun j _ => ?_)
    by_cases e : j = i
    · subst e
      simp [updV]
    · by_cases h : j < i
      · simp [updV, e, h, Nat.lt_succ_of_lt h]
      · simp [updV, e, h, show ¬ j < i + 1 by omega]
theorem am_mna (l : Launch) (base : Nat) (ad : Int → Nat) (cA : Nat → ClassId) (D : va_G) : am_MnaRow l base ad cA am_cl am_tg D am_tb := by
  intro p e R s m args below meth c0 H locs cells slots Q cc pc ls M own idx n k st hx hb hts had hown hK hW hS h1 hover h3 hn0 hn hk0 hk h31 hcells hslots hd kk
  have hin : in32 n := by unfold in32; omega
  have hik : in32 k := by unfold in32; omega
  have z0 : in32 0 := by unfold in32; omega
  have hone := hW.2.1
  have eix := am_ix_hi h31
  have hsz := hW.1
  have et : am_up ad (.inr (.inr (M.1.length : Int))) = .ref H.size := by rw [am_up_ref (by omega), had.top hW]
  rw [et] at kk
  have cn := i32_clamp hin
  have ck := i32_clamp hik
  intro T hT X
  obtain ⟨vm₁, c2, c1, -, fA, fC, -, -, X', step⟩ := X.multianewarray2F (n := Int32.ofInt n) (k := Int32.ofInt k) (ty := .int) (rest := st.map (am_up ad)) hx hown (hts _ h1) hover (hts _ h3) (g := F0 m pc ls (.int (Int32.ofInt k) :: .int (Int32.ofInt n) :: st.map (am_up ad))) rfl (by rw [hb]; exact hd) rfl (fun q => by have := (i32_lt hin z0).mp q; omega) (fun q => by have := (i32_lt hik z0).mp q; omega) (by rw [cn]; omega) (by rw [ck]; show k.toNat * 4 ≤ _; omega) (by rw [ck]; omega) rfl rfl (by rw [cn]; exact hcells) (by rw [cn, ck]; exact hslots)
  rw [cn, ck] at X' step
  have e2 : c2 = cA 104 := Option.some.inj (fA.symm.trans (hK.2 4 (cA 104, .array .int) rfl).2)
  have e1 : c1 = cA 100 := Option.some.inj (fC.symm.trans (hK.2 0 (cA 100, .int) rfl).2)
  subst e2
  subst e1
  have hTh : (T.setVm vm₁).heap = H := hT
  obtain ⟨f1, f2, -, -⟩ := Jvm.Free.Multi.fill_facts (T.setVm vm₁) (cA 104) (cA 100) n.toNat k.toNat (defaultValue .int) n.toNat
  have hold : ∀ x : Nat, x < H.size → (Jvm.Free.Multi.fill (T.setVm vm₁) (cA 104) (cA 100) n.toNat k.toNat (defaultValue .int) n.toNat).heap[x]? = H[x]? := fun x hx => by
    have := Jvm.Free.Multi.fill_old (T.setVm vm₁) (cA 104) (cA 100) n.toNat k.toNat (defaultValue .int) (a := x) (by rw [hTh]; exact hx) n.toNat
    rw [hTh] at this
    exact this
  have hrow : ∀ j : Nat, j < n.toNat → (Jvm.Free.Multi.fill (T.setVm vm₁) (cA 104) (cA 100) n.toNat k.toNat (defaultValue .int) n.toNat).heap[H.size + 1 + j]? = some (Jvm.Free.Multi.innerC (cA 100) k.toNat (defaultValue .int)) := fun j hj => by
    have := Jvm.Free.Multi.fill_inner (T.setVm vm₁) (cA 104) (cA 100) n.toNat k.toNat (defaultValue .int) n.toNat j hj
    rw [hTh] at this
    exact this
  rw [hTh] at f1 f2
  have hTs : T.heap.size = H.size := by rw [show T.heap = H from hT]
  rw [hTs] at step
  generalize Jvm.Free.Multi.fill (T.setVm vm₁) (cA 104) (cA 100) n.toNat k.toNat (defaultValue .int) n.toNat = F at X' step f1 f2 hold hrow
  obtain ⟨n1, -⟩ := am_new_len h31 104 n.toNat (fun j => (M.1.length + 1 + j : Nat))
  obtain ⟨n3, -⟩ := am_news_len (M := am_new M 104 n.toNat (fun j => (M.1.length + 1 + j : Nat))) (by omega) 100 k.toNat n.toNat
  have eix1 := am_ix_hi (a := (am_new M 104 n.toNat (fun j => (M.1.length + 1 + j : Nat))).1.length) (by omega)
  have eix2 := am_ix_hi (a := (am_news (am_new M 104 n.toNat (fun j => (M.1.length + 1 + j : Nat))) 100 k.toNat n.toNat).1.length) (by omega)
  have hP0 : va_P D am_cl (am_ws base ad cA am_tg M) F.heap := hW.2.2.1.kept (fun k9 x hx9 => hold x.1 ((hW.2.2.1 k9 x hx9).lt))
  have hout : va_at D am_cl (base + am_ix M.1.length, am_ent ad cA am_tg (104, n.toNat) (fun j => (M.1.length + 1 + j : Nat))) F.heap := by
    unfold am_ent
    rw [if_neg (by show ¬ 104 < 100; decide)]
    show F.heap[base + am_ix M.1.length]? = some (arrV (cA 104) n.toNat (fun j => va_rf (if ((M.1.length + 1 + j : Nat) : Int) = 0 then none else some (ad ((M.1.length + 1 + j : Nat) : Int)))))
    rw [show base + am_ix M.1.length = H.size by omega, f2, am_outer]
    congr 1
    refine am_arrV (fun j hj => ?_)
    rw [if_pos hj, if_neg (by omega), had.at (by omega)]
    have e9 : H.size + 1 + j = base + am_ix (M.1.length + 1 + j) := by
      rw [am_ix_hi (a := M.1.length + 1 + j) (by omega)]
      omega
    exact congrArg Value.ref e9
  have hP1 := am_P_new hone hP0 hout
  have hO1 : am_okM am_cl am_tg (am_new M 104 n.toNat (fun j => (M.1.length + 1 + j : Nat))) := am_okM_new hone hW.2.2.2 ⟨fun q => absurd q (by decide), fun _ => ⟨by decide, by omega, fun j _ => by show 0 < ((M.1.length + 1 + j : Nat) : Int); omega⟩⟩
  have hP2 := am_P_news (n := n.toNat) (k := k.toNat) (by omega) (by omega) hP1 hO1 (fun i hi => by
    unfold am_ent
    rw [if_neg (by show ¬ 100 < 100; decide)]
    show F.heap[base + am_ix (am_new M 104 n.toNat (fun j => (M.1.length + 1 + j : Nat))).1.length + i]? = some (arrV (cA 100) k.toNat (fun _ => .int (Int32.ofInt 0)))
    rw [show base + am_ix (am_new M 104 n.toNat (fun j => (M.1.length + 1 + j : Nat))).1.length + i = H.size + 1 + i by omega, hrow i hi]
    show some ({ cls := cA 100, slots := Array.replicate k.toNat (.int 0), vm := .none } : Cell) = _
    rw [arrV_new]
    rfl) n.toNat (Nat.le_refl _)
  have hW1 : am_Wd base ad cA am_cl am_tg D (am_news (am_new M 104 n.toNat (fun j => (M.1.length + 1 + j : Nat))) 100 k.toNat n.toNat) F.heap := ⟨by omega, am_rl_hi (by omega), hP2.1, hP2.2⟩
  have hS1 : va_S (am_A base) s.heap F.heap locs := ⟨Nat.le_trans hS.1 (by omega), fun x q1 q2 => (hold x (Nat.lt_of_lt_of_le q1 hS.1)).trans (hS.2.1 x q1 q2), hS.2.2⟩
  rw [Nat.add_assoc cells 1 n.toNat, Nat.add_assoc slots n.toNat (n.toNat * k.toNat)] at X'
  obtain ⟨t, a1, b1⟩ := kk F.heap hW1 hS1 F rfl X'
  exact ⟨t, step t a1, b1⟩
theorem i_vc : Claimed_1_1 ∧ Claimed_1_2 := am_claim (whole_of_run (fun l base ad cA D => am_mna l base ad cA D) am_hflm am_hfld am_runs)
