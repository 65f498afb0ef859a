/-! every step: sound -/
/-- the row of multianewarray of int rows, proved apart -/
def am_MnaRow (l : Launch) (base : Nat) (ad : Int → Nat) (cA : Nat → ClassId) (cl : List vw_C) (tg : Nat → Nat → Nat) (D : va_G) (tb : List Cond) : Prop :=
  ∀ (p : Program) (e : Env) (R : Room) (s : State) (m : MethodId) (args : Array Value) (below : List Frame) (meth : Method) (c0 : Code) (H : Heap) (locs : List Loc) (cells slots : Nat) (Q : State → Prop) (cc : ByteArray) (pc : Nat) (ls : Array Slot) (M : am_M) (own : String) (idx : Nat) (n k : Int) (st : List am_V),
    p.tables.exec = Jvm.exec → c0.code = cc → (∀ w ∈ tb, w.before args s = true) → am_Ad base ad → s.vm.findClass own = some m.cls → va_K D cl (am_tys cA) s → am_Wd base ad cA cl tg D M H → va_S (am_A base) s.heap H locs → Cond.classLink own idx "[[I" ∈ tb → (Cond.arrayOver (.array .int)).before args s = true → Cond.arrayClass .int ∈ tb →
    0 ≤ n → n ≤ 1000 → 0 ≤ k → k ≤ 1000 → 31 ≤ M.1.length → cells + (1 + n.toNat) ≤ R.cells → slots + (n.toNat + n.toNat * k.toNat) ≤ R.slots → decode cc pc = .ok (.multianewarray idx 2, 4) →
    (∀ H1 : Heap, am_Wd base ad cA cl tg D (am_news (am_new M 104 n.toNat (fun j => (M.1.length + 1 + j : Nat))) 100 k.toNat n.toNat) H1 → va_S (am_A base) s.heap H1 locs → W p l e R s m args below meth c0 H1 locs (cells + (1 + n.toNat)) (slots + (n.toNat + n.toNat * k.toNat)) Q (F0 m (pc + 4) ls (am_up ad (.inr (.inr (M.1.length : Int))) :: st.map (am_up ad)))) →
    W p l e R s m args below meth c0 H locs cells slots Q (F0 m pc ls (.int (Int32.ofInt k) :: .int (Int32.ofInt n) :: st.map (am_up ad)))
/-- the rows of Math.floorMod and Math.floorDiv, proved apart -/
def am_FlRow (l : Launch) (y0 : MethodName) (code0 : ByteArray) (f : Int → Int → Int) : Prop :=
  ∀ (p : Program) (e : Env) (R : Room) (s : State) (m : MethodId) (args : Array Value) (below : List Frame) (meth : Method) (c0 : Code) (H : Heap) (locs : List Loc) (cells slots : Nat) (Q : State → Prop) (cc : ByteArray) (pc : Nat) (ls : Array Slot) (own : String) (idx : Nat) (x y : Int) (rest : List Value),
    p.tables.exec = Jvm.exec → c0.code = cc → c0.maxLocals = ls.size → s.vm.findClass own = some m.cls → (Cond.methodLink own idx y0).before args s = true → (Cond.static y0).before args s = true → (Cond.initialized "java/lang/Math").before args s = true → (Cond.code y0 code0 3 (some .int)).before args s = true →
    1 ≤ R.frames → (rest.map fun v => v.category).sum + 14 ≤ R.locals → cells ≤ R.cells → slots ≤ R.slots → decode cc pc = .ok (.invokestatic idx, 3) → in32 x → in32 y → y ≠ 0 →
    W p l e R s m args below meth c0 H locs cells slots Q (F0 m (pc + 3) ls (.int (Int32.ofInt (f x y)) :: rest)) → W p l e R s m args below meth c0 H locs cells slots Q (F0 m pc ls (.int (Int32.ofInt y) :: .int (Int32.ofInt x) :: rest))
theorem am_new_sum (M : am_M) (so n : Nat) (f : Nat → Int) : am_sum (am_new M so n f) = am_sum M + n := by
  have e : ((am_gap M.1.length).map Prod.snd).sum = 0 := by
    unfold am_gap
    split <;> rfl
  unfold am_new am_sum
  simp only [List.map_append, List.map_cons, List.sum_append, List.sum_cons, e]
  omega
theorem am_new_cnt {M : am_M} (h : am_rl M.1.length) (so n : Nat) (f : Nat → Int) : am_ix (am_new M so n f).1.length = am_ix M.1.length + 1 ∧ am_sum (am_new M so n f) = am_sum M + n := ⟨(am_new_ix h).1, am_new_sum M so n f⟩
theorem am_new_len {M : am_M} (h : 31 ≤ M.1.length) (so n : Nat) (f : Nat → Int) : (am_new M so n f).1.length = M.1.length + 1 ∧ am_sum (am_new M so n f) = am_sum M + n := by
  refine ⟨?_, am_new_sum M so n f⟩
  unfold am_new
  simp only [List.length_append, List.length_cons, am_gap_len]
  rw [if_neg (by omega)]
theorem am_news_len {M : am_M} (h : 31 ≤ M.1.length) (so n : Nat) : ∀ k, (am_news M so n k).1.length = M.1.length + k ∧ am_sum (am_news M so n k) = am_sum M + k * n := by
  intro k
  induction k with
  | zero => exact ⟨rfl, by simp [am_news]⟩
  | succ k ih =>
    have := am_new_len (M := am_news M so n k) (by omega) so n (fun _ => 0)
    show (am_new (am_news M so n k) so n (fun _ => 0)).1.length = _ ∧ am_sum (am_new (am_news M so n k) so n (fun _ => 0)) = _
    rw [this.1, this.2, ih.1, ih.2]
    refine ⟨by omega, ?_⟩
    rw [Nat.add_mul]; omega
theorem am_news_pre (M : am_M) (so n : Nat) : ∀ k, M.1 <+: (am_news M so n k).1 := by
  intro k
  induction k with
  | zero => exact List.prefix_refl _
  | succ k ih => exact ih.trans (List.prefix_append _ _)
section AMS
variable {l : Launch} {base : Nat} {ad : Int → Nat} {cA : Nat → ClassId} {cl : List vw_C} {tg : Nat → Nat → Nat} {D : va_G} {kz : am_Z} {zc : Nat → String} {zf : Nat → Nat → String × String × String × Nat} {zn : Nat → Nat} {stl : List (String × String × String × am_V)} {strl : List (String × Nat × String × Int)} {tb : List Cond} {mt : Nat → MethodName × ByteArray × Nat × Option FieldType} {cd : Nat → Nat → Option am_I} {rk : Nat → Nat}
variable {d mi pc : Nat} {L L' : am_L} {st st' : List am_V} {M M' : am_M} {r : Option am_V} {len a b : Nat} {c : Int}
theorem am_good_pure {ins : Instr} (hd : decode (mt mi).2.1 pc = .ok (ins, len)) (ho : am_okP tb (mt mi).1.cls len ins a c) (h : am_pure ins a c L st = some (L', st')) (hG : am_Good l base ad cA cl tg D kz zc zf stl strl tb mt (d, mi, pc + len, L', st', M) r M') : am_Good l base ad cA cl tg D kz zc zf stl strl tb mt (d, mi, pc, L, st, M) r M' := by
  refine ⟨hG.1, ?_⟩
  intro p e s m args below meth c0 H locs ls R cells slots k0 j0 mc ms hcx hL hst hWd hS hfr hlo hk0 hj0 hmc hms hRc hRs
  have hcx0 := hcx
  obtain ⟨hx, hb, hml, hown, hts, hr, hlocks, hname, hK⟩ := hcx
  exact am_pure_ok hx hb hts hown hd ho hL hst h (fun ls' hL' hst' => hG.2 p e s m args below meth c0 H locs ls' R cells slots k0 j0 mc ms hcx0 hL' hst' hWd hS hfr hlo hk0 hj0 hmc hms hRc hRs)
theorem am_good_goto {off : Int} (hd : decode (mt mi).2.1 pc = .ok (.goto off, 3)) (ht : (pc : Int) + off = (a : Int)) (hG : am_Good l base ad cA cl tg D kz zc zf stl strl tb mt (d, mi, a, L, st, M) r M') : am_Good l base ad cA cl tg D kz zc zf stl strl tb mt (d, mi, pc, L, st, M) r M' := by
  refine ⟨hG.1, ?_⟩
  intro p e s m args below meth c0 H locs ls R cells slots k0 j0 mc ms hcx hL hst hWd hS hfr hlo hk0 hj0 hmc hms hRc hRs
  have hcx0 := hcx
  obtain ⟨hx, hb, hml, hown, hts, hr, hlocks, hname, hK⟩ := hcx
  exact lv_goto hx hb hd ht (hG.2 p e s m args below meth c0 H locs ls R cells slots k0 j0 mc ms hcx0 hL hst hWd hS hfr hlo hk0 hj0 hmc hms hRc hRs)
theorem am_good_if1 {off : Int} {cnd : ClassFile.Cond} {q : Bool} (hd : decode (mt mi).2.1 pc = .ok (.ifCond cnd off, 3)) (ht : (pc : Int) + off = (a : Int)) (h : am_if1 cnd st = some (q, st')) (hG : am_Good l base ad cA cl tg D kz zc zf stl strl tb mt (d, mi, (bif q then a else pc + 3), L, st', M) r M') : am_Good l base ad cA cl tg D kz zc zf stl strl tb mt (d, mi, pc, L, st, M) r M' := by
  refine ⟨hG.1, ?_⟩
  intro p e s m args below meth c0 H locs ls R cells slots k0 j0 mc ms hcx hL hst hWd hS hfr hlo hk0 hj0 hmc hms hRc hRs
  have hcx0 := hcx
  obtain ⟨hx, hb, hml, hown, hts, hr, hlocks, hname, hK⟩ := hcx
  exact am_if1_ok hx hb hd ht hst h (fun hst' => hG.2 p e s m args below meth c0 H locs ls R cells slots k0 j0 mc ms hcx0 hL hst' hWd hS hfr hlo hk0 hj0 hmc hms hRc hRs)
theorem am_good_if2 {off : Int} {cnd : ClassFile.Cond} {q : Bool} (hd : decode (mt mi).2.1 pc = .ok (.if_icmp cnd off, 3)) (ht : (pc : Int) + off = (a : Int)) (h : am_if2 cnd st = some (q, st')) (hG : am_Good l base ad cA cl tg D kz zc zf stl strl tb mt (d, mi, (bif q then a else pc + 3), L, st', M) r M') : am_Good l base ad cA cl tg D kz zc zf stl strl tb mt (d, mi, pc, L, st, M) r M' := by
  refine ⟨hG.1, ?_⟩
  intro p e s m args below meth c0 H locs ls R cells slots k0 j0 mc ms hcx hL hst hWd hS hfr hlo hk0 hj0 hmc hms hRc hRs
  have hcx0 := hcx
  obtain ⟨hx, hb, hml, hown, hts, hr, hlocks, hname, hK⟩ := hcx
  exact am_if2_ok hx hb hd ht hst h (fun hst' => hG.2 p e s m args below meth c0 H locs ls R cells slots k0 j0 mc ms hcx0 hL hst' hWd hS hfr hlo hk0 hj0 hmc hms hRc hRs)
theorem am_good_sw {dflt lo hi off : Int} {offs : Array Int} {x : Int} (hd : decode (mt mi).2.1 pc = .ok (.tableswitch dflt lo hi offs, len)) (hn : 0 ≤ (pc : Int) + dflt ∧ ∀ o ∈ offs.toList, 0 ≤ (pc : Int) + o) (h : am_sw dflt lo hi offs x = some off) (hG : am_Good l base ad cA cl tg D kz zc zf stl strl tb mt (d, mi, ((pc : Int) + off).toNat, L, st, M) r M') : am_Good l base ad cA cl tg D kz zc zf stl strl tb mt (d, mi, pc, L, .inl x :: st, M) r M' := by
  refine ⟨hG.1, ?_⟩
  intro p e s m args below meth c0 H locs ls R cells slots k0 j0 mc ms hcx hL hst hWd hS hfr hlo hk0 hj0 hmc hms hRc hRs
  have hcx0 := hcx
  obtain ⟨hx, hb, hml, hown, hts, hr, hlocks, hname, hK⟩ := hcx
  exact am_sw_ok hx hb hd hn hst h (fun hst' => hG.2 p e s m args below meth c0 H locs ls R cells slots k0 j0 mc ms hcx0 hL hst' hWd hS hfr hlo hk0 hj0 hmc hms hRc hRs)
theorem am_good_lsw {dflt : Int} {ps : Array (Int × Int)} {x : Int} (hd : decode (mt mi).2.1 pc = .ok (.lookupswitch dflt ps, len)) (hp : (ps.toList.zip (ps.toList.drop 1)).all (fun (a, next) => a.1 < next.1) = true) (hn : 0 ≤ (pc : Int) + dflt ∧ ∀ o ∈ ps.toList, 0 ≤ (pc : Int) + o.2) (hG : am_Good l base ad cA cl tg D kz zc zf stl strl tb mt (d, mi, ((pc : Int) + Op.lookupswitch.offset ps.toList dflt x).toNat, L, st, M) r M') : am_Good l base ad cA cl tg D kz zc zf stl strl tb mt (d, mi, pc, L, .inl x :: st, M) r M' := by
  refine ⟨hG.1, ?_⟩
  intro p e s m args below meth c0 H locs ls R cells slots k0 j0 mc ms hcx hL hst hWd hS hfr hlo hk0 hj0 hmc hms hRc hRs
  have hcx0 := hcx
  obtain ⟨hx, hb, hml, hown, hts, hr, hlocks, hname, hK⟩ := hcx
  exact am_lsw_ok hx hb hd hp hn hst (fun hst' => hG.2 p e s m args below meth c0 H locs ls R cells slots k0 j0 mc ms hcx0 hL hst' hWd hS hfr hlo hk0 hj0 hmc hms hRc hRs)
theorem am_good_gets {idx : Nat} {C n dd : String} {v : am_V} (hd : decode (mt mi).2.1 pc = .ok (.getstatic idx, 3)) (hm : (C, n, dd, v) ∈ stl) (hv : am_okv v) (hl : Cond.fieldLink (mt mi).1.cls idx C n dd ∈ tb) (hG : am_Good l base ad cA cl tg D kz zc zf stl strl tb mt (d, mi, pc + 3, L, v :: st, M) r M') : am_Good l base ad cA cl tg D kz zc zf stl strl tb mt (d, mi, pc, L, st, M) r M' := by
  refine ⟨hG.1, ?_⟩
  intro p e s m args below meth c0 H locs ls R cells slots k0 j0 mc ms hcx hL hst hWd hS hfr hlo hk0 hj0 hmc hms hRc hRs
  have hcx0 := hcx
  obtain ⟨hx, hb, hml, hown, hts, hr, hlocks, hname, hK⟩ := hcx
  exact va_gets hx hb (hK.2.2.1 _ hm) hS hown (hts _ hl) (fun _ h => h) hd (hG.2 p e s m args below meth c0 H locs ls R cells slots k0 j0 mc ms hcx0 hL (am_okv_cons.mpr ⟨hv, hst⟩) hWd hS hfr hlo hk0 hj0 hmc hms hRc hRs)
theorem am_good_ldcs {idx : Nat} {tx : String} (hd : decode (mt mi).2.1 pc = .ok (.ldc idx, 2)) (hc : c ≠ 0 ∧ c ≠ -8) (hm : ((mt mi).1.cls, idx, tx, c) ∈ strl) (hG : am_Good l base ad cA cl tg D kz zc zf stl strl tb mt (d, mi, pc + 2, L, .inr (.inr c) :: st, M) r M') : am_Good l base ad cA cl tg D kz zc zf stl strl tb mt (d, mi, pc, L, st, M) r M' := by
  refine ⟨hG.1, ?_⟩
  intro p e s m args below meth c0 H locs ls R cells slots k0 j0 mc ms hcx hL hst hWd hS hfr hlo hk0 hj0 hmc hms hRc hRs
  have hcx0 := hcx
  obtain ⟨hx, hb, hml, hown, hts, hr, hlocks, hname, hK⟩ := hcx
  have hk := hG.2 p e s m args below meth c0 H locs ls R cells slots k0 j0 mc ms hcx0 hL (am_okv_cons.mpr ⟨trivial, hst⟩) hWd hS hfr hlo hk0 hj0 hmc hms hRc hRs
  rw [List.map_cons, am_up_ref hc] at hk
  exact va_ldcS hx hb hown (hK.2.2.2.1 _ hm) hd hk
theorem am_good_getf (hC : am_Cl cl tg tb) (had : am_Ad base ad) {idx n : Nat} {C : String} {T : u_T} {N : Nat} {x : Int} (hd : decode (mt mi).2.1 pc = .ok (.getfield idx, 3)) (hc : cl[a]? = some (C, T, N)) (hbN : b < N) (hl : Cond.fieldLink (mt mi).1.cls idx (T b).1 (T b).2.1 (T b).2.2.1 ∈ tb) (hx0 : 0 < x) (hM : M.1[x.toNat]? = some (a, n)) (hG : am_Good l base ad cA cl tg D kz zc zf stl strl tb mt (d, mi, pc + 3, L, am_tv (tg a b) (M.2 x.toNat b) :: st, M) r M') : am_Good l base ad cA cl tg D kz zc zf stl strl tb mt (d, mi, pc, L, .inr (.inr x) :: st, M) r M' := by
  refine ⟨hG.1, ?_⟩
  intro p e s m args below meth c0 H locs ls R cells slots k0 j0 mc ms hcx hL hst hWd hS hfr hlo hk0 hj0 hmc hms hRc hRs
  have hcx0 := hcx
  obtain ⟨hx, hb, hml, hown, hts, hr, hlocks, hname, hK⟩ := hcx
  have hst0 := (am_okv_cons.mp hst).2
  rw [List.map_cons, am_up_ref (by omega)]
  exact am_getf_ok hx hb hts hC had hown hK.1 hWd hc hbN hl hd hx0 hM (fun hv => hG.2 p e s m args below meth c0 H locs ls R cells slots k0 j0 mc ms hcx0 hL (am_okv_cons.mpr ⟨hv, hst0⟩) hWd hS hfr hlo hk0 hj0 hmc hms hRc hRs)
theorem am_good_getz {idx z n : Nat} {f : Nat → Int} (hd : decode (mt mi).2.1 pc = .ok (.getfield idx, 3)) (hz : 0 < z ∧ z ≠ 8) (hkz : kz z = (a, n, f)) (ha : a < 100) (h77 : a ≠ 77) (hbn : b < n) (hl : Cond.fieldLink (mt mi).1.cls idx (zf a b).1 (zf a b).2.1 (zf a b).2.2.1 ∈ tb) (hG : am_Good l base ad cA cl tg D kz zc zf stl strl tb mt (d, mi, pc + 3, L, am_tv (zf a b).2.2.2 (f b) :: st, M) r M') : am_Good l base ad cA cl tg D kz zc zf stl strl tb mt (d, mi, pc, L, .inr (.inr (-(z : Int))) :: st, M) r M' := by
  refine ⟨hG.1, ?_⟩
  intro p e s m args below meth c0 H locs ls R cells slots k0 j0 mc ms hcx hL hst hWd hS hfr hlo hk0 hj0 hmc hms hRc hRs
  have hcx0 := hcx
  obtain ⟨hx, hb, hml, hown, hts, hr, hlocks, hname, hK⟩ := hcx
  have hst0 := (am_okv_cons.mp hst).2
  rw [List.map_cons, am_up_ref (by omega)]
  obtain ⟨g1, g2⟩ := ((hK.2.1 z a n f hz.1 hkz h77).1 ha).2 b hbn
  exact vk_getf hx hb g1 hS hown (hts _ hl) (fun _ h => h) hd (hG.2 p e s m args below meth c0 H locs ls R cells slots k0 j0 mc ms hcx0 hL (am_okv_cons.mpr ⟨am_okt_v g2, hst0⟩) hWd hS hfr hlo hk0 hj0 hmc hms hRc hRs)
theorem am_good_putf (hC : am_Cl cl tg tb) (had : am_Ad base ad) {idx n : Nat} {C : String} {T : u_T} {N : Nat} {x y : Int} {v : am_V} (hd : decode (mt mi).2.1 pc = .ok (.putfield idx, 3)) (hc : cl[a]? = some (C, T, N)) (hbN : b < N) (hl : Cond.fieldLink (mt mi).1.cls idx (T b).1 (T b).2.1 (T b).2.2.1 ∈ tb) (hf : (T b).2.2.2 = false ∨ ((T b).2.2.2 = true ∧ (mt mi).1.name = "<init>" ∧ (T b).1 = (mt mi).1.cls)) (hx0 : 0 < x) (hM : M.1[x.toNat]? = some (a, n)) (hv : am_pv (tg a b) v = some y) (hG : am_Good l base ad cA cl tg D kz zc zf stl strl tb mt (d, mi, pc + 3, L, st, (M.1, am_upd M.2 x.toNat b y)) r M') : am_Good l base ad cA cl tg D kz zc zf stl strl tb mt (d, mi, pc, L, v :: .inr (.inr x) :: st, M) r M' := by
  refine ⟨hG.1, ?_⟩
  intro p e s m args below meth c0 H locs ls R cells slots k0 j0 mc ms hcx hL hst hWd hS hfr hlo hk0 hj0 hmc hms hRc hRs
  have hcx0 := hcx
  obtain ⟨hx, hb, hml, hown, hts, hr, hlocks, hname, hK⟩ := hcx
  obtain ⟨q1, q2⟩ := am_okv_cons.mp hst
  have hst0 := (am_okv_cons.mp q2).2
  obtain ⟨ev, hok⟩ := am_pv_up (ad := ad) hv
  rw [List.map_cons, List.map_cons, am_up_ref (by omega), ev]
  exact am_putf_ok hx hb hts hC had hown hK.1 hWd hS hc hbN hl (hf.imp id (fun q => ⟨q.1, by rw [hname]; exact q.2.1, q.2.2⟩)) hd hx0 hM (hok q1) (fun H1 locs1 hW1 hS1 => hG.2 p e s m args below meth c0 H1 locs1 ls R cells slots k0 j0 mc ms hcx0 hL hst0 hW1 hS1 hfr hlo hk0 hj0 hmc hms hRc hRs)
theorem am_good_ald (had : am_Ad base ad) {ins : Instr} {t so n : Nat} {x i : Int} (hi : (ins = .iaload ∧ so = 100 ∧ t = 0) ∨ (ins = .laload ∧ so = 101 ∧ t = 1) ∨ (ins = .baload ∧ so = 102 ∧ t = 0) ∨ (ins = .baload ∧ so = 103 ∧ t = 0) ∨ (ins = .aaload ∧ so = 104 ∧ t = 2)) (hd : decode (mt mi).2.1 pc = .ok (ins, 1)) (hx0 : 0 < x) (hM : M.1[x.toNat]? = some (so, n)) (h0 : 0 ≤ i) (h1 : i < n) (hG : am_Good l base ad cA cl tg D kz zc zf stl strl tb mt (d, mi, pc + 1, L, am_tv t (M.2 x.toNat i.toNat) :: st, M) r M') : am_Good l base ad cA cl tg D kz zc zf stl strl tb mt (d, mi, pc, L, .inl i :: .inr (.inr x) :: st, M) r M' := by
  refine ⟨hG.1, ?_⟩
  intro p e s m args below meth c0 H locs ls R cells slots k0 j0 mc ms hcx hL hst hWd hS hfr hlo hk0 hj0 hmc hms hRc hRs
  have hcx0 := hcx
  obtain ⟨hx, hb, hml, hown, hts, hr, hlocks, hname, hK⟩ := hcx
  obtain ⟨q1, q2⟩ := am_okv_cons.mp hst
  have hst0 := (am_okv_cons.mp q2).2
  rw [List.map_cons, List.map_cons, am_up_ref (by omega)]
  exact am_ald_ok hx hb had hK.1 hWd hi hd hx0 hM q1 h0 h1 (fun hv => hG.2 p e s m args below meth c0 H locs ls R cells slots k0 j0 mc ms hcx0 hL (am_okv_cons.mpr ⟨hv, hst0⟩) hWd hS hfr hlo hk0 hj0 hmc hms hRc hRs)
theorem am_good_aldz {ins : Instr} {t so n z : Nat} {i : Int} {f : Nat → Int} (hi : (ins = .iaload ∧ so = 100 ∧ t = 0) ∨ (ins = .laload ∧ so = 101 ∧ t = 1) ∨ (ins = .baload ∧ so = 102 ∧ t = 0) ∨ (ins = .baload ∧ so = 103 ∧ t = 0)) (hd : decode (mt mi).2.1 pc = .ok (ins, 1)) (hz : 0 < z ∧ z ≠ 8) (hkz : kz z = (so, n, f)) (h0 : 0 ≤ i) (h1 : i < n) (hG : am_Good l base ad cA cl tg D kz zc zf stl strl tb mt (d, mi, pc + 1, L, am_tv t (f i.toNat) :: st, M) r M') : am_Good l base ad cA cl tg D kz zc zf stl strl tb mt (d, mi, pc, L, .inl i :: .inr (.inr (-(z : Int))) :: st, M) r M' := by
  refine ⟨hG.1, ?_⟩
  intro p e s m args below meth c0 H locs ls R cells slots k0 j0 mc ms hcx hL hst hWd hS hfr hlo hk0 hj0 hmc hms hRc hRs
  have hcx0 := hcx
  obtain ⟨hx, hb, hml, hown, hts, hr, hlocks, hname, hK⟩ := hcx
  obtain ⟨q1, q2⟩ := am_okv_cons.mp hst
  have hst0 := (am_okv_cons.mp q2).2
  rw [List.map_cons, List.map_cons, am_up_ref (by omega)]
  have q1 : in32 i := q1
  have hin := am_in q1 h0 h1
  obtain ⟨g1, g2, g3, g4⟩ := (hK.2.1 z so n f hz.1 hkz (by omega)).2 (by omega)
  obtain ⟨o1, o2, o3⟩ := am_oka_v (g4 i.toNat (by omega))
  rcases hi with ⟨rfl, rfl, rfl⟩ | ⟨rfl, rfl, rfl⟩ | ⟨rfl, rfl, rfl⟩ | ⟨rfl, rfl, rfl⟩
  · exact va_ti hx hb g3 hS hin (by rw [i32_clamp q1]; rfl) hd (hG.2 p e s m args below meth c0 H locs ls R cells slots k0 j0 mc ms hcx0 hL (am_okv_cons.mpr ⟨o1 (by omega) (by omega), hst0⟩) hWd hS hfr hlo hk0 hj0 hmc hms hRc hRs)
  · exact va_tl hx hb g3 hS hin (by rw [i32_clamp q1]; rfl) hd (hG.2 p e s m args below meth c0 H locs ls R cells slots k0 j0 mc ms hcx0 hL (am_okv_cons.mpr ⟨o2 rfl, hst0⟩) hWd hS hfr hlo hk0 hj0 hmc hms hRc hRs)
  · exact va_tb hx hb g3 hS hin (by rw [i32_clamp q1]; rfl) hd (hG.2 p e s m args below meth c0 H locs ls R cells slots k0 j0 mc ms hcx0 hL (am_okv_cons.mpr ⟨o1 (by omega) (by omega), hst0⟩) hWd hS hfr hlo hk0 hj0 hmc hms hRc hRs)
  · exact va_tz hx hb g3 hS hin (by rw [i32_clamp q1]; rfl) hd (hG.2 p e s m args below meth c0 H locs ls R cells slots k0 j0 mc ms hcx0 hL (am_okv_cons.mpr ⟨o1 (by omega) (by omega), hst0⟩) hWd hS hfr hlo hk0 hj0 hmc hms hRc hRs)
theorem am_good_alen (had : am_Ad base ad) {so n : Nat} {x : Int} (hso : 100 ≤ so) (hn : n < 2147483648) (hd : decode (mt mi).2.1 pc = .ok (.arraylength, 1)) (hx0 : 0 < x) (hM : M.1[x.toNat]? = some (so, n)) (hG : am_Good l base ad cA cl tg D kz zc zf stl strl tb mt (d, mi, pc + 1, L, .inl (n : Int) :: st, M) r M') : am_Good l base ad cA cl tg D kz zc zf stl strl tb mt (d, mi, pc, L, .inr (.inr x) :: st, M) r M' := by
  refine ⟨hG.1, ?_⟩
  intro p e s m args below meth c0 H locs ls R cells slots k0 j0 mc ms hcx hL hst hWd hS hfr hlo hk0 hj0 hmc hms hRc hRs
  have hcx0 := hcx
  obtain ⟨hx, hb, hml, hown, hts, hr, hlocks, hname, hK⟩ := hcx
  have hst0 := (am_okv_cons.mp hst).2
  rw [List.map_cons, am_up_ref (by omega)]
  exact am_alen_ok hx hb had hK.1 hWd hso hd hx0 hM (hG.2 p e s m args below meth c0 H locs ls R cells slots k0 j0 mc ms hcx0 hL (am_okv_cons.mpr ⟨by show in32 (n : Int); unfold in32; omega, hst0⟩) hWd hS hfr hlo hk0 hj0 hmc hms hRc hRs)
theorem am_good_alenz {so n z : Nat} {f : Nat → Int} (hso : 100 ≤ so) (hn : n < 2147483648) (hd : decode (mt mi).2.1 pc = .ok (.arraylength, 1)) (hz : 0 < z ∧ z ≠ 8) (hkz : kz z = (so, n, f)) (hG : am_Good l base ad cA cl tg D kz zc zf stl strl tb mt (d, mi, pc + 1, L, .inl (n : Int) :: st, M) r M') : am_Good l base ad cA cl tg D kz zc zf stl strl tb mt (d, mi, pc, L, .inr (.inr (-(z : Int))) :: st, M) r M' := by
  refine ⟨hG.1, ?_⟩
  intro p e s m args below meth c0 H locs ls R cells slots k0 j0 mc ms hcx hL hst hWd hS hfr hlo hk0 hj0 hmc hms hRc hRs
  have hcx0 := hcx
  obtain ⟨hx, hb, hml, hown, hts, hr, hlocks, hname, hK⟩ := hcx
  have hst0 := (am_okv_cons.mp hst).2
  rw [List.map_cons, am_up_ref (by omega)]
  obtain ⟨g1, g2, g3, g4⟩ := (hK.2.1 z so n f hz.1 hkz (by omega)).2 hso
  exact va_tlen hx hb g3 hS rfl hd (hG.2 p e s m args below meth c0 H locs ls R cells slots k0 j0 mc ms hcx0 hL (am_okv_cons.mpr ⟨by show in32 (n : Int); unfold in32; omega, hst0⟩) hWd hS hfr hlo hk0 hj0 hmc hms hRc hRs)
theorem am_good_ast (had : am_Ad base ad) {ins : Instr} {t so n : Nat} {x i y : Int} {v : am_V} (hi : (ins = .iastore ∧ so = 100 ∧ t = 0) ∨ (ins = .lastore ∧ so = 101 ∧ t = 1) ∨ (ins = .bastore ∧ so = 102 ∧ t = 0) ∨ (ins = .bastore ∧ so = 103 ∧ t = 0)) (hd : decode (mt mi).2.1 pc = .ok (ins, 1)) (hx0 : 0 < x) (hM : M.1[x.toNat]? = some (so, n)) (h0 : 0 ≤ i) (h1 : i < n) (hv : am_pv t v = some y) (hf : am_fit so y = true) (hG : am_Good l base ad cA cl tg D kz zc zf stl strl tb mt (d, mi, pc + 1, L, st, (M.1, am_upd M.2 x.toNat i.toNat y)) r M') : am_Good l base ad cA cl tg D kz zc zf stl strl tb mt (d, mi, pc, L, v :: .inl i :: .inr (.inr x) :: st, M) r M' := by
  refine ⟨hG.1, ?_⟩
  intro p e s m args below meth c0 H locs ls R cells slots k0 j0 mc ms hcx hL hst hWd hS hfr hlo hk0 hj0 hmc hms hRc hRs
  have hcx0 := hcx
  obtain ⟨hx, hb, hml, hown, hts, hr, hlocks, hname, hK⟩ := hcx
  obtain ⟨q0, q2⟩ := am_okv_cons.mp hst
  obtain ⟨q1, q2⟩ := am_okv_cons.mp q2
  have hst0 := (am_okv_cons.mp q2).2
  obtain ⟨ev, hok⟩ := am_pv_up (ad := ad) hv
  have hok := hok q0
  have hoa : am_oka so y := by
    rcases hi with ⟨rfl, rfl, rfl⟩ | ⟨rfl, rfl, rfl⟩ | ⟨rfl, rfl, rfl⟩ | ⟨rfl, rfl, rfl⟩
    · exact hok
    · exact hok
    · simpa [am_fit, am_oka] using hf
    · simpa [am_fit, am_oka] using hf
  rw [List.map_cons, List.map_cons, List.map_cons, am_up_ref (by omega), ev]
  exact am_ast_ok hx hb had hK.1 hWd hS hi hd hx0 hM q1 h0 h1 hoa (fun H1 locs1 hW1 hS1 => hG.2 p e s m args below meth c0 H1 locs1 ls R cells slots k0 j0 mc ms hcx0 hL hst0 hW1 hS1 hfr hlo hk0 hj0 hmc hms hRc hRs)
theorem am_good_new (hC : am_Cl cl tg tb) (had : am_Ad base ad) {idx : Nat} {C : String} {T : u_T} (hd : decode (mt mi).2.1 pc = .ok (.new idx, 3)) (hc : cl[a]? = some (C, T, b)) (h1 : Cond.classLink (mt mi).1.cls idx C ∈ tb) (h2 : Cond.instantiable C b ∈ tb) (h3 : Cond.initialized C ∈ tb) (hG : am_Good l base ad cA cl tg D kz zc zf stl strl tb mt (d, mi, pc + 3, L, .inr (.inr (M.1.length : Int)) :: st, am_new M a b (fun _ => 0)) r M') : am_Good l base ad cA cl tg D kz zc zf stl strl tb mt (d, mi, pc, L, st, M) r M' := by
  refine ⟨(List.prefix_append _ _).trans hG.1, ?_⟩
  intro p e s m args below meth c0 H locs ls R cells slots k0 j0 mc ms hcx hL hst hWd hS hfr hlo hk0 hj0 hmc hms hRc hRs
  have hcx0 := hcx
  obtain ⟨hx, hb, hml, hown, hts, hr, hlocks, hname, hK⟩ := hcx
  obtain ⟨u1, u2⟩ := am_sum_le hG.1
  obtain ⟨n1, n2⟩ := am_new_cnt hWd.2.1 a b (fun _ => 0)
  exact am_new_ok hx hb hts hC had hown hK.1 hWd hS hc h1 h2 h3 (by omega) (by omega) hd (fun H1 hW1 hS1 => hG.2 p e s m args below meth c0 H1 locs ls R (cells + 1) (slots + b) k0 j0 mc ms hcx0 hL (am_okv_cons.mpr ⟨trivial, hst⟩) hW1 hS1 hfr hlo (by omega) (by omega) hmc hms hRc hRs)
theorem am_good_newa (had : am_Ad base ad) {atype : ArrayType} {n : Int} (hd : decode (mt mi).2.1 pc = .ok (.newarray atype, 2)) (hso : (atype = .int ∧ a = 100) ∨ (atype = .long ∧ a = 101) ∨ (atype = .byte ∧ a = 102) ∨ (atype = .boolean ∧ a = 103)) (h1 : Cond.arrayClass (newarray.typeOf atype) ∈ tb) (h0 : 0 ≤ n) (hn : n ≤ 1000000) (hG : am_Good l base ad cA cl tg D kz zc zf stl strl tb mt (d, mi, pc + 2, L, .inr (.inr (M.1.length : Int)) :: st, am_new M a n.toNat (fun _ => 0)) r M') : am_Good l base ad cA cl tg D kz zc zf stl strl tb mt (d, mi, pc, L, .inl n :: st, M) r M' := by
  refine ⟨(List.prefix_append _ _).trans hG.1, ?_⟩
  intro p e s m args below meth c0 H locs ls R cells slots k0 j0 mc ms hcx hL hst hWd hS hfr hlo hk0 hj0 hmc hms hRc hRs
  have hcx0 := hcx
  obtain ⟨hx, hb, hml, hown, hts, hr, hlocks, hname, hK⟩ := hcx
  obtain ⟨u1, u2⟩ := am_sum_le hG.1
  obtain ⟨n1, n2⟩ := am_new_cnt hWd.2.1 a n.toNat (fun _ => 0)
  have hst0 := (am_okv_cons.mp hst).2
  exact am_newa_ok hx hb hts had hK.1 hWd hS hso h1 h0 hn (by omega) (by omega) hd (fun H1 hW1 hS1 => hG.2 p e s m args below meth c0 H1 locs ls R (cells + 1) (slots + n.toNat) k0 j0 mc ms hcx0 hL (am_okv_cons.mpr ⟨trivial, hst0⟩) hW1 hS1 hfr hlo (by omega) (by omega) hmc hms hRc hRs)
theorem am_good_newm (hmna : am_MnaRow l base ad cA cl tg D tb) (had : am_Ad base ad) {idx : Nat} {n k : Int} (hd : decode (mt mi).2.1 pc = .ok (.multianewarray idx 2, 4)) (h1 : Cond.classLink (mt mi).1.cls idx "[[I" ∈ tb) (h3 : Cond.arrayClass .int ∈ tb) (hn0 : 0 ≤ n) (hn : n ≤ 1000) (hk0 : 0 ≤ k) (hk : k ≤ 1000) (h31 : 31 ≤ M.1.length) (hG : am_Good l base ad cA cl tg D kz zc zf stl strl tb mt (d, mi, pc + 4, L, .inr (.inr (M.1.length : Int)) :: st, am_news (am_new M 104 n.toNat (fun j => (M.1.length + 1 + j : Nat))) 100 k.toNat n.toNat) r M') : am_Good l base ad cA cl tg D kz zc zf stl strl tb mt (d, mi, pc, L, .inl k :: .inl n :: st, M) r M' := by
  refine ⟨(List.prefix_append M.1 ((104, n.toNat) :: am_gap M.1.length)).trans ((am_news_pre (am_new M 104 n.toNat (fun j => (M.1.length + 1 + j : Nat))) 100 k.toNat n.toNat).trans hG.1), ?_⟩
  intro p e s m args below meth c0 H locs ls R cells slots k0 j0 mc ms hcx hL hst hWd hS hfr hlo hk0 hj0 hmc hms hRc hRs
  have hcx0 := hcx
  obtain ⟨hx, hb, hml, hown, hts, hr, hlocks, hname, hK⟩ := hcx
  obtain ⟨u1, u2⟩ := am_sum_le hG.1
  obtain ⟨n1, n2⟩ := am_new_len h31 104 n.toNat (fun j => (M.1.length + 1 + j : Nat))
  obtain ⟨n3, n4⟩ := am_news_len (M := am_new M 104 n.toNat (fun j => (M.1.length + 1 + j : Nat))) (by omega) 100 k.toNat n.toNat
  rw [am_ix_hi (a := (am_news (am_new M 104 n.toNat (fun j => (M.1.length + 1 + j : Nat))) 100 k.toNat n.toNat).1.length) (by omega)] at u1
  rw [am_ix_hi h31] at hk0
  have n5 := am_ix_hi (a := (am_news (am_new M 104 n.toNat (fun j => (M.1.length + 1 + j : Nat))) 100 k.toNat n.toNat).1.length) (by omega)
  have hst0 := (am_okv_cons.mp (am_okv_cons.mp hst).2).2
  exact hmna p e R s m args below meth c0 H locs cells slots _ _ pc ls M (mt mi).1.cls idx n k st hx hb hts had hown hK.1 hWd hS h1 (over_moved (Vm.Alike.refl s.vm) hK.2.2.2.2.2) h3 hn0 hn (by assumption) hk h31 (by omega) (by omega) hd (fun H1 hW1 hS1 => hG.2 p e s m args below meth c0 H1 locs ls R _ _ k0 j0 mc ms hcx0 hL (am_okv_cons.mpr ⟨trivial, hst0⟩) hW1 hS1 hfr hlo (by omega) (by omega) hmc hms hRc hRs)
theorem am_good_copy (had : am_Ad base ad) {idx : Nat} {n dp sp x y : Int} {n0 n1 : Nat} (hd : decode (mt mi).2.1 pc = .ok (.invokestatic idx, 3)) (hw1 : Cond.methodLink (mt mi).1.cls idx arraycopyName ∈ tb) (hw2 : Cond.native arraycopyName ∈ tb) (hw3 : Cond.static arraycopyName ∈ tb) (hw4 : Cond.initialized "java/lang/System" ∈ tb) (hx0 : 0 < x) (hy0 : 0 < y) (hne : x ≠ y) (hM0 : M.1[x.toNat]? = some (100, n0)) (hM1 : M.1[y.toNat]? = some (100, n1)) (h1 : 0 ≤ sp) (h2 : 0 ≤ dp) (h3 : 0 ≤ n) (h4 : sp + n ≤ n0) (h5 : dp + n ≤ n1) (hd1 : 1 ≤ d) (hcat : (st.map am_cat).sum ≤ 8) (hG : am_Good l base ad cA cl tg D kz zc zf stl strl tb mt (d, mi, pc + 3, L, st, (M.1, fun r' j => if r' = y.toNat ∧ dp ≤ (j : Int) ∧ (j : Int) < dp + n then M.2 x.toNat ((j : Int) - dp + sp).toNat else M.2 r' j)) r M') : am_Good l base ad cA cl tg D kz zc zf stl strl tb mt (d, mi, pc, L, .inl n :: .inl dp :: .inr (.inr y) :: .inl sp :: .inr (.inr x) :: st, M) r M' := by
  refine ⟨hG.1, ?_⟩
  intro p e s m args below meth c0 H locs ls R cells slots k0 j0 mc ms hcx hL hst hWd hS hfr hlo hk0 hj0 hmc hms hRc hRs
  have hcx0 := hcx
  obtain ⟨hx, hb, hml, hown, hts, hr, hlocks, hname, hK⟩ := hcx
  have hst0 := (am_okv_cons.mp (am_okv_cons.mp (am_okv_cons.mp (am_okv_cons.mp (am_okv_cons.mp hst).2).2).2).2).2
  simp only [List.map_cons]
  rw [am_up_ref (show y ≠ 0 ∧ y ≠ -8 by omega), am_up_ref (show x ≠ 0 ∧ x ≠ -8 by omega)]
  exact am_copy_ok hx hb hts had hown (by rw [hml]; exact hL.1.symm) hK.1 hWd hS hw1 hw2 hw3 hw4 hx0 hy0 hne hM0 hM1 h1 h2 h3 h4 h5 (by omega) (by
    have e7 : nativeFrameWords "java/lang/System" "arraycopy" 5 = 7 := by decide
    rw [e7]; omega) hd (fun H1 locs1 hW1 hS1 => hG.2 p e s m args below meth c0 H1 locs1 ls R cells slots k0 j0 mc ms hcx0 hL hst0 hW1 hS1 hfr hlo hk0 hj0 hmc hms hRc hRs)
theorem am_good_obj {idx : Nat} {x : Int} (hd : decode (mt mi).2.1 pc = .ok (.invokespecial idx, 3)) (hw1 : Cond.methodLink (mt mi).1.cls idx Lib.objectInit ∈ tb) (hw2 : Cond.instanceMethod Lib.objectInit ∈ tb) (hw3 : Cond.code Lib.objectInit ⟨#[0xb1]⟩ 1 none ∈ tb) (hx0 : 0 < x) (hd1 : 1 ≤ d) (hcat : (st.map am_cat).sum ≤ 8) (hG : am_Good l base ad cA cl tg D kz zc zf stl strl tb mt (d, mi, pc + 3, L, st, M) r M') : am_Good l base ad cA cl tg D kz zc zf stl strl tb mt (d, mi, pc, L, .inr (.inr x) :: st, M) r M' := by
  refine ⟨hG.1, ?_⟩
  intro p e s m args below meth c0 H locs ls R cells slots k0 j0 mc ms hcx hL hst hWd hS hfr hlo hk0 hj0 hmc hms hRc hRs
  have hcx0 := hcx
  obtain ⟨hx, hb, hml, hown, hts, hr, hlocks, hname, hK⟩ := hcx
  have hst0 := (am_okv_cons.mp hst).2
  rw [List.map_cons, am_up_ref (by omega)]
  have ec : ((st.map (am_up ad)).map fun v => v.category) = st.map am_cat := by
    rw [List.map_map]; apply List.map_congr_left; intro v _; exact am_up_cat ad v
  exact W.objInit hx hb hown (hts _ hw1) (hts _ hw2) (hts _ hw3) rfl (by rw [hml]; exact hL.1) rfl hd (by omega) (by
    show 2 * 0 + ((st.map (am_up ad)).map fun v => v.category).sum + 12 ≤ _
    rw [ec]; omega) (hG.2 p e s m args below meth c0 H locs ls R cells slots k0 j0 mc ms hcx0 hL hst0 hWd hS hfr hlo hk0 hj0 hmc hms hRc hRs)
theorem am_prim_inv {a : Nat} {st st' : List am_V} (h : am_prim a st = some st') : (∃ x y t, a = 9990 ∧ st = .inl y :: .inl x :: t ∧ st' = .inl (if x < y then y else x) :: t) ∨ (∃ x y t, a = 9991 ∧ st = .inl y :: .inl x :: t ∧ st' = .inl (if y < x then y else x) :: t) ∨ (∃ x t, a = 9992 ∧ st = .inl x :: t ∧ st' = .inl (if 0 ≤ x then x else w32 (-x)) :: t) ∨
    (∃ x y t, a = 9993 ∧ st = .inr (.inl y) :: .inr (.inl x) :: t ∧ st' = .inr (.inl (if y < x then x else y)) :: t) ∨ (∃ x y t, a = 9994 ∧ st = .inr (.inl y) :: .inr (.inl x) :: t ∧ st' = .inr (.inl (if y < x then y else x)) :: t) ∨ (∃ x y t, a = 9995 ∧ y ≠ 0 ∧ st = .inl y :: .inl x :: t ∧ st' = .inl (Int.fmod x y) :: t) ∨ (∃ x y t, a = 9996 ∧ y ≠ 0 ∧ st = .inl y :: .inl x :: t ∧ st' = .inl (w32 (Int.fdiv x y)) :: t) := by
  unfold am_prim at h
  split at h
  · cases h; exact Or.inl ⟨_, _, _, rfl, rfl, rfl⟩
  · cases h; exact Or.inr (Or.inl ⟨_, _, _, rfl, rfl, rfl⟩)
  · cases h; exact Or.inr (Or.inr (Or.inl ⟨_, _, rfl, rfl, rfl⟩))
  · cases h; exact Or.inr (Or.inr (Or.inr (Or.inl ⟨_, _, _, rfl, rfl, rfl⟩)))
  · cases h; exact Or.inr (Or.inr (Or.inr (Or.inr (Or.inl ⟨_, _, _, rfl, rfl, rfl⟩))))
  · split at h
    · cases h
    · rename_i q; cases h; exact Or.inr (Or.inr (Or.inr (Or.inr (Or.inr (Or.inl ⟨_, _, _, rfl, q, rfl, rfl⟩)))))
  · split at h
    · cases h
    · rename_i q; cases h; exact Or.inr (Or.inr (Or.inr (Or.inr (Or.inr (Or.inr ⟨_, _, _, rfl, q, rfl, rfl⟩)))))
  · cases h
theorem am_fmod_in {x y : Int} (hx : in32 x) (hy : in32 y) (h : y ≠ 0) : in32 (Int.fmod x y) := by
  unfold in32 at *
  rcases Int.lt_or_gt_of_ne h with h | h
  · have e1 := Int.neg_fmod_neg x y
    have h1 := Int.fmod_nonneg_of_pos (-x) (show 0 < -y by omega)
    have h2 := Int.fmod_lt_of_pos (-x) (show 0 < -y by omega)
    omega
  · have h1 := Int.fmod_nonneg_of_pos x h
    have h2 := Int.fmod_lt_of_pos x h
    omega
theorem am_good_prim (hflm : am_FlRow l am_flm prog_17_method_50_code Int.fmod) (hfld : am_FlRow l am_fld prog_17_method_47_code (fun x y => w32 (Int.fdiv x y))) {idx : Nat} (hd : decode (mt mi).2.1 pc = .ok (.invokestatic idx, 3)) (hw : am_okPr tb (mt mi).1.cls idx a) (h : am_prim a st = some st') (hd1 : 1 ≤ d) (hcat : (st.map am_cat).sum ≤ 12) (hG : am_Good l base ad cA cl tg D kz zc zf stl strl tb mt (d, mi, pc + 3, L, st', M) r M') : am_Good l base ad cA cl tg D kz zc zf stl strl tb mt (d, mi, pc, L, st, M) r M' := by
  refine ⟨hG.1, ?_⟩
  intro p e s m args below meth c0 H locs ls R cells slots k0 j0 mc ms hcx hL hst hWd hS hfr hlo hk0 hj0 hmc hms hRc hRs
  have hcx0 := hcx
  obtain ⟨hx, hb, hml, hown, hts, hr, hlocks, hname, hK⟩ := hcx
  obtain ⟨u1, u2⟩ := am_sum_le hG.1
  have hml2 : c0.maxLocals = ls.size := by rw [hml]; exact hL.1.symm
  have kk := fun hst' => hG.2 p e s m args below meth c0 H locs ls R cells slots k0 j0 mc ms hcx0 hL hst' hWd hS hfr hlo hk0 hj0 hmc hms hRc hRs
  have ec : ∀ t : List am_V, ((t.map (am_up ad)).map fun v => v.category) = t.map am_cat := fun t => by
    rw [List.map_map]; apply List.map_congr_left; intro v _; exact am_up_cat ad v
  rcases am_prim_inv h with ⟨x, y, t, rfl, rfl, rfl⟩ | ⟨x, y, t, rfl, rfl, rfl⟩ | ⟨x, t, rfl, rfl, rfl⟩ | ⟨x, y, t, rfl, rfl, rfl⟩ | ⟨x, y, t, rfl, rfl, rfl⟩ | ⟨x, y, t, rfl, hy0, rfl, rfl⟩ | ⟨x, y, t, rfl, hy0, rfl, rfl⟩
  · obtain ⟨w1, w2, w3, w4⟩ := hw
    obtain ⟨q1, q2⟩ := am_okv_cons.mp hst; obtain ⟨q3, q4⟩ := am_okv_cons.mp q2
    have q1 : in32 y := q1
    have q3 : in32 x := q3
    have hc2 : (t.map am_cat).sum + 2 ≤ 12 := by have e9 : (List.map am_cat (Sum.inl y :: Sum.inl x :: t)).sum = 1 + (1 + (t.map am_cat).sum) := by simp [am_cat]
                                                 omega
    have kk := kk (am_okv_cons.mpr ⟨by show in32 _; split <;> assumption, q4⟩)
    refine va_mmax hx hb hml2 hown (hts _ w1) (hts _ w2) (hts _ w3) (hts _ w4) (by omega) (by rw [ec]; omega) (by omega) (by omega) hd ?_
    have e1 : (if Int32.ofInt x < Int32.ofInt y then Int32.ofInt y else Int32.ofInt x) = Int32.ofInt (if x < y then y else x) := by
      by_cases h1 : x < y
      · rw [if_pos h1, if_pos ((i32_lt q3 q1).mpr h1)]
      · rw [if_neg h1, if_neg (fun z => h1 ((i32_lt q3 q1).mp z))]
    rw [e1]; exact kk
  · obtain ⟨w1, w2, w3, w4⟩ := hw
    obtain ⟨q1, q2⟩ := am_okv_cons.mp hst; obtain ⟨q3, q4⟩ := am_okv_cons.mp q2
    have q1 : in32 y := q1
    have q3 : in32 x := q3
    have hc2 : (t.map am_cat).sum + 2 ≤ 12 := by have e9 : (List.map am_cat (Sum.inl y :: Sum.inl x :: t)).sum = 1 + (1 + (t.map am_cat).sum) := by simp [am_cat]
                                                 omega
    have kk := kk (am_okv_cons.mpr ⟨by show in32 _; split <;> assumption, q4⟩)
    refine va_mmin hx hb hml2 hown (hts _ w1) (hts _ w2) (hts _ w3) (hts _ w4) (by omega) (by rw [ec]; omega) (by omega) (by omega) hd ?_
    have e1 : (if Int32.ofInt y < Int32.ofInt x then Int32.ofInt y else Int32.ofInt x) = Int32.ofInt (if y < x then y else x) := by
      by_cases h1 : y < x
      · rw [if_pos h1, if_pos ((i32_lt q1 q3).mpr h1)]
      · rw [if_neg h1, if_neg (fun z => h1 ((i32_lt q1 q3).mp z))]
    rw [e1]; exact kk
  · obtain ⟨w1, w2, w3, w4⟩ := hw
    obtain ⟨q3, q4⟩ := am_okv_cons.mp hst
    have q3 : in32 x := q3
    have z0 : in32 0 := by unfold in32; omega
    have hc2 : (t.map am_cat).sum + 1 ≤ 12 := by have e9 : (List.map am_cat (Sum.inl x :: t)).sum = 1 + (t.map am_cat).sum := by simp [am_cat]
                                                 omega
    have hin : in32 (if 0 ≤ x then x else w32 (-x)) := by
      split
      · exact q3
      · exact w32_in _
    have kk := kk (am_okv_cons.mpr ⟨hin, q4⟩)
    refine va_mabs hx hb hml2 hown (hts _ w1) (hts _ w2) (hts _ w3) (hts _ w4) (by omega) (by rw [ec]; omega) (by omega) (by omega) hd ?_
    have e1 : (if 0 ≤ Int32.ofInt x then Int32.ofInt x else 0 - Int32.ofInt x) = Int32.ofInt (if 0 ≤ x then x else w32 (-x)) := by
      have i0 : (0 : Int32) = Int32.ofInt 0 := rfl
      rw [i0]
      by_cases h1 : 0 ≤ x
      · rw [if_pos h1, if_pos ((i32_le z0 q3).mpr h1)]
      · rw [if_neg h1, if_neg (fun z => h1 ((i32_le z0 q3).mp z)), show -x = 0 - x by omega, i32_sub]
    rw [e1]; exact kk
  · obtain ⟨w1, w2, w3, w4⟩ := hw
    obtain ⟨q1, q2⟩ := am_okv_cons.mp hst; obtain ⟨q3, q4⟩ := am_okv_cons.mp q2
    have q1 : in64 y := q1
    have q3 : in64 x := q3
    have hc2 : (t.map am_cat).sum + 4 ≤ 12 := by have e9 : (List.map am_cat (Sum.inr (Sum.inl y) :: Sum.inr (Sum.inl x) :: t)).sum = 2 + (2 + (t.map am_cat).sum) := by simp [am_cat]
                                                 omega
    have kk := kk (am_okv_cons.mpr ⟨by show in64 _; split <;> assumption, q4⟩)
    refine va_mmax_long hx hb hml2 hown (hts _ w1) (hts _ w2) (hts _ w3) (hts _ w4) (by omega) (by rw [ec]; omega) (by omega) (by omega) hd ?_
    have e1 : (if Int64.ofInt y < Int64.ofInt x then Int64.ofInt x else Int64.ofInt y) = Int64.ofInt (if y < x then x else y) := by
      by_cases h1 : y < x
      · rw [if_pos h1, if_pos ((i64_lt q1 q3).mpr h1)]
      · rw [if_neg h1, if_neg (fun z => h1 ((i64_lt q1 q3).mp z))]
    rw [e1]; exact kk
  · obtain ⟨w1, w2, w3, w4⟩ := hw
    obtain ⟨q1, q2⟩ := am_okv_cons.mp hst; obtain ⟨q3, q4⟩ := am_okv_cons.mp q2
    have q1 : in64 y := q1
    have q3 : in64 x := q3
    have hc2 : (t.map am_cat).sum + 4 ≤ 12 := by have e9 : (List.map am_cat (Sum.inr (Sum.inl y) :: Sum.inr (Sum.inl x) :: t)).sum = 2 + (2 + (t.map am_cat).sum) := by simp [am_cat]
                                                 omega
    have kk := kk (am_okv_cons.mpr ⟨by show in64 _; split <;> assumption, q4⟩)
    refine va_mmin_long hx hb hml2 hown (hts _ w1) (hts _ w2) (hts _ w3) (hts _ w4) (by omega) (by rw [ec]; omega) (by omega) (by omega) hd ?_
    have e1 : (if Int64.ofInt y < Int64.ofInt x then Int64.ofInt y else Int64.ofInt x) = Int64.ofInt (if y < x then y else x) := by
      by_cases h1 : y < x
      · rw [if_pos h1, if_pos ((i64_lt q1 q3).mpr h1)]
      · rw [if_neg h1, if_neg (fun z => h1 ((i64_lt q1 q3).mp z))]
    rw [e1]; exact kk
  · obtain ⟨w1, w2, w3, w4⟩ := hw
    obtain ⟨q1, q2⟩ := am_okv_cons.mp hst; obtain ⟨q3, q4⟩ := am_okv_cons.mp q2
    have hc2 : (t.map am_cat).sum + 2 ≤ 12 := by have e9 : (List.map am_cat (Sum.inl y :: Sum.inl x :: t)).sum = 1 + (1 + (t.map am_cat).sum) := by simp [am_cat]
                                                 omega
    exact hflm p e R s m args below meth c0 H locs cells slots _ _ pc ls _ idx x y _ hx hb hml2 hown (hts _ w1) (hts _ w2) (hts _ w3) (hts _ w4) (by omega) (by rw [ec]; omega) (by omega) (by omega) hd q3 q1 hy0 (kk (am_okv_cons.mpr ⟨am_fmod_in q3 q1 hy0, q4⟩))
  · obtain ⟨w1, w2, w3, w4⟩ := hw
    obtain ⟨q1, q2⟩ := am_okv_cons.mp hst; obtain ⟨q3, q4⟩ := am_okv_cons.mp q2
    have hc2 : (t.map am_cat).sum + 2 ≤ 12 := by have e9 : (List.map am_cat (Sum.inl y :: Sum.inl x :: t)).sum = 1 + (1 + (t.map am_cat).sum) := by simp [am_cat]
                                                 omega
    exact hfld p e R s m args below meth c0 H locs cells slots _ _ pc ls _ idx x y _ hx hb hml2 hown (hts _ w1) (hts _ w2) (hts _ w3) (hts _ w4) (by omega) (by rw [ec]; omega) (by omega) (by omega) hd q3 q1 hy0 (kk (am_okv_cons.mpr ⟨w32_in _, q4⟩))
end AMS
