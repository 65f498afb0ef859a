/-! the machine itself -/
def am_b32 (f : Int → Int → Int) (L : am_L) : List am_V → Option (am_L × List am_V)
  | .inl y :: .inl x :: st => some (L, .inl (f x y) :: st)
  | _ => none
def am_q32 (f : Int → Int → Int) (L : am_L) : List am_V → Option (am_L × List am_V)
  | .inl y :: .inl x :: st => if y = 0 then none else some (L, .inl (f x y) :: st)
  | _ => none
def am_b64 (f : Int → Int → Int) (L : am_L) : List am_V → Option (am_L × List am_V)
  | .inr (.inl y) :: .inr (.inl x) :: st => some (L, .inr (.inl (f x y)) :: st)
  | _ => none
def am_q64 (f : Int → Int → Int) (L : am_L) : List am_V → Option (am_L × List am_V)
  | .inr (.inl y) :: .inr (.inl x) :: st => if y = 0 then none else some (L, .inr (.inl (f x y)) :: st)
  | _ => none
def am_s64 (f : Int → Int → Int) (L : am_L) : List am_V → Option (am_L × List am_V)
  | .inl y :: .inr (.inl x) :: st => some (L, .inr (.inl (f x y)) :: st)
  | _ => none
def am_c64 (f : Int → Int → Int) (L : am_L) : List am_V → Option (am_L × List am_V)
  | .inr (.inl y) :: .inr (.inl x) :: st => some (L, .inl (f x y) :: st)
  | _ => none
def am_u32 (f : Int → Int) (L : am_L) : List am_V → Option (am_L × List am_V)
  | .inl x :: st => some (L, .inl (f x) :: st)
  | _ => none
def am_ul (L : am_L) : List am_V → Option (am_L × List am_V)
  | .inl x :: st => some (L, .inr (.inl x) :: st)
  | _ => none
def am_li (L : am_L) : List am_V → Option (am_L × List am_V)
  | .inr (.inl x) :: st => some (L, .inl (w32 x) :: st)
  | _ => none
def am_u64 (f : Int → Int) (L : am_L) : List am_V → Option (am_L × List am_V)
  | .inr (.inl x) :: st => some (L, .inr (.inl (f x)) :: st)
  | _ => none
def am_ldi (a : Nat) (L : am_L) (st : List am_V) : Option (am_L × List am_V) := match L[a]? with
  | some (some (.inl x)) => some (L, .inl x :: st)
  | _ => none
def am_ldl (a : Nat) (L : am_L) (st : List am_V) : Option (am_L × List am_V) := match L[a]? with
  | some (some (.inr (.inl x))) => some (L, .inr (.inl x) :: st)
  | _ => none
def am_lda (a : Nat) (L : am_L) (st : List am_V) : Option (am_L × List am_V) := match L[a]? with
  | some (some (.inr (.inr x))) => if x = 0 ∨ x = -8 then none else some (L, .inr (.inr x) :: st)
  | _ => none
def am_cut (L : am_L) : Nat → am_L
  | 0 => L
  | j + 1 => match L[j]? with
    | some (some (.inr (.inl _))) => L.set j none
    | _ => L
def am_st1 (L : am_L) (i : Nat) (v : am_V) : am_L := (am_cut L i).set i (some v)
def am_st2 (L : am_L) (i : Nat) (v : am_V) : am_L := ((am_cut L i).set (i + 1) none).set i (some v)
def am_sti (a : Nat) (L : am_L) : List am_V → Option (am_L × List am_V)
  | .inl x :: st => if a < L.length then some (am_st1 L a (.inl x), st) else none
  | _ => none
def am_sta (a : Nat) (L : am_L) : List am_V → Option (am_L × List am_V)
  | .inr (.inr x) :: st => if a < L.length ∧ x ≠ 0 ∧ x ≠ -8 then some (am_st1 L a (.inr (.inr x)), st) else none
  | _ => none
def am_stl (a : Nat) (L : am_L) : List am_V → Option (am_L × List am_V)
  | .inr (.inl x) :: st => if a + 1 < L.length then some (am_st2 L a (.inr (.inl x)), st) else none
  | _ => none
def am_inc (a : Nat) (c : Int) (L : am_L) (st : List am_V) : Option (am_L × List am_V) := match L[a]? with
  | some (some (.inl x)) => some (am_st1 L a (.inl (w32 (x + c))), st)
  | _ => none
def am_cat : am_V → Nat
  | .inr (.inl _) => 2
  | _ => 1
def am_dup (L : am_L) : List am_V → Option (am_L × List am_V)
  | v :: st => if am_cat v = 1 then some (L, v :: v :: st) else none
  | _ => none
def am_pop (L : am_L) : List am_V → Option (am_L × List am_V)
  | v :: st => if am_cat v = 1 then some (L, st) else none
  | _ => none
def am_dup2 (L : am_L) : List am_V → Option (am_L × List am_V)
  | v :: st => if am_cat v = 2 then some (L, v :: v :: st) else match st with
    | u :: st => if am_cat u = 1 then some (L, v :: u :: v :: u :: st) else none
    | _ => none
  | _ => none
/-- instructions that touch locals and stack alone -/
def am_pure (ins : Instr) (a : Nat) (c : Int) (L : am_L) (st : List am_V) : Option (am_L × List am_V) := match ins with
  | .iconst _ => some (L, .inl c :: st)
  | .bipush _ => some (L, .inl c :: st)
  | .sipush _ => some (L, .inl c :: st)
  | .ldc _ => some (L, (if a = 0 then .inl c else .inr (.inr c)) :: st)
  | .ldc_w _ => some (L, .inl c :: st)
  | .lconst _ => some (L, .inr (.inl c) :: st)
  | .ldc2_w _ => some (L, .inr (.inl c) :: st)
  | .iload_n _ => am_ldi a L st
  | .iload _ => am_ldi a L st
  | .lload_n _ => am_ldl a L st
  | .lload _ => am_ldl a L st
  | .aload_n _ => am_lda a L st
  | .aload _ => am_lda a L st
  | .istore_n _ => am_sti a L st
  | .istore _ => am_sti a L st
  | .lstore_n _ => am_stl a L st
  | .lstore _ => am_stl a L st
  | .astore_n _ => am_sta a L st
  | .astore _ => am_sta a L st
  | .iinc _ _ => am_inc a c L st
  | .dup => am_dup L st
  | .dup2 => am_dup2 L st
  | .pop => am_pop L st
  | .iadd => am_b32 (fun x y => w32 (x + y)) L st
  | .isub => am_b32 (fun x y => w32 (x - y)) L st
  | .imul => am_b32 (fun x y => w32 (x * y)) L st
  | .idiv => am_q32 (fun x y => w32 (Int.tdiv x y)) L st
  | .irem => am_q32 (fun x y => Int.tmod x y) L st
  | .ineg => am_u32 (fun x => w32 (-x)) L st
  | .iand => am_b32 am_and L st
  | .ior => am_b32 am_or L st
  | .ixor => am_b32 am_xor L st
  | .ishl => am_b32 am_shl L st
  | .ishr => am_b32 am_shr L st
  | .iushr => am_b32 am_ushr L st
  | .ladd => am_b64 (fun x y => w64 (x + y)) L st
  | .lsub => am_b64 (fun x y => w64 (x - y)) L st
  | .lmul => am_b64 (fun x y => w64 (x * y)) L st
  | .ldiv => am_q64 (fun x y => w64 (Int.tdiv x y)) L st
  | .lrem => am_q64 (fun x y => Int.tmod x y) L st
  | .lneg => am_u64 (fun x => w64 (-x)) L st
  | .land => am_b64 am_land L st
  | .lor => am_b64 am_lor L st
  | .lshl => am_s64 am_lshl L st
  | .lshr => am_s64 am_lshr L st
  | .lcmp => am_c64 am_lcmp L st
  | .i2l => am_ul L st
  | .l2i => am_li L st
  | .i2b => am_u32 (fun x => (Int32.ofInt x).toInt8.toInt32.toInt) L st
  | .i2c => am_u32 (fun x => ((Int32.ofInt x).toUInt32 % 65536).toInt32.toInt) L st
  | _ => none
/-- branches: whether it jumps, and what is left of the stack -/
def am_cnd (cnd : ClassFile.Cond) (x y : Int) : Bool := match cnd with
  | .eq => decide (x = y)
  | .ne => decide (¬ x = y)
  | .lt => decide (x < y)
  | .ge => decide (y ≤ x)
  | .gt => decide (y < x)
  | .le => decide (x ≤ y)
def am_if1 (cnd : ClassFile.Cond) : List am_V → Option (Bool × List am_V)
  | .inl x :: st => some (am_cnd cnd x 0, st)
  | _ => none
def am_if2 (cnd : ClassFile.Cond) : List am_V → Option (Bool × List am_V)
  | .inl y :: .inl x :: st => some (am_cnd cnd x y, st)
  | _ => none
def am_tv (t : Nat) (x : Int) : am_V := match t with
  | 1 => .inr (.inl x)
  | 2 => .inr (.inr x)
  | _ => .inl x
def am_pv (t : Nat) (v : am_V) : Option Int := match t, v with
  | 0, .inl x => some x
  | 1, .inr (.inl x) => some x
  | 2, .inr (.inr x) => some x
  | 3, .inl x => if x = 0 ∨ x = 1 then some x else none
  | _, _ => none
def am_upd (V : Nat → Nat → Int) (r j : Nat) (x : Int) : Nat → Nat → Int := fun r' j' => if r' = r ∧ j' = j then x else V r' j'
def am_cell (kz : am_Z) (M : am_M) (r : Int) : Option (Nat × Nat × (Nat → Int)) :=
  if 0 < r then match M.1[r.toNat]? with
    | some (so, n) => some (so, n, M.2 r.toNat)
    | none => none
  else if r < 0 then some (kz (-r).toNat) else none
/-- getfield: class a, field b, tag c -/
def am_getf (kz : am_Z) (a b : Nat) (c : Int) (M : am_M) : List am_V → Option (List am_V)
  | .inr (.inr r) :: st => match am_cell kz M r with
    | some (so, _, f) => if so = a then some (am_tv c.toNat (f b) :: st) else none
    | none => none
  | _ => none
def am_putf (a b : Nat) (c : Int) (M : am_M) : List am_V → Option (List am_V × am_M)
  | v :: .inr (.inr r) :: st => if 0 < r then match M.1[r.toNat]? with
      | some (so, _) => if so = a then match am_pv c.toNat v with
        | some x => some (st, (M.1, am_upd M.2 r.toNat b x))
        | none => none
        else none
      | none => none
    else none
  | _ => none
/-- reading an array: sorts 100 int, 101 long, 102 byte, 103 boolean, 104 rows of ints -/
def am_ald (kz : am_Z) (ok : Nat → Bool) (t : Nat) (M : am_M) : List am_V → Option (List am_V)
  | .inl i :: .inr (.inr r) :: st => match am_cell kz M r with
    | some (so, n, f) => if ok so = true ∧ 0 ≤ i ∧ i < n then some (am_tv t (f i.toNat) :: st) else none
    | none => none
  | _ => none
def am_alen (kz : am_Z) (M : am_M) : List am_V → Option (List am_V)
  | .inr (.inr r) :: st => match am_cell kz M r with
    | some (so, n, _) => if 100 ≤ so ∧ n < 2147483648 then some (.inl (n : Int) :: st) else none
    | none => none
  | _ => none
def am_fit (so : Nat) (x : Int) : Bool := match so with
  | 102 => decide (-128 ≤ x ∧ x < 128)
  | 103 => decide (x = 0 ∨ x = 1)
  | _ => true
def am_ast (ok : Nat → Bool) (t : Nat) (M : am_M) : List am_V → Option (List am_V × am_M)
  | v :: .inl i :: .inr (.inr r) :: st => if 0 < r then match M.1[r.toNat]? with
      | some (so, n) => match am_pv t v with
        | some x => if ok so = true ∧ 0 ≤ i ∧ i < n ∧ am_fit so x = true then some (st, (M.1, am_upd M.2 r.toNat i.toNat x)) else none
        | none => none
      | none => none
    else none
  | _ => none
/-- the numbers of cells have a gap: behind number 28 two stand for nothing -/
def am_gap (n : Nat) : List (Nat × Nat) := if n = 28 then [(77, 0), (77, 0)] else []
def am_new (M : am_M) (so n : Nat) (f : Nat → Int) : am_M := (M.1 ++ ((so, n) :: am_gap M.1.length), fun r j => if r = M.1.length then f j else M.2 r j)
def am_news (M : am_M) (so n : Nat) : Nat → am_M
  | 0 => M
  | k + 1 => am_new (am_news M so n k) so n (fun _ => 0)
def am_newa (a : Nat) (M : am_M) : List am_V → Option (List am_V × am_M)
  | .inl n :: st => if 0 ≤ n ∧ n ≤ 1000000 then some (.inr (.inr (M.1.length : Int)) :: st, am_new M a n.toNat (fun _ => 0)) else none
  | _ => none
def am_newm (M : am_M) : List am_V → Option (List am_V × am_M)
  | .inl k :: .inl n :: st => if 0 ≤ n ∧ n ≤ 1000 ∧ 0 ≤ k ∧ k ≤ 1000 ∧ 31 ≤ M.1.length then some (.inr (.inr (M.1.length : Int)) :: st, am_news (am_new M 104 n.toNat (fun j => (M.1.length + 1 + j : Nat))) 100 k.toNat n.toNat) else none
  | _ => none
def am_entry (As : List am_V) (maxL : Nat) : am_L :=
  (As.flatMap (fun v => if am_cat v = 2 then [some v, none] else [some v])) ++ List.replicate (maxL - (As.flatMap (fun v => if am_cat v = 2 then [some v, none] else [some v])).length) none
/-- System.arraycopy of int rows -/
def am_copy (M : am_M) : List am_V → Option (List am_V × am_M)
  | .inl n :: .inl dp :: .inr (.inr d) :: .inl sp :: .inr (.inr r) :: st => if 0 < r ∧ 0 < d ∧ r ≠ d then match M.1[r.toNat]?, M.1[d.toNat]? with
      | some (100, n0), some (100, n1) => if 0 ≤ sp ∧ 0 ≤ dp ∧ 0 ≤ n ∧ sp + n ≤ n0 ∧ dp + n ≤ n1 then some (st, (M.1, fun r' j => if r' = d.toNat ∧ dp ≤ (j : Int) ∧ (j : Int) < dp + n then M.2 r.toNat ((j : Int) - dp + sp).toNat else M.2 r' j)) else none
      | _, _ => none
    else none
  | _ => none
/-- Math's own: 9990 max, 9991 min, 9992 abs, 9993 max of longs, 9994 min of longs, 9995 floorMod, 9996 floorDiv -/
def am_prim (a : Nat) (st : List am_V) : Option (List am_V) := match a, st with
  | 9990, .inl y :: .inl x :: st => some (.inl (if x < y then y else x) :: st)
  | 9991, .inl y :: .inl x :: st => some (.inl (if y < x then y else x) :: st)
  | 9992, .inl x :: st => some (.inl (if 0 ≤ x then x else w32 (-x)) :: st)
  | 9993, .inr (.inl y) :: .inr (.inl x) :: st => some (.inr (.inl (if y < x then x else y)) :: st)
  | 9994, .inr (.inl y) :: .inr (.inl x) :: st => some (.inr (.inl (if y < x then y else x)) :: st)
  | 9995, .inl y :: .inl x :: st => if y = 0 then none else some (.inl (Int.fmod x y) :: st)
  | 9996, .inl y :: .inl x :: st => if y = 0 then none else some (.inl (w32 (Int.fdiv x y)) :: st)
  | _, _ => none
def am_go (k : am_S → am_R) (d mi pc : Nat) (L : am_L) (M : am_M) : Option (List am_V) → am_R
  | some st => k (d, mi, pc, L, st, M)
  | none => none
def am_goM (k : am_S → am_R) (d mi pc : Nat) (L : am_L) : Option (List am_V × am_M) → am_R
  | some (st, M) => k (d, mi, pc, L, st, M)
  | none => none
def am_goL (k : am_S → am_R) (d mi pc : Nat) (M : am_M) : Option (am_L × List am_V) → am_R
  | some (L, st) => k (d, mi, pc, L, st, M)
  | none => none
def am_goB (k : am_S → am_R) (d mi pc pt : Nat) (L : am_L) (M : am_M) : Option (Bool × List am_V) → am_R
  | some (b, st) => bif b then k (d, mi, pt, L, st, M) else k (d, mi, pc, L, st, M)
  | none => none
def am_back (k : am_S → am_R) (d mi pc : Nat) (L : am_L) (rest : List am_V) : am_R → am_R
  | some (r, M) => k (d, mi, pc, L, r.toList ++ rest, M)
  | none => none
/-- a call of method a with these arguments, c words of locals; what waits below it is small -/
def am_call (k : am_S → am_R) (d mi pc a : Nat) (c : Int) (L : am_L) (As rest : List am_V) (M : am_M) : am_R := match d with
  | 0 => none
  | d' + 1 => if (rest.map am_cat).sum ≤ 8 ∧ (As.map am_cat).sum ≤ c.toNat then am_back k d mi pc L rest (k (d', a, 0, am_entry As c.toNat, [], M)) else none
def am_ret (rk : Nat) (ins : Instr) (st : List am_V) (M : am_M) : am_R := match ins, rk, st with
  | .return_, 0, [] => some (none, M)
  | .ireturn, 1, [.inl x] => some (some (.inl x), M)
  | .ireturn, 2, [.inl x] => if x = 0 ∨ x = 1 then some (some (.inl x), M) else none
  | .ireturn, 4, [.inl x] => if 0 ≤ x ∧ x < 65536 then some (some (.inl x), M) else none
  | .ireturn, 5, [.inl x] => if -128 ≤ x ∧ x < 128 then some (some (.inl x), M) else none
  | .lreturn, 3, [.inr (.inl x)] => some (some (.inr (.inl x)), M)
  | _, _, _ => none
def am_sw (dflt lo hi : Int) (offs : Array Int) (x : Int) : Option Int := if x < lo ∨ hi < x then some dflt else offs[(x - lo).toNat]?
/-- one step; k: what comes of the state behind it -/
def am_step (cd : Nat → Nat → Option am_I) (rk : Nat → Nat) (kz : am_Z) (k : am_S → am_R) : am_S → am_R
  | (d, mi, pc, L, st, M) => match cd mi pc with
    | none => none
    | some (len, ins, a, b, c) => match ins with
      | .goto _ => k (d, mi, a, L, st, M)
      | .ifCond cnd _ => am_goB k d mi (pc + len) a L M (am_if1 cnd st)
      | .if_icmp cnd _ => am_goB k d mi (pc + len) a L M (am_if2 cnd st)
      | .getfield _ => am_go k d mi (pc + len) L M (am_getf kz a b c M st)
      | .putfield _ => am_goM k d mi (pc + len) L (am_putf a b c M st)
      | .iaload => am_go k d mi (pc + len) L M (am_ald kz (fun so => so == 100) 0 M st)
      | .laload => am_go k d mi (pc + len) L M (am_ald kz (fun so => so == 101) 1 M st)
      | .baload => am_go k d mi (pc + len) L M (am_ald kz (fun so => so == 102 || so == 103) 0 M st)
      | .aaload => am_go k d mi (pc + len) L M (am_ald kz (fun so => so == 104) 2 M st)
      | .arraylength => am_go k d mi (pc + len) L M (am_alen kz M st)
      | .iastore => am_goM k d mi (pc + len) L (am_ast (fun so => so == 100) 0 M st)
      | .lastore => am_goM k d mi (pc + len) L (am_ast (fun so => so == 101) 1 M st)
      | .bastore => am_goM k d mi (pc + len) L (am_ast (fun so => so == 102 || so == 103) 0 M st)
      | .getstatic _ => k (d, mi, pc + len, L, am_tv b c :: st, M)
      | .new _ => k (d, mi, pc + len, L, .inr (.inr (M.1.length : Int)) :: st, am_new M a b (fun _ => 0))
      | .newarray _ => am_goM k d mi (pc + len) L (am_newa a M st)
      | .multianewarray _ _ => am_goM k d mi (pc + len) L (am_newm M st)
      | .invokestatic _ => if a = 9999 then am_goM k d mi (pc + len) L (match d with | 0 => none | _ + 1 => if ((st.drop 5).map am_cat).sum ≤ 8 then am_copy M st else none)
        else if 9990 ≤ a then am_go k d mi (pc + len) L M (match d with | 0 => none | _ + 1 => if (st.map am_cat).sum ≤ 12 then am_prim a st else none)
        else if b ≤ st.length then am_call k d mi (pc + len) a c L (st.take b).reverse (st.drop b) M else none
      | .invokevirtual _ => match st.drop (b % 16) with
        | .inr (.inr r) :: rest => match am_cell kz M r with
          | some (so, _, _) => if so = b / 16 then am_call k d mi (pc + len) a c L (.inr (.inr r) :: (st.take (b % 16)).reverse) rest M else none
          | none => none
        | _ => none
      | .invokespecial _ => match st.drop (b % 16) with
        | .inr (.inr r) :: rest => if a = 9998 then (match d with | 0 => none | _ + 1 => if 0 < r ∧ (rest.map am_cat).sum ≤ 8 then k (d, mi, pc + len, L, rest, M) else none)
          else if 0 < r then am_call k d mi (pc + len) a c L (.inr (.inr r) :: (st.take (b % 16)).reverse) rest M else none
        | _ => none
      | .tableswitch dflt lo hi offs => match st with
        | .inl x :: st => match am_sw dflt lo hi offs x with
          | some off => k (d, mi, ((pc : Int) + off).toNat, L, st, M)
          | none => none
        | _ => none
      | .lookupswitch dflt ps => match st with
        | .inl x :: st => k (d, mi, ((pc : Int) + Op.lookupswitch.offset ps.toList dflt x).toNat, L, st, M)
        | _ => none
      | .ireturn => am_ret (rk mi) .ireturn st M
      | .lreturn => am_ret (rk mi) .lreturn st M
      | .return_ => am_ret (rk mi) .return_ st M
      | i => am_goL k d mi (pc + len) M (am_pure i a c L st)
/-- n steps and calls deep -/
def am_exec (cd : Nat → Nat → Option am_I) (rk : Nat → Nat) (kz : am_Z) : Nat → am_S → am_R
  | 0 => fun _ => none
  | n + 1 => am_step cd rk kz (am_exec cd rk kz n)
/-- n steps of the present frame, then k -/
def am_stepN (cd : Nat → Nat → Option am_I) (rk : Nat → Nat) (kz : am_Z) (k : am_S → am_R) : Nat → am_S → am_R
  | 0 => k
  | n + 1 => am_step cd rk kz (am_stepN cd rk kz k n)
