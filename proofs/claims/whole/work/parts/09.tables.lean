/-! what a program's tables must say, and what holds of the state beside the cells -/
/-- constants: cells that were there before and are only read; number z > 0 stands at reference -z -/
def am_Kz (base : Nat) (ad : Int → Nat) (kz : am_Z) (zc : Nat → String) (zf : Nat → Nat → String × String × String × Nat) (U : State) (H : Heap) : Prop := ∀ (z so n : Nat) (f : Nat → Int), 0 < z → kz z = (so, n, f) → so ≠ 77 →
  (so < 100 → va_O (zc so) (ad (-(z : Int))) (am_A base) U H ∧ ∀ b, b < n → va_OF (zf so b).1 (zf so b).2.1 (zf so b).2.2.1 (am_up ad (am_tv (zf so b).2.2.2 (f b))) (ad (-(z : Int))) (am_A base) U H ∧ am_okt (zf so b).2.2.2 (f b)) ∧
  (100 ≤ so → so < 104 ∧ n < 2147483648 ∧ va_T (am_aty so) (ad (-(z : Int))) n (fun j => am_up ad (am_tv (if so = 101 then 1 else 0) (f j))) (am_A base) U H ∧ ∀ j, j < n → am_oka so (f j))
/-- the links to a nest mate's private method -/
def am_nst : List (String × Nat × MethodName × String) := [("NumberDoor$Judge", 172, ⟨"NumberDoor", "bitAt", "(II)I"⟩, "NumberDoor"), ("NumberDoor$Placing", 58, ⟨"NumberDoor", "bitAt", "(II)I"⟩, "NumberDoor"), ("NumberDoor$Riddle", 57, ⟨"NumberDoor", "bitAt", "(II)I"⟩, "NumberDoor")]
def am_K (base : Nat) (ad : Int → Nat) (cA : Nat → ClassId) (D : va_G) (cl : List vw_C) (kz : am_Z) (zc : Nat → String) (zf : Nat → Nat → String × String × String × Nat) (stl : List (String × String × String × am_V)) (strl : List (String × Nat × String × Int)) (U : State) (H : Heap) : Prop :=
  va_K D cl (am_tys cA) U ∧ am_Kz base ad kz zc zf U H ∧ (∀ q ∈ stl, va_Z q.1 q.2.1 q.2.2.1 (am_up ad q.2.2.2) (am_A base) U H) ∧ (∀ q ∈ strl, vk_R q.1 q.2.1 q.2.2.1 (ad q.2.2.2) U) ∧ (∀ q ∈ am_nst, va_Nw (.methodLinkNest q.1 q.2.1 q.2.2.1 q.2.2.2) U) ∧ (Cond.arrayOver (.array .int)).before #[] U = true
theorem am_K.next {base : Nat} {ad : Int → Nat} {cA : Nat → ClassId} {D : va_G} {cl : List vw_C} {kz : am_Z} {zc : Nat → String} {zf : Nat → Nat → String × String × String × Nat} {stl : List (String × String × String × am_V)} {strl : List (String × Nat × String × Int)} {s U : State} {H H1 : Heap}
    (h : am_K base ad cA D cl kz zc zf stl strl s H) (hk : ∀ q : Nat, q < H.size → ¬ am_A base q → H1[q]? = H[q]?) (hW : s.WarmedH U.vm) : am_K base ad cA D cl kz zc zf stl strl U H1 := by
  obtain ⟨h1, h2, h3, h4, h5, h6⟩ := h
  refine ⟨va_K.moved hW.alike h1, fun z so n f hz hkz h77 => ?_, fun q hq => ((h3 q hq).kept hk).moved hW.alike, fun q hq => (h4 q hq).warm hW, fun q hq => (h5 q hq).warmM hW, over_moved hW.alike h6⟩
  obtain ⟨g1, g2⟩ := h2 z so n f hz hkz h77
  refine ⟨fun q => ⟨((g1 q).1.kept hk).moved hW.alike, fun b hb => ⟨(((g1 q).2 b hb).1.kept hk).moved hW.alike, ((g1 q).2 b hb).2⟩⟩, fun q => ⟨(g2 q).1, (g2 q).2.1, ((g2 q).2.2.1.kept hk).moved hW.alike, (g2 q).2.2.2⟩⟩
theorem am_K.blind {base : Nat} {ad : Int → Nat} {cA : Nat → ClassId} {D : va_G} {cl : List vw_C} {kz : am_Z} {zc : Nat → String} {zf : Nat → Nat → String × String × String × Nat} {stl : List (String × String × String × am_V)} {strl : List (String × Nat × String × Int)} {U : State} {H : Heap} (g : JFrame) (mk : MethodId) (a : Array Value)
    (h : am_K base ad cA D cl kz zc zf stl strl U H) : am_K base ad cA D cl kz zc zf stl strl (U.calling g mk a) H := by
  obtain ⟨h1, h2, h3, h4, h5, h6⟩ := h
  have hal : U.vm.Alike (U.calling g mk a).vm := Vm.Alike.refl U.vm
  refine ⟨va_K.moved hal h1, fun z so n f hz hkz h77 => ?_, fun q hq => (h3 q hq).moved hal, fun q hq => (h4 q hq).same rfl, fun q hq => (h5 q hq).same rfl rfl, over_moved hal h6⟩
  obtain ⟨g1, g2⟩ := h2 z so n f hz hkz h77
  exact ⟨fun q => ⟨(g1 q).1.moved hal, fun b hb => ⟨((g1 q).2 b hb).1.moved hal, ((g1 q).2 b hb).2⟩⟩, fun q => ⟨(g2 q).1, (g2 q).2.1, (g2 q).2.2.1.moved hal, (g2 q).2.2.2⟩⟩
/-- a called method's words -/
def am_okC (tb : List Cond) (mt : Nat → MethodName × ByteArray × Nat × Option FieldType) (a nargs : Nat) (c : Int) : Prop :=
  c = ((mt a).2.2.1 : Int) ∧ (mt a).2.2.1 ≤ 22 ∧ (parseMethodDescriptor (mt a).1.desc).map (fun d => d.parameters.length) = some nargs ∧ ((mt a).1.cls ≠ "java/lang/invoke/MethodHandle" ∧ (mt a).1.cls ≠ "java/lang/invoke/VarHandle") ∧ plainName (mt a).1.cls = true ∧ Cond.code (mt a).1 (mt a).2.1 (mt a).2.2.1 (mt a).2.2.2 ∈ tb ∧ Cond.initialized (mt a).1.cls ∈ tb
def am_okRk (k : Nat) (ret : Option FieldType) : Prop := match k with
  | 0 => ret = none
  | 1 => ret = some .int
  | 2 => ret = some .boolean
  | 3 => ret = some .long
  | 4 => ret = some .char
  | 5 => ret = some .byte
  | _ => False
/-- the words of a call of Math's own -/
def am_flm : MethodName := ⟨"java/lang/Math", "floorMod", "(II)I"⟩
def am_fld : MethodName := ⟨"java/lang/Math", "floorDiv", "(II)I"⟩
def am_okMw (tb : List Cond) (own : String) (idx : Nat) (y : MethodName) (cc : ByteArray) (n : Nat) (ret : Option FieldType) : Prop := Cond.methodLink own idx y ∈ tb ∧ Cond.static y ∈ tb ∧ Cond.initialized "java/lang/Math" ∈ tb ∧ Cond.code y cc n ret ∈ tb
def am_okPr (tb : List Cond) (own : String) (idx a : Nat) : Prop := match a with
  | 9990 => am_okMw tb own idx Lib.Math.max.name Lib.Math.max.code 2 (some .int)
  | 9991 => am_okMw tb own idx Lib.Math.min.name Lib.Math.min.code 2 (some .int)
  | 9992 => am_okMw tb own idx Lib.Math.abs.name Lib.Math.abs.code 1 (some .int)
  | 9993 => am_okMw tb own idx Lib.MathLoose.max_long.x Lib.MathLoose.max_long.code 4 (some .long)
  | 9994 => am_okMw tb own idx Lib.MathLoose.min_long.x Lib.MathLoose.min_long.code 4 (some .long)
  | 9995 => am_okMw tb own idx am_flm prog_17_method_50_code 3 (some .int)
  | 9996 => am_okMw tb own idx am_fld prog_17_method_47_code 3 (some .int)
  | _ => False
/-- an instruction's row is what the code and the tables say -/
def am_okI (cl : List vw_C) (tg : Nat → Nat → Nat) (zc : Nat → String) (zf : Nat → Nat → String × String × String × Nat) (zn : Nat → Nat) (stl : List (String × String × String × am_V)) (strl : List (String × Nat × String × Int)) (tb : List Cond) (mt : Nat → MethodName × ByteArray × Nat × Option FieldType) (mi pc : Nat) (ai : am_I) : Prop :=
  decode (mt mi).2.1 pc = .ok (ai.2.1, ai.1) ∧ match ai with
  | (len, ins, a, b, c) => match ins with
    | .goto off => len = 3 ∧ (pc : Int) + off = (a : Int)
    | .ifCond _ off => len = 3 ∧ (pc : Int) + off = (a : Int)
    | .if_icmp _ off => len = 3 ∧ (pc : Int) + off = (a : Int)
    | .getfield idx => len = 3 ∧ ((∃ (C : String) (T : u_T) (N : Nat), cl[a]? = some (C, T, N) ∧ b < N ∧ c.toNat = tg a b ∧ Cond.fieldLink (mt mi).1.cls idx (T b).1 (T b).2.1 (T b).2.2.1 ∈ tb) ∨
        (cl[a]? = none ∧ a < 100 ∧ a ≠ 77 ∧ b < zn a ∧ c.toNat = (zf a b).2.2.2 ∧ Cond.fieldLink (mt mi).1.cls idx (zf a b).1 (zf a b).2.1 (zf a b).2.2.1 ∈ tb))
    | .putfield idx => len = 3 ∧ ∃ (C : String) (T : u_T) (N : Nat), cl[a]? = some (C, T, N) ∧ b < N ∧ c.toNat = tg a b ∧ Cond.fieldLink (mt mi).1.cls idx (T b).1 (T b).2.1 (T b).2.2.1 ∈ tb ∧ ((T b).2.2.2 = false ∨ ((T b).2.2.2 = true ∧ (mt mi).1.name = "<init>" ∧ (T b).1 = (mt mi).1.cls))
    | .getstatic idx => len = 3 ∧ ∃ C n d, (C, n, d, am_tv b c) ∈ stl ∧ am_okv (am_tv b c) ∧ Cond.fieldLink (mt mi).1.cls idx C n d ∈ tb
    | .ldc idx => if a = 0 then am_okP tb (mt mi).1.cls len (.ldc idx) a c else len = 2 ∧ (c ≠ 0 ∧ c ≠ -8) ∧ ∃ tx, ((mt mi).1.cls, idx, tx, c) ∈ strl
    | .new idx => len = 3 ∧ ∃ (C : String) (T : u_T), cl[a]? = some (C, T, b) ∧ Cond.classLink (mt mi).1.cls idx C ∈ tb ∧ Cond.instantiable C b ∈ tb ∧ Cond.initialized C ∈ tb
    | .newarray aty => len = 2 ∧ ((aty = .int ∧ a = 100) ∨ (aty = .long ∧ a = 101) ∨ (aty = .byte ∧ a = 102) ∨ (aty = .boolean ∧ a = 103)) ∧ Cond.arrayClass (newarray.typeOf aty) ∈ tb
    | .multianewarray idx dims => len = 4 ∧ dims = 2 ∧ Cond.classLink (mt mi).1.cls idx "[[I" ∈ tb ∧ Cond.arrayClass .int ∈ tb
    | .tableswitch dflt _ _ offs => 0 ≤ (pc : Int) + dflt ∧ ∀ o ∈ offs.toList, 0 ≤ (pc : Int) + o
    | .lookupswitch dflt ps => (ps.toList.zip (ps.toList.drop 1)).all (fun (a, next) => a.1 < next.1) = true ∧ 0 ≤ (pc : Int) + dflt ∧ ∀ o ∈ ps.toList, 0 ≤ (pc : Int) + o.2
    | .invokestatic idx => len = 3 ∧ (if a = 9999 then Cond.methodLink (mt mi).1.cls idx arraycopyName ∈ tb ∧ Cond.native arraycopyName ∈ tb ∧ Cond.static arraycopyName ∈ tb ∧ Cond.initialized "java/lang/System" ∈ tb
        else if 9990 ≤ a then am_okPr tb (mt mi).1.cls idx a
        else am_okC tb mt a b c ∧ Cond.static (mt a).1 ∈ tb ∧ (Cond.methodLink (mt mi).1.cls idx (mt a).1 ∈ tb ∨ ∃ host, ((mt mi).1.cls, idx, (mt a).1, host) ∈ am_nst))
    | .invokevirtual idx => len = 3 ∧ am_okC tb mt a (b % 16) c ∧ Cond.instanceMethod (mt a).1 ∈ tb ∧ Cond.selects (mt a).1.cls (mt a).1 (mt a).1 ∈ tb ∧ Cond.methodLink (mt mi).1.cls idx (mt a).1 ∈ tb ∧ ((∃ (T : u_T) (N : Nat), cl[b / 16]? = some ((mt a).1.cls, T, N)) ∨ (cl[b / 16]? = none ∧ b / 16 < 100 ∧ b / 16 ≠ 77 ∧ zc (b / 16) = (mt a).1.cls))
    | .invokespecial idx => len = 3 ∧ (if a = 9998 then b % 16 = 0 ∧ Cond.methodLink (mt mi).1.cls idx Lib.objectInit ∈ tb ∧ Cond.instanceMethod Lib.objectInit ∈ tb ∧ Cond.code Lib.objectInit ⟨#[0xb1]⟩ 1 none ∈ tb
        else am_okC tb mt a (b % 16) c ∧ (mt a).1.name = "<init>" ∧ (mt a).2.2.2 = none ∧ Cond.instanceMethod (mt a).1 ∈ tb ∧ Cond.methodLink (mt mi).1.cls idx (mt a).1 ∈ tb)
    | .iaload => len = 1
    | .laload => len = 1
    | .baload => len = 1
    | .aaload => len = 1
    | .arraylength => len = 1
    | .iastore => len = 1
    | .lastore => len = 1
    | .bastore => len = 1
    | .ireturn => len = 1
    | .lreturn => len = 1
    | .return_ => len = 1
    | i => am_okP tb (mt mi).1.cls len i a c
