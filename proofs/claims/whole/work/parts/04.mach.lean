/-! A machine of numbers: what the claim's code does, said of lists and functions. A value is an int, a reference (the number of a cell), a long, a double's bits, or nothing. A heap is a list of shapes (kind, length, references) and a memory of ints (cell, place). Kinds below 20 are classes, 20 int[], 21 char[], 22 boolean[], 23 Dungeon[], 24 int[][]. -/
abbrev ZV := Int ⊕ (Nat ⊕ (Int64 ⊕ (UInt64 ⊕ Unit)))
abbrev zI (n : Int) : ZV := .inl n
abbrev zR (a : Nat) : ZV := .inr (.inl a)
abbrev zL (x : Int64) : ZV := .inr (.inr (.inl x))
abbrev zD (x : UInt64) : ZV := .inr (.inr (.inr (.inl x)))
abbrev zU : ZV := .inr (.inr (.inr (.inr ())))
abbrev ZM := Nat → Int → Int
abbrev ZS := List (Nat × Nat × List Nat)
abbrev ZH := ZS × ZM
abbrev ZO := Option (Option ZV × ZH)
/-- the script's cell -/
def zSC : Nat := 1000000
def zw (x : Int) : Int := (x + 2147483648) % 4294967296 - 2147483648
def zwr (M : ZM) (a : Nat) (i v : Int) : ZM := fun b j => if b = a ∧ j = i then v else M b j
def zzr (M : ZM) (a c : Nat) : ZM := fun b j => if a ≤ b ∧ b ≤ a + c then 0 else M b j
def zkn (s : ZS) (a : Nat) : Nat := (s.getD a (99, 0, [])).1
def zln (s : ZS) (a : Nat) : Nat := (s.getD a (99, 0, [])).2.1
def zrf (s : ZS) (a k : Nat) : Nat := (s.getD a (99, 0, [])).2.2.getD k 0
def zsr (s : ZS) (a k v : Nat) : ZS := s.set a ((s.getD a (99, 0, [])).1, (s.getD a (99, 0, [])).2.1, (s.getD a (99, 0, [])).2.2.set k v)
def zct (v : ZV) : Nat := match v with
  | .inr (.inr (.inl _)) => 2
  | .inr (.inr (.inr (.inl _))) => 2
  | _ => 1
def zc1 (v : ZV) : Bool := match v with
  | .inl _ => true
  | .inr (.inl _) => true
  | _ => false
-- the operations
def zand (x y : Int) : Int := (Int32.ofInt x &&& Int32.ofInt y).toInt
def zor (x y : Int) : Int := (Int32.ofInt x ||| Int32.ofInt y).toInt
def zxor (x y : Int) : Int := (Int32.ofInt x ^^^ Int32.ofInt y).toInt
def zshl (x y : Int) : Int := (Int32.ofInt x <<< (Int32.ofInt y &&& 31)).toInt
def zshr (x y : Int) : Int := (Int32.ofInt x >>> (Int32.ofInt y &&& 31)).toInt
def zushr (x y : Int) : Int := (((Int32.ofInt x).toUInt32 >>> ((Int32.ofInt y).toUInt32 &&& Int32.toUInt32 31)).toInt32).toInt
def zcmp (c : Jvm.ClassFile.Cond) (x y : Int) : Bool := match c with
  | .eq => decide (x = y)
  | .ne => decide (x ≠ y)
  | .lt => decide (x < y)
  | .ge => decide (y ≤ x)
  | .gt => decide (y < x)
  | .le => decide (x ≤ y)
def zjmp (pc : Nat) (off : Int) : Nat := ((pc : Int) + off).toNat
-- locals
def zfx (ls : List ZV) (j : Nat) : List ZV := match j with
  | 0 => ls
  | k + 1 => if zct (ls.getD k zU) = 2 then ls.set k zU else ls
def zs1 (ls : List ZV) (j : Nat) (v : ZV) : Option (List ZV) := if j < ls.length then some ((zfx ls j).set j v) else none
def zs2 (ls : List ZV) (j : Nat) (v : ZV) : Option (List ZV) := if j + 1 < ls.length then some (((zfx ls j).set j v).set (j + 1) zU) else none
def zent (mx : Nat) (as : List ZV) : List ZV := let l := as.flatMap (fun v => if zct v = 2 then [v, zU] else [v]); l ++ List.replicate (mx - l.length) zU
-- the tables
def zft (k pc : Nat) : Option (Nat × Instr) := ((zCodes.getD k []).find? (fun q => q.1 == pc)).map (·.2)
def zm (k : Nat) : Nat × MethodName × ByteArray × Nat × Option FieldType × Nat := zMs.getD k (0, ⟨"", "", ""⟩, code, 0, none, 0)
abbrev zown (k : Nat) : Nat := (zm k).1
abbrev zmax (k : Nat) : Nat := (zm k).2.2.2.1
abbrev zrty (k : Nat) : Option FieldType := (zm k).2.2.2.2.1
abbrev znA (k : Nat) : Nat := (zm k).2.2.2.2.2
def zini (k : Nat) : Bool := (zm k).2.1.name == "<init>"
def zky (o x : Nat) : Nat := o * 4096 + x
def zfk (ci k : Nat) : Nat := (zFk.getD ci []).getD k 3
def zatk (t : ArrayType) : Nat := match t with
  | .int => 20
  | .char => 21
  | .boolean => 22
  | _ => 99
def zpush (pc : Nat) (ls st : List ZV) (h : ZH) (v : Option ZV) : Option (Nat × List ZV × List ZV × ZH) := v.map fun v => (pc, ls, v :: st, h)
def zgi (ls : List ZV) (j : Nat) : Option ZV := match ls[j]? with
  | some (.inl x) => some (.inl x)
  | _ => none
def zga (ls : List ZV) (j : Nat) : Option ZV := match ls[j]? with
  | some (.inr (.inl x)) => some (.inr (.inl x))
  | _ => none
def zgl (ls : List ZV) (j : Nat) : Option ZV := match ls[j]? with
  | some (.inr (.inr (.inl x))) => some (.inr (.inr (.inl x)))
  | _ => none
def zgd (ls : List ZV) (j : Nat) : Option ZV := match ls[j]? with
  | some (.inr (.inr (.inr (.inl x)))) => some (.inr (.inr (.inr (.inl x))))
  | _ => none
def zsi (pc : Nat) (ls st : List ZV) (h : ZH) (j : Nat) : Option (Nat × List ZV × List ZV × ZH) := match st with
  | .inl x :: st => (zs1 ls j (.inl x)).map fun l => (pc, l, st, h)
  | _ => none
def zsa (pc : Nat) (ls st : List ZV) (h : ZH) (j : Nat) : Option (Nat × List ZV × List ZV × ZH) := match st with
  | .inr (.inl x) :: st => (zs1 ls j (.inr (.inl x))).map fun l => (pc, l, st, h)
  | _ => none
def zsl (pc : Nat) (ls st : List ZV) (h : ZH) (j : Nat) : Option (Nat × List ZV × List ZV × ZH) := match st with
  | .inr (.inr (.inl x)) :: st => (zs2 ls j (.inr (.inr (.inl x)))).map fun l => (pc, l, st, h)
  | _ => none
def zsd (pc : Nat) (ls st : List ZV) (h : ZH) (j : Nat) : Option (Nat × List ZV × List ZV × ZH) := match st with
  | .inr (.inr (.inr (.inl x))) :: st => (zs2 ls j (.inr (.inr (.inr (.inl x))))).map fun l => (pc, l, st, h)
  | _ => none
def zbi (pc : Nat) (ls st : List ZV) (h : ZH) (f : Int → Int → Option Int) : Option (Nat × List ZV × List ZV × ZH) := match st with
  | .inl y :: .inl x :: st => (f x y).map fun v => (pc, ls, .inl v :: st, h)
  | _ => none
def zbl (pc : Nat) (ls st : List ZV) (h : ZH) (f : Int64 → Int64 → ZV) : Option (Nat × List ZV × List ZV × ZH) := match st with
  | .inr (.inr (.inl y)) :: .inr (.inr (.inl x)) :: st => some (pc, ls, f x y :: st, h)
  | _ => none
def znan (r : UInt64) : Option ZV := if r &&& 0x7fffffffffffffff ≤ 0x7ff0000000000000 then some (zD r) else none
def zbd (pc : Nat) (ls st : List ZV) (h : ZH) (f : UInt64 → UInt64 → Option ZV) : Option (Nat × List ZV × List ZV × ZH) := match st with
  | .inr (.inr (.inr (.inl y))) :: .inr (.inr (.inr (.inl x))) :: st => (f x y).map fun v => (pc, ls, v :: st, h)
  | _ => none
def zget (ci k pc : Nat) (ls st : List ZV) (h : ZH) : Option (Nat × List ZV × List ZV × ZH) := match st with
  | .inr (.inl a) :: st => if zkn h.1 a = ci then (if zfk ci k = 2 then (match zrf h.1 a k with
      | 0 => none
      | q + 1 => some (pc, ls, zR q :: st, h)) else some (pc, ls, zI (h.2 a k) :: st, h)) else none
  | _ => none
def zput (ci k pc : Nat) (ls st : List ZV) (h : ZH) : Option (Nat × List ZV × List ZV × ZH) := match st with
  | .inl x :: .inr (.inl a) :: st => if zkn h.1 a = ci ∧ (zfk ci k = 0 ∨ zfk ci k = 1 ∧ (x = 0 ∨ x = 1)) then some (pc, ls, st, (h.1, zwr h.2 a k x)) else none
  | .inr (.inl v) :: .inr (.inl a) :: st => if zkn h.1 a = ci ∧ zfk ci k = 2 ∧ v < h.1.length then some (pc, ls, st, (zsr h.1 a k (v + 1), h.2)) else none
  | _ => none
def zald (kd pc : Nat) (ls st : List ZV) (h : ZH) : Option (Nat × List ZV × List ZV × ZH) := match st with
  | .inl i :: .inr (.inl a) :: st => if zkn h.1 a = kd ∧ 0 ≤ i ∧ i < (zln h.1 a : Int) then some (pc, ls, zI (h.2 a i) :: st, h) else none
  | _ => none
def zsld (pc : Nat) (ls st : List ZV) (h : ZH) : Option (Nat × List ZV × List ZV × ZH) := match st with
  | .inl i :: .inr (.inl a) :: st => if a = zSC then (if 0 ≤ i ∧ i < h.2 zSC (-1) - 1 then some (pc, ls, zI (h.2 zSC i) :: st, h) else none) else none
  | _ => none
def zast (kd pc : Nat) (ls st : List ZV) (h : ZH) (ok : Int → Bool) : Option (Nat × List ZV × List ZV × ZH) := match st with
  | .inl x :: .inl i :: .inr (.inl a) :: st => if zkn h.1 a = kd ∧ (0 ≤ i ∧ i < (zln h.1 a : Int)) ∧ ok x = true then some (pc, ls, st, (h.1, zwr h.2 a i x)) else none
  | _ => none
def zaal (pc : Nat) (ls st : List ZV) (h : ZH) : Option (Nat × List ZV × List ZV × ZH) := match st with
  | .inl i :: .inr (.inl a) :: st => if (zkn h.1 a = 23 ∨ zkn h.1 a = 24) ∧ 0 ≤ i ∧ i < (zln h.1 a : Int) then (match zrf h.1 a i.toNat with
      | 0 => none
      | q + 1 => some (pc, ls, zR q :: st, h)) else none
  | _ => none
def zaas (pc : Nat) (ls st : List ZV) (h : ZH) : Option (Nat × List ZV × List ZV × ZH) := match st with
  | .inr (.inl v) :: .inl i :: .inr (.inl a) :: st => if zkn h.1 a = 23 ∧ zkn h.1 v = 1 ∧ 0 ≤ i ∧ i < (zln h.1 a : Int) then some (pc, ls, st, (zsr h.1 a i.toNat (v + 1), h.2)) else none
  | _ => none
def zalen (pc : Nat) (ls st : List ZV) (h : ZH) : Option (Nat × List ZV × List ZV × ZH) := match st with
  | .inr (.inl a) :: st => if a = zSC then (if 1 ≤ h.2 zSC (-1) then some (pc, ls, zI (h.2 zSC (-1) - 1) :: st, h) else none) else if 20 ≤ zkn h.1 a ∧ zkn h.1 a < 25 then some (pc, ls, zI (zln h.1 a) :: st, h) else none
  | _ => none
def znew (ci pc : Nat) (ls st : List ZV) (h : ZH) : Option (Nat × List ZV × List ZV × ZH) := if 2000 ≤ h.1.length then none else some (pc, ls, zR h.1.length :: st, (h.1 ++ [(ci, (zFk.getD ci []).length, List.replicate (zFk.getD ci []).length 0)], zzr h.2 h.1.length 0))
def znwa (kd pc : Nat) (ls st : List ZV) (h : ZH) : Option (Nat × List ZV × List ZV × ZH) := match st with
  | .inl c :: st => if (0 ≤ c ∧ c ≤ 1000) ∧ h.1.length < 2000 then some (pc, ls, zR h.1.length :: st, (h.1 ++ [(kd, c.toNat, List.replicate c.toNat 0)], zzr h.2 h.1.length 0)) else none
  | _ => none
def zmna (pc : Nat) (ls st : List ZV) (h : ZH) : Option (Nat × List ZV × List ZV × ZH) := match st with
  | .inl c :: .inl r :: st => if (0 ≤ c ∧ c ≤ 1000) ∧ (0 ≤ r ∧ r ≤ 100) ∧ h.1.length < 2000 then some (pc, ls, zR h.1.length :: st, (h.1 ++ ((24, r.toNat, (List.range r.toNat).map (fun i => h.1.length + 1 + i + 1)) :: List.replicate r.toNat (20, c.toNat, List.replicate c.toNat 0)), zzr h.2 h.1.length r.toNat)) else none
  | _ => none
/-- the bits of a double; Math.abs, max, min of ints -/
def znat (kd pc : Nat) (ls st : List ZV) (h : ZH) : Option (Nat × List ZV × List ZV × ZH) := match kd with
  | 7 => match st with
    | .inr (.inr (.inr (.inl x))) :: st => some (pc, ls, zL x.toInt64 :: st, h)
    | _ => none
  | 8 => match st with
    | .inl x :: st => some (pc, ls, zI (if 0 ≤ x then x else zw (0 - x)) :: st, h)
    | _ => none
  | 9 => match st with
    | .inl y :: .inl x :: st => some (pc, ls, zI (if x < y then y else x) :: st, h)
    | _ => none
  | 10 => match st with
    | .inl y :: .inl x :: st => some (pc, ls, zI (if y < x then y else x) :: st, h)
    | _ => none
  | _ => none
/-- one step of an instruction that is no call and no return -/
def zex (o : Nat) (i : Instr) (pc n : Nat) (ls st : List ZV) (h : ZH) : Option (Nat × List ZV × List ZV × ZH) := match i with
  | .iconst c => some (pc + n, ls, zI c :: st, h)
  | .bipush c => some (pc + n, ls, zI c :: st, h)
  | .sipush c => some (pc + n, ls, zI c :: st, h)
  | .ldc x => (zKi.lookup (zky o x)).map fun v => (pc + n, ls, zI v :: st, h)
  | .ldc_w x => (zKi.lookup (zky o x)).map fun v => (pc + n, ls, zI v :: st, h)
  | .lconst c => some (pc + n, ls, zL (Int64.ofNat c) :: st, h)
  | .ldc2_w x => match zKl.lookup (zky o x) with
    | some v => some (pc + n, ls, zL v :: st, h)
    | none => (zKd.lookup (zky o x)).map fun v => (pc + n, ls, zD v :: st, h)
  | .dconst d => if d = 1 then some (pc + n, ls, zD FP.dconst1 :: st, h) else none
  | .iload j => zpush (pc + n) ls st h (zgi ls j)
  | .iload_n j => zpush (pc + n) ls st h (zgi ls j)
  | .aload j => zpush (pc + n) ls st h (zga ls j)
  | .aload_n j => zpush (pc + n) ls st h (zga ls j)
  | .lload j => zpush (pc + n) ls st h (zgl ls j)
  | .dload_n j => zpush (pc + n) ls st h (zgd ls j)
  | .istore j => zsi (pc + n) ls st h j
  | .istore_n j => zsi (pc + n) ls st h j
  | .astore_n j => zsa (pc + n) ls st h j
  | .lstore j => zsl (pc + n) ls st h j
  | .dstore_n j => zsd (pc + n) ls st h j
  | .iinc j c => match ls[j]? with
    | some (.inl x) => (zs1 ls j (.inl (zw (x + c)))).map fun l => (pc + n, l, st, h)
    | _ => none
  | .getfield x => (zFl.lookup (zky o x)).bind fun q => zget q.1 q.2 (pc + n) ls st h
  | .putfield x => (zFl.lookup (zky o x)).bind fun q => zput q.1 q.2 (pc + n) ls st h
  | .iaload => match zald 20 (pc + n) ls st h with
    | some r => some r
    | none => zsld (pc + n) ls st h
  | .caload => zald 21 (pc + n) ls st h
  | .baload => zald 22 (pc + n) ls st h
  | .aaload => zaal (pc + n) ls st h
  | .iastore => zast 20 (pc + n) ls st h (fun _ => true)
  | .castore => zast 21 (pc + n) ls st h (fun x => decide (0 ≤ x ∧ x < 65536))
  | .bastore => zast 22 (pc + n) ls st h (fun x => decide (x = 0 ∨ x = 1))
  | .aastore => zaas (pc + n) ls st h
  | .arraylength => zalen (pc + n) ls st h
  | .dup => match st with
    | v :: st => if zc1 v = true then some (pc + n, ls, v :: v :: st, h) else none
    | _ => none
  | .dup2 => match st with
    | v :: w :: st => if zc1 v = true ∧ zc1 w = true then some (pc + n, ls, v :: w :: v :: w :: st, h) else none
    | _ => none
  | .pop => match st with
    | v :: st => if zc1 v = true then some (pc + n, ls, st, h) else none
    | _ => none
  | .iadd => zbi (pc + n) ls st h (fun x y => some (zw (x + y)))
  | .isub => zbi (pc + n) ls st h (fun x y => some (zw (x - y)))
  | .imul => zbi (pc + n) ls st h (fun x y => some (zw (x * y)))
  | .idiv => zbi (pc + n) ls st h (fun x y => if y = 0 then none else some (zw (x.tdiv y)))
  | .irem => zbi (pc + n) ls st h (fun x y => if y = 0 then none else some (x.tmod y))
  | .iand => zbi (pc + n) ls st h (fun x y => some (zand x y))
  | .ior => zbi (pc + n) ls st h (fun x y => some (zor x y))
  | .ixor => zbi (pc + n) ls st h (fun x y => some (zxor x y))
  | .ishl => zbi (pc + n) ls st h (fun x y => some (zshl x y))
  | .ishr => zbi (pc + n) ls st h (fun x y => some (zshr x y))
  | .iushr => zbi (pc + n) ls st h (fun x y => some (zushr x y))
  | .ineg => match st with
    | .inl x :: st => some (pc + n, ls, zI (zw (-x)) :: st, h)
    | _ => none
  | .i2c => match st with
    | .inl x :: st => if 0 ≤ x ∧ x < 65536 then some (pc + n, ls, zI x :: st, h) else none
    | _ => none
  | .i2d => match st with
    | .inl x :: st => some (pc + n, ls, zD (FP.i2d (Int32.ofInt x)) :: st, h)
    | _ => none
  | .d2l => match st with
    | .inr (.inr (.inr (.inl x))) :: st => some (pc + n, ls, zL (FP.d2l x) :: st, h)
    | _ => none
  | .ladd => zbl (pc + n) ls st h (fun x y => zL (x + y))
  | .lor => zbl (pc + n) ls st h (fun x y => zL (x ||| y))
  | .lcmp => zbl (pc + n) ls st h (fun x y => zI (lg_cmp x y).toInt)
  | .lshl => match st with
    | .inl y :: .inr (.inr (.inl x)) :: st => some (pc + n, ls, zL (x <<< ((Int32.ofInt y).toInt64 &&& 63)) :: st, h)
    | _ => none
  | .dsub => zbd (pc + n) ls st h (fun x y => znan (FP.dsub x y))
  | .dmul => zbd (pc + n) ls st h (fun x y => znan (FP.dmul x y))
  | .ddiv => zbd (pc + n) ls st h (fun x y => znan (FP.ddiv x y))
  | .dcmp c => zbd (pc + n) ls st h (fun x y => some (zI (Op.cmpValue (FP.dcmp x y) c).toInt))
  | .ifCond c off => match st with
    | .inl x :: st => some (if zcmp c x 0 = true then zjmp pc off else pc + n, ls, st, h)
    | _ => none
  | .if_icmp c off => match st with
    | .inl y :: .inl x :: st => some (if zcmp c x y = true then zjmp pc off else pc + n, ls, st, h)
    | _ => none
  | .goto off => some (zjmp pc off, ls, st, h)
  | .tableswitch d lo hi offs => match st with
    | .inl x :: st => if x < lo ∨ hi < x then some (zjmp pc d, ls, st, h) else (offs[(x - lo).toNat]?).map fun f => (zjmp pc f, ls, st, h)
    | _ => none
  | .lookupswitch d ps => match st with
    | .inl x :: st => some (zjmp pc (Op.lookupswitch.offset ps.toList d x), ls, st, h)
    | _ => none
  | .new x => (zNl.lookup (zky o x)).bind fun ci => znew ci (pc + n) ls st h
  | .newarray t => znwa (zatk t) (pc + n) ls st h
  | .anewarray x => if zky o x = 16395 then znwa 23 (pc + n) ls st h else none
  | .multianewarray x d => if zky o x = 28693 ∧ d = 2 then zmna (pc + n) ls st h else none
  | .invokespecial x => if zMl.lookup (zky o x) = some (0, 6) ∧ (st.map zct).sum ≤ 12 then (match st with
      | .inr (.inl _) :: st => some (pc + n, ls, st, h)
      | _ => none) else none
  | .invokestatic x => (zMl.lookup (zky o x)).bind fun q => if (st.map zct).sum ≤ 12 then znat q.2 (pc + n) ls st h else none
  | _ => none
/-- a call: the method and its kind -/
def zcal (o : Nat) (i : Instr) : Option (Nat × Nat) := match i with
  | .invokevirtual x => (zMl.lookup (zky o x)).bind fun q => if q.2 = 0 then some q else none
  | .invokestatic x => (zMl.lookup (zky o x)).bind fun q => if q.2 = 1 ∨ q.2 = 4 then some q else none
  | .invokespecial x => (zMl.lookup (zky o x)).bind fun q => if q.2 = 2 ∨ q.2 = 5 then some q else none
  | _ => none
/-- a return -/
def zret (k : Nat) (i : Instr) (st : List ZV) : Option (Option ZV) := match i with
  | .ireturn => match st with
    | [.inl x] => if zrty k = some .int ∨ zrty k = some .boolean ∧ (x = 0 ∨ x = 1) then some (some (zI x)) else none
    | _ => none
  | .lreturn => match st with
    | [.inr (.inr (.inl x))] => if zrty k = some .long then some (some (zL x)) else none
    | _ => none
  | .return_ => match st with
    | [] => if zrty k = none then some none else none
    | _ => none
  | _ => none
/-- the receiver of a virtual call is of the method's class -/
def zrcv (k kd : Nat) (as : List ZV) (h : ZH) : Bool := match kd with
  | 1 => true
  | 4 => true
  | _ => match as with
    | .inr (.inl a) :: _ => zkn h.1 a == zown k
    | _ => false
def zgo (cal : Nat → List ZV → ZH → ZO) (k : Nat) (rec : Nat → List ZV → List ZV → ZH → ZO) (pc : Nat) (ls st : List ZV) (h : ZH) : ZO := match zft k pc with
  | none => none
  | some (n, i) => match zret k i st with
    | some v => some (v, h)
    | none => match zcal (zown k) i with
      | some (k', kd) => if znA k' ≤ st.length ∧ ((st.drop (znA k')).map zct).sum ≤ 8 ∧ zrcv k' kd (st.take (znA k')).reverse h = true then (cal k' (st.take (znA k')).reverse h).bind (fun r => rec (pc + n) ls (r.1.toList ++ st.drop (znA k')) r.2) else none
      | none => (zex (zown k) i pc n ls st h).bind fun r => rec r.1 r.2.1 r.2.2.1 r.2.2.2
def zrn (cal : Nat → List ZV → ZH → ZO) (k : Nat) : Nat → Nat → List ZV → List ZV → ZH → ZO
  | 0 => fun _ _ _ _ => none
  | n + 1 => zgo cal k (zrn cal k n)
theorem zgo_mono {cal cal' : Nat → List ZV → ZH → ZO} {k : Nat} {f g : Nat → List ZV → List ZV → ZH → ZO} (hc : ∀ a b c r, cal a b c = some r → cal' a b c = some r) (hf : ∀ a b c d r, f a b c d = some r → g a b c d = some r) {pc : Nat} {ls st : List ZV} {h : ZH} {r : Option ZV × ZH} (e : zgo cal k f pc ls st h = some r) : zgo cal' k g pc ls st h = some r := by
  unfold zgo at *
  split at e
  · cases e
  · split at e
    · exact e
    · split at e
      · split at e
        · next hh =>
          rw [if_pos hh]
          obtain ⟨x, h1, h2⟩ := Option.bind_eq_some_iff.mp e
          rw [hc _ _ _ _ h1]
          exact hf _ _ _ _ _ h2
        · cases e
      · obtain ⟨x, h1, h2⟩ := Option.bind_eq_some_iff.mp e
        rw [h1]
        exact hf _ _ _ _ _ h2
theorem zrn_mono {cal cal' : Nat → List ZV → ZH → ZO} {k : Nat} (hc : ∀ a b c r, cal a b c = some r → cal' a b c = some r) : ∀ (n : Nat) (pc : Nat) (ls st : List ZV) (h : ZH) (r : Option ZV × ZH), zrn cal k n pc ls st h = some r → zrn cal' k n pc ls st h = some r
  | 0, _, _, _, _, _, e => by cases e
  | n + 1, _, _, _, _, _, e => zgo_mono hc (zrn_mono hc n) e
theorem zrn_succ {cal : Nat → List ZV → ZH → ZO} {k : Nat} : ∀ (n : Nat) (pc : Nat) (ls st : List ZV) (h : ZH) (r : Option ZV × ZH), zrn cal k n pc ls st h = some r → zrn cal k (n + 1) pc ls st h = some r
  | 0, _, _, _, _, _, e => by cases e
  | n + 1, _, _, _, _, _, e => zgo_mono (fun _ _ _ _ e => e) (zrn_succ n) e
theorem zrn_le {cal : Nat → List ZV → ZH → ZO} {k n m : Nat} (hl : n ≤ m) {pc : Nat} {ls st : List ZV} {h : ZH} {r : Option ZV × ZH} (e : zrn cal k n pc ls st h = some r) : zrn cal k m pc ls st h = some r := by
  induction hl with
  | refl => exact e
  | step _ ih => exact zrn_succ _ _ _ _ _ _ ih
/-- what a method's run comes to, from an instruction on -/
noncomputable def zrun (cal : Nat → List ZV → ZH → ZO) (k pc : Nat) (ls st : List ZV) (h : ZH) : ZO :=
  @dite _ (∃ n, (zrn cal k n pc ls st h).isSome = true) (Classical.propDecidable _) (fun hh => zrn cal k (Classical.choose hh) pc ls st h) (fun _ => none)
theorem zrun_of {cal : Nat → List ZV → ZH → ZO} {k n pc : Nat} {ls st : List ZV} {h : ZH} {r : Option ZV × ZH} (e : zrn cal k n pc ls st h = some r) : zrun cal k pc ls st h = some r := by
  have hh : ∃ n, (zrn cal k n pc ls st h).isSome = true := ⟨n, by rw [e]; rfl⟩
  unfold zrun
  rw [dif_pos hh]
  have h2 := Classical.choose_spec hh
  generalize Classical.choose hh = m at h2 ⊢
  obtain ⟨r', hr'⟩ := Option.isSome_iff_exists.mp h2
  rcases Nat.le_total n m with q | q
  · exact zrn_le q e
  · rw [hr', ← zrn_le q hr', e]
theorem zrun_some {cal : Nat → List ZV → ZH → ZO} {k pc : Nat} {ls st : List ZV} {h : ZH} {r : Option ZV × ZH} (e : zrun cal k pc ls st h = some r) : ∃ n, zrn cal k n pc ls st h = some r := by
  unfold zrun at e
  split at e
  · exact ⟨_, e⟩
  · cases e
theorem zrun_none {cal : Nat → List ZV → ZH → ZO} {k pc : Nat} {ls st : List ZV} {h : ZH} (e : zrun cal k pc ls st h = none) (n : Nat) : zrn cal k n pc ls st h = none := by
  cases hx : zrn cal k n pc ls st h with
  | none => rfl
  | some r => rw [zrun_of hx] at e; cases e
theorem zrun_eq {cal : Nat → List ZV → ZH → ZO} {k pc : Nat} {ls st : List ZV} {h : ZH} : zrun cal k pc ls st h = zgo cal k (zrun cal k) pc ls st h := by
  cases e : zgo cal k (zrun cal k) pc ls st h with
  | some r =>
    have : ∃ n, zgo cal k (zrn cal k n) pc ls st h = some r := by
      unfold zgo at *
      split at e
      · cases e
      · split at e
        · exact ⟨0, e⟩
        · split at e
          · split at e
            · next hh =>
              obtain ⟨x, h1, h2⟩ := Option.bind_eq_some_iff.mp e
              obtain ⟨n, hn⟩ := zrun_some h2
              exact ⟨n, by rw [if_pos hh, h1]; exact hn⟩
            · cases e
          · obtain ⟨x, h1, h2⟩ := Option.bind_eq_some_iff.mp e
            obtain ⟨n, hn⟩ := zrun_some h2
            exact ⟨n, by rw [h1]; exact hn⟩
    obtain ⟨n, hn⟩ := this
    exact zrun_of (n := n + 1) hn
  | none =>
    cases e2 : zrun cal k pc ls st h with
    | none => rfl
    | some r =>
      obtain ⟨n, hn⟩ := zrun_some e2
      cases n with
      | zero => cases hn
      | succ n =>
        have h3 := zgo_mono (cal' := cal) (g := zrun cal k) (fun _ _ _ _ e => e) (fun a b c d r q => zrun_of q) hn
        rw [e] at h3
        cases h3
/-- a method at depth d -/
noncomputable def zevl : Nat → Nat → List ZV → ZH → ZO
  | 0 => fun _ _ _ => none
  | d + 1 => fun k as h => if (as.flatMap (fun v => if zct v = 2 then [v, zU] else [v])).length ≤ zmax k then zrun (zevl d) k 0 (zent (zmax k) as) [] h else none
/-- the same, by counting -/
def zevn (n : Nat) : Nat → Nat → List ZV → ZH → ZO
  | 0 => fun _ _ _ => none
  | d + 1 => fun k as h => if (as.flatMap (fun v => if zct v = 2 then [v, zU] else [v])).length ≤ zmax k then zrn (zevn n d) k n 0 (zent (zmax k) as) [] h else none
theorem zevn_evl (n : Nat) : ∀ (d k : Nat) (as : List ZV) (h : ZH) (r : Option ZV × ZH), zevn n d k as h = some r → zevl d k as h = some r
  | 0, _, _, _, _, e => by cases e
  | d + 1, k, as, h, r, e => by
    unfold zevn at e
    unfold zevl
    split at e
    · next hh =>
      rw [if_pos hh]
      exact zrun_of (zrn_mono (zevn_evl n d) n _ _ _ _ _ e)
    · cases e
theorem zevl_succ : ∀ (d k : Nat) (as : List ZV) (h : ZH) (r : Option ZV × ZH), zevl d k as h = some r → zevl (d + 1) k as h = some r
  | 0, _, _, _, _, e => by cases e
  | d + 1, k, as, h, r, e => by
    unfold zevl at e ⊢
    split at e
    · next hh =>
      rw [if_pos hh]
      obtain ⟨n, hn⟩ := zrun_some e
      exact zrun_of (zrn_mono (zevl_succ d) n _ _ _ _ _ hn)
    · cases e
