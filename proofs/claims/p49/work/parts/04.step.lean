/-! THE INTERPRETER. A state of it: cells made, slots made, the cells (an object: number of its class, its fields; an array of numbers; an array of references); a reference is a cell's number, '.retAddr j' one of the things that were there ahead of the law (0 the script, 1 the text, 2 ArrayList's empty row, 3 the class object of Object[]). -/
abbrev gC : Type := (Nat × List Value) ⊕ ((FieldType × Nat × (Nat → Int32)) ⊕ (FieldType × Nat × (Nat → Option Nat)))
abbrev gH : Type := Nat × Nat × List gC
abbrev gL : Type := List (Option Value)
abbrev gI : Type := Instr × Nat × Nat × Nat
abbrev gO : Type := Option Value ⊕ Nat
abbrev gSc : Type := Nat × (Nat → Int32)
abbrev gQ : Type := Nat × gL × List Value × gH
/-- the classes: 0 ArrayList, 1 Backup, 2 Change, 3 Cursor, 4 Family, 5 Finding, 6 Level, 7 Merging, 8 Run, 9 Snapshot, 10 Write, 11 StratumLedge -/
def gCl : List vw_C := [(RJx4a65c, TJx4a65c, 3), (RX0, TX0, 2), (RX1, TX1, 5), (RX2, TX2, 4), (RX3, TX3, 3), (RX4, TX4, 3), (RX5, TX5, 2), (RX6, TX6, 7), (RX7, TX7, 7), (RX8, TX8, 2), (RX9, TX9, 4), (RX10, TX10, 18)]
def gTys : List (Nat → FieldType) := [tyJx4a65c, tyX0, tyX1, tyX2, tyX3, tyX4, tyX5, tyX6, tyX7, tyX8, tyX9, tyX10]
def gTy (c k : Nat) : FieldType := match gTys[c]? with
  | some f => f k
  | none => .int
def gCn (c : Nat) : String := match gCl[c]? with
  | some q => q.1
  | none => ""
def gN (c : Nat) : Nat := match gCl[c]? with
  | some q => q.2.2
  | none => 0
def gGet (h : gH) (k : Nat) : Option gC := h.2.2[k]?
def gPut (h : gH) (k : Nat) (x : gC) : gH := (h.1, h.2.1, h.2.2.set k x)
def gNew (h : gH) (n : Nat) (x : gC) : gH := (h.1 + 1, h.2.1 + n, h.2.2 ++ [x])
def gLd (ls : gL) (i : Nat) : Option Value := match ls[i]? with
  | some (some v) => some v
  | _ => none
def gSt (ls : gL) (i : Nat) (v : Value) : gL := ls.set i (some v)
/-- a value of one place -/
def gOk : Value → Bool
  | .int _ => true
  | .float _ => true
  | .ref _ => true
  | .null => true
  | .retAddr _ => true
  | _ => false
def gFit : FieldType → Value → Bool
  | .int, .int _ => true
  | .boolean, .int x => x == 0 || x == 1
  | .char, .int x => decide (0 ≤ x) && decide (x ≤ 65535)
  | .object _, .null => true
  | .object _, .ref _ => true
  | .object _, .retAddr _ => true
  | .array _, .null => true
  | .array _, .ref _ => true
  | .array _, .retAddr _ => true
  | _, _ => false
/-- the value of a field ahead of its first write -/
def gZ : FieldType → Value
  | .object _ => .null
  | .array _ => .null
  | _ => .int 0
/-- are two references one: none where it isn't known -/
def gSame : Value → Value → Option Bool
  | .ref a, .ref b => some (a == b)
  | .null, .null => some true
  | .null, .ref _ => some false
  | .ref _, .null => some false
  | .retAddr a, .retAddr b => if a = b then some true else none
  | .retAddr 2, .ref _ => some false
  | .ref _, .retAddr 2 => some false
  | _, _ => none
def gTest : ClassFile.Cond → Int32 → Int32 → Bool
  | .eq, x, y => decide (x = y)
  | .ne, x, y => decide (¬ x = y)
  | .lt, x, y => decide (x < y)
  | .ge, x, y => decide (y ≤ x)
  | .gt, x, y => decide (y < x)
  | .le, x, y => decide (x ≤ y)
/-- the component of an array of references that 'anewarray' makes -/
def gComp : Nat → FieldType
  | 0 => .object "java/lang/Object"
  | 1 => .object RX5
  | _ => .array .int
def gRefTy : FieldType → Bool
  | .object _ => true
  | .array _ => true
  | _ => false
/-- may a cell be stored in an array of this component -/
def gMay (ty : FieldType) (x : gC) : Bool := match ty, x with
  | .object C, .inl (ci, _) => C == "java/lang/Object" && (ci == 1 || ci == 2 || ci == 3 || ci == 4 || ci == 8 || ci == 9 || ci == 10) || C == RX5 && ci == 6
  | .array .int, .inr (.inl (t, _, _)) => t == .int
  | _, _ => false
/-- an instruction that neither calls, nor throws, nor returns -/
def gStep (sc : gSc) (q : gI) (pc : Nat) (ls : gL) (st : List Value) (h : gH) : Option gQ :=
  match q.1 with
  | .aconst_null => some (pc + 1, ls, .null :: st, h)
  | .iconst n => some (pc + 1, ls, .int (Int32.ofInt n) :: st, h)
  | .bipush n => some (pc + 2, ls, .int (Int8.ofInt n).toInt32 :: st, h)
  | .sipush n => some (pc + 3, ls, .int (Int16.ofInt n).toInt32 :: st, h)
  | .fconst k => some (pc + 1, ls, .float (if k = 0 then FP.fconst0 else if k = 1 then FP.fconst1 else FP.fconst2) :: st, h)
  | .ldc _ => match q.2.2.1 with
    | 0 => some (pc + 2, ls, .int (Int32.ofNat q.2.2.2) :: st, h)
    | 1 => some (pc + 2, ls, .float (UInt32.ofNat q.2.2.2) :: st, h)
    | 2 => some (pc + 2, ls, .retAddr q.2.2.2 :: st, h)
    | _ => none
  | .ldc_w _ => match q.2.2.1 with
    | 0 => some (pc + 3, ls, .int (Int32.ofNat q.2.2.2) :: st, h)
    | 1 => some (pc + 3, ls, .float (UInt32.ofNat q.2.2.2) :: st, h)
    | _ => none
  | .iload i => match gLd ls i with
    | some (.int x) => some (pc + 2, ls, .int x :: st, h)
    | _ => none
  | .iload_n i => match gLd ls i with
    | some (.int x) => some (pc + 1, ls, .int x :: st, h)
    | _ => none
  | .fload i => match gLd ls i with
    | some (.float x) => some (pc + 2, ls, .float x :: st, h)
    | _ => none
  | .fload_n i => match gLd ls i with
    | some (.float x) => some (pc + 1, ls, .float x :: st, h)
    | _ => none
  | .aload i => match gLd ls i with
    | some (.ref x) => some (pc + 2, ls, .ref x :: st, h)
    | some .null => some (pc + 2, ls, .null :: st, h)
    | some (.retAddr x) => some (pc + 2, ls, .retAddr x :: st, h)
    | _ => none
  | .aload_n i => match gLd ls i with
    | some (.ref x) => some (pc + 1, ls, .ref x :: st, h)
    | some .null => some (pc + 1, ls, .null :: st, h)
    | some (.retAddr x) => some (pc + 1, ls, .retAddr x :: st, h)
    | _ => none
  | .istore i => match st with
    | .int x :: st => some (pc + 2, gSt ls i (.int x), st, h)
    | _ => none
  | .istore_n i => match st with
    | .int x :: st => some (pc + 1, gSt ls i (.int x), st, h)
    | _ => none
  | .fstore i => match st with
    | .float x :: st => some (pc + 2, gSt ls i (.float x), st, h)
    | _ => none
  | .fstore_n i => match st with
    | .float x :: st => some (pc + 1, gSt ls i (.float x), st, h)
    | _ => none
  | .astore i => match st with
    | .ref x :: st => some (pc + 2, gSt ls i (.ref x), st, h)
    | .null :: st => some (pc + 2, gSt ls i .null, st, h)
    | .retAddr x :: st => some (pc + 2, gSt ls i (.retAddr x), st, h)
    | _ => none
  | .astore_n i => match st with
    | .ref x :: st => some (pc + 1, gSt ls i (.ref x), st, h)
    | .null :: st => some (pc + 1, gSt ls i .null, st, h)
    | .retAddr x :: st => some (pc + 1, gSt ls i (.retAddr x), st, h)
    | _ => none
  | .iinc i n => match gLd ls i with
    | some (.int x) => some (pc + 3, gSt ls i (.int (x + Int32.ofInt n)), st, h)
    | _ => none
  | .iadd => match st with
    | .int y :: .int x :: st => some (pc + 1, ls, .int (x + y) :: st, h)
    | _ => none
  | .isub => match st with
    | .int y :: .int x :: st => some (pc + 1, ls, .int (x - y) :: st, h)
    | _ => none
  | .imul => match st with
    | .int y :: .int x :: st => some (pc + 1, ls, .int (x * y) :: st, h)
    | _ => none
  | .idiv => match st with
    | .int y :: .int x :: st => if y = 0 then none else some (pc + 1, ls, .int (x / y) :: st, h)
    | _ => none
  | .irem => match st with
    | .int y :: .int x :: st => if y = 0 then none else some (pc + 1, ls, .int (x - x / y * y) :: st, h)
    | _ => none
  | .ixor => match st with
    | .int y :: .int x :: st => some (pc + 1, ls, .int (x ^^^ y) :: st, h)
    | _ => none
  | .ishl => match st with
    | .int y :: .int x :: st => some (pc + 1, ls, .int (x <<< (y &&& 31)) :: st, h)
    | _ => none
  | .ishr => match st with
    | .int y :: .int x :: st => some (pc + 1, ls, .int (x >>> (y &&& 31)) :: st, h)
    | _ => none
  | .iushr => match st with
    | .int y :: .int x :: st => some (pc + 1, ls, .int (x.toUInt32 >>> (y.toUInt32 &&& Int32.toUInt32 31)).toInt32 :: st, h)
    | _ => none
  | .i2c => match st with
    | .int x :: st => some (pc + 1, ls, .int (x.toUInt32 % 65536).toInt32 :: st, h)
    | _ => none
  | .i2f => match st with
    | .int x :: st => some (pc + 1, ls, .float (FP.i2f x) :: st, h)
    | _ => none
  | .f2i => match st with
    | .float x :: st => some (pc + 1, ls, .int (FP.f2i x) :: st, h)
    | _ => none
  | .fsub => match st with
    | .float y :: .float x :: st => if FP.fsub x y &&& 0x7fffffff ≤ 0x7f800000 then some (pc + 1, ls, .float (FP.fsub x y) :: st, h) else none
    | _ => none
  | .fmul => match st with
    | .float y :: .float x :: st => if FP.fmul x y &&& 0x7fffffff ≤ 0x7f800000 then some (pc + 1, ls, .float (FP.fmul x y) :: st, h) else none
    | _ => none
  | .fdiv => match st with
    | .float y :: .float x :: st => if FP.fdiv x y &&& 0x7fffffff ≤ 0x7f800000 then some (pc + 1, ls, .float (FP.fdiv x y) :: st, h) else none
    | _ => none
  | .fcmp op => match st with
    | .float y :: .float x :: st => some (pc + 1, ls, .int (Op.cmpValue (FP.fcmp x y) op) :: st, h)
    | _ => none
  | .dup => match st with
    | v :: st => if gOk v then some (pc + 1, ls, v :: v :: st, h) else none
    | _ => none
  | .dup_x1 => match st with
    | v :: w :: st => if gOk v && gOk w then some (pc + 1, ls, v :: w :: v :: st, h) else none
    | _ => none
  | .dup2 => match st with
    | v :: w :: st => if gOk v && gOk w then some (pc + 1, ls, v :: w :: v :: w :: st, h) else none
    | _ => none
  | .pop => match st with
    | v :: st => if gOk v then some (pc + 1, ls, st, h) else none
    | _ => none
  | .goto _ => some (q.2.2.1, ls, st, h)
  | .ifCond c _ => match st with
    | .int x :: st => if gTest c x 0 then some (q.2.2.1, ls, st, h) else some (pc + 3, ls, st, h)
    | _ => none
  | .if_icmp c _ => match st with
    | .int y :: .int x :: st => if gTest c x y then some (q.2.2.1, ls, st, h) else some (pc + 3, ls, st, h)
    | _ => none
  | .if_acmp c _ => match st with
    | y :: x :: st => match gSame x y with
      | some t => if (match c with | .eq => t | .ne => !t) then some (q.2.2.1, ls, st, h) else some (pc + 3, ls, st, h)
      | none => none
    | _ => none
  | .ifnull _ => match st with
    | .null :: st => some (q.2.2.1, ls, st, h)
    | .ref _ :: st => some (pc + 3, ls, st, h)
    | _ => none
  | .ifnonnull _ => match st with
    | .null :: st => some (pc + 3, ls, st, h)
    | .ref _ :: st => some (q.2.2.1, ls, st, h)
    | _ => none
  | .tableswitch dflt lo hi offs => match st with
    | .int x :: st => if x.toInt < lo ∨ hi < x.toInt then some ((pc + dflt).toNat, ls, st, h) else match offs[(x.toInt - lo).toNat]? with
      | some off => some ((pc + off).toNat, ls, st, h)
      | none => none
    | _ => none
  | .lookupswitch dflt ps => match st with
    | .int x :: st => some ((pc + Op.lookupswitch.offset ps.toList dflt x.toInt).toNat, ls, st, h)
    | _ => none
  | .getfield _ => match st with
    | .ref r :: st => match gGet h r with
      | some (.inl (ci, fs)) => if ci = q.2.2.1 then (match fs[q.2.2.2]? with
        | some v => some (pc + 3, ls, v :: st, h)
        | none => none) else none
      | _ => none
    | _ => none
  | .putfield _ => match st with
    | v :: .ref r :: st => match gGet h r with
      | some (.inl (ci, fs)) => if ci = q.2.2.1 ∧ q.2.2.2 < fs.length ∧ gFit (gTy ci q.2.2.2) v = true then some (pc + 3, ls, st, gPut h r (.inl (ci, fs.set q.2.2.2 v))) else none
      | _ => none
    | _ => none
  | .getstatic _ => if q.2.2.1 = 2 then some (pc + 3, ls, .retAddr 2 :: st, h) else none
  | .new _ => if q.2.2.1 < 12 then some (pc + 3, ls, .ref h.2.2.length :: st, gNew h (gN q.2.2.1) (.inl (q.2.2.1, (List.range (gN q.2.2.1)).map (fun k => gZ (gTy q.2.2.1 k))))) else none
  | .newarray ty => match st with
    | .int n :: st => if n < 0 ∨ 100000 < n.toNatClampNeg then none else some (pc + 2, ls, .ref h.2.2.length :: st, gNew h n.toNatClampNeg (.inr (.inl (newarray.typeOf ty, n.toNatClampNeg, fun _ => 0))))
    | _ => none
  | .anewarray _ => match st with
    | .int n :: st => if n < 0 ∨ 100000 < n.toNatClampNeg ∨ 2 < q.2.2.1 then none else some (pc + 3, ls, .ref h.2.2.length :: st, gNew h n.toNatClampNeg (.inr (.inr (gComp q.2.2.1, n.toNatClampNeg, fun _ => none))))
    | _ => none
  | .checkcast _ => match st with
    | .null :: st => some (pc + 3, ls, .null :: st, h)
    | .ref r :: st => match gGet h r with
      | some (.inl (ci, _)) => if ci = q.2.2.1 then some (pc + 3, ls, .ref r :: st, h) else none
      | some (.inr (.inr (ty, _, _))) => if q.2.2.1 = 1000 ∧ ty = .object "java/lang/Object" then some (pc + 3, ls, .ref r :: st, h) else none
      | _ => none
    | _ => none
  | .arraylength => match st with
    | .ref r :: st => match gGet h r with
      | some (.inr (.inl (_, n, _))) => some (pc + 1, ls, .int (Int32.ofNat n) :: st, h)
      | some (.inr (.inr (_, n, _))) => some (pc + 1, ls, .int (Int32.ofNat n) :: st, h)
      | _ => none
    | .retAddr 0 :: st => some (pc + 1, ls, .int (Int32.ofNat sc.1) :: st, h)
    | .retAddr 2 :: st => some (pc + 1, ls, .int 0 :: st, h)
    | _ => none
  | .iaload => match st with
    | .int i :: .ref r :: st => match gGet h r with
      | some (.inr (.inl (ty, n, f))) => if ty = .int ∧ ¬ (i < 0 ∨ n ≤ i.toNatClampNeg) then some (pc + 1, ls, .int (f i.toNatClampNeg) :: st, h) else none
      | _ => none
    | .int i :: .retAddr 0 :: st => if ¬ (i < 0 ∨ sc.1 ≤ i.toNatClampNeg) then some (pc + 1, ls, .int (sc.2 i.toNatClampNeg) :: st, h) else none
    | _ => none
  | .baload => match st with
    | .int i :: .ref r :: st => match gGet h r with
      | some (.inr (.inl (ty, n, f))) => if ty = .boolean ∧ ¬ (i < 0 ∨ n ≤ i.toNatClampNeg) then some (pc + 1, ls, .int (f i.toNatClampNeg) :: st, h) else none
      | _ => none
    | _ => none
  | .caload => match st with
    | .int i :: .ref r :: st => match gGet h r with
      | some (.inr (.inl (ty, n, f))) => if ty = .char ∧ ¬ (i < 0 ∨ n ≤ i.toNatClampNeg) then some (pc + 1, ls, .int (f i.toNatClampNeg) :: st, h) else none
      | _ => none
    | _ => none
  | .iastore => match st with
    | .int x :: .int i :: .ref r :: st => match gGet h r with
      | some (.inr (.inl (ty, n, f))) => if ty = .int ∧ ¬ (i < 0 ∨ n ≤ i.toNatClampNeg) then some (pc + 1, ls, st, gPut h r (.inr (.inl (ty, n, upd f i.toNatClampNeg x)))) else none
      | _ => none
    | _ => none
  | .bastore => match st with
    | .int x :: .int i :: .ref r :: st => match gGet h r with
      | some (.inr (.inl (ty, n, f))) => if ty = .boolean ∧ ¬ (i < 0 ∨ n ≤ i.toNatClampNeg) then some (pc + 1, ls, st, gPut h r (.inr (.inl (ty, n, upd f i.toNatClampNeg (vp_nar .boolean x))))) else none
      | _ => none
    | _ => none
  | .castore => match st with
    | .int x :: .int i :: .ref r :: st => match gGet h r with
      | some (.inr (.inl (ty, n, f))) => if ty = .char ∧ ¬ (i < 0 ∨ n ≤ i.toNatClampNeg) then some (pc + 1, ls, st, gPut h r (.inr (.inl (ty, n, upd f i.toNatClampNeg (vp_nar .char x))))) else none
      | _ => none
    | _ => none
  | .aaload => match st with
    | .int i :: .ref r :: st => match gGet h r with
      | some (.inr (.inr (ty, n, f))) => if gRefTy ty = true ∧ ¬ (i < 0 ∨ n ≤ i.toNatClampNeg) then some (pc + 1, ls, va_rf (f i.toNatClampNeg) :: st, h) else none
      | _ => none
    | _ => none
  | .aastore => match st with
    | .ref v :: .int i :: .ref r :: st => match gGet h r, gGet h v with
      | some (.inr (.inr (ty, n, f))), some x => if ¬ (i < 0 ∨ n ≤ i.toNatClampNeg) ∧ gMay ty x = true then some (pc + 1, ls, st, gPut h r (.inr (.inr (ty, n, va_up f i.toNatClampNeg (some v))))) else none
      | _, _ => none
    | .null :: .int i :: .ref r :: st => match gGet h r with
      | some (.inr (.inr (ty, n, f))) => if ¬ (i < 0 ∨ n ≤ i.toNatClampNeg) ∧ ty = .object "java/lang/Object" then some (pc + 1, ls, st, gPut h r (.inr (.inr (ty, n, va_up f i.toNatClampNeg none)))) else none
      | _ => none
    | _ => none
  | _ => none
