def gKinds : List (Nat × Nat) := [(9, 0), (0, 3), (0, 7), (0, 6), (0, 3), (0, 3), (0, 3), (0, 1), (0, 6), (0, 5), (0, 2), (0, 6), (0, 2), (0, 7), (0, 7), (0, 6), (0, 2), (0, 3), (2, 0), (1, 1), (0, 2), (1, 1), (1, 0), (1, 0), (1, 1), (0, 1), (1, 0), (1, 4), (1, 5), (0, 2), (1, 1), (1, 1), (1, 1), (1, 2), (1, 0), (1, 1), (1, 2), (1, 2), (0, 2), (1, 2), (1, 3), (1, 1), (1, 1), (0, 2), (0, 2), (1, 3), (1, 0), (1, 1), (1, 3), (1, 3), (1, 1), (1, 1), (1, 1), (1, 0), (1, 0), (1, 3), (1, 3), (1, 1), (1, 1), (1, 4), (0, 1), (1, 0), (1, 0), (1, 2), (1, 3), (1, 2), (0, 1), (1, 0), (1, 2), (1, 3), (1, 0), (1, 4), (1, 3), (1, 5), (1, 3), (1, 3), (1, 1), (0, 1), (1, 1), (1, 2), (0, 3), (1, 4), (1, 1), (1, 1), (1, 1), (1, 3), (1, 3), (1, 1), (1, 1), (1, 3), (1, 2), (1, 2), (1, 1), (1, 0), (1, 0), (1, 0), (1, 1), (1, 0), (1, 1), (1, 5), (2, 2), (2, 5), (1, 2), (2, 3), (2, 2), (1, 1), (1, 0), (1, 1), (1, 1), (1, 1), (1, 0), (1, 3), (2, 0), (1, 0), (0, 3), (1, 2), (1, 2), (2, 0), (1, 1), (1, 0), (1, 1), (1, 2), (0, 2), (1, 0), (1, 0), (1, 2), (1, 1), (1, 0), (2, 2), (1, 0), (1, 0), (1, 4), (1, 0), (1, 1), (1, 0), (1, 0), (2, 4), (0, 3), (0, 3), (1, 2), (1, 1), (0, 1), (0, 1), (1, 0), (1, 1), (1, 1), (0, 1), (1, 2), (1, 0), (2, 2), (2, 4), (1, 0), (1, 0), (1, 1), (1, 1), (1, 1), (0, 2), (0, 2), (2, 0), (2, 0), (2, 0), (1, 2), (1, 1), (1, 3), (1, 0), (1, 1), (1, 2), (1, 1), (1, 0), (1, 1), (1, 0), (1, 1), (1, 1), (1, 0), (0, 2), (0, 3), (0, 2), (0, 3), (0, 3), (0, 1), (0, 1)]
/-! every row of the tables is right: the bytes, the branches, the pool's words (each by its place in lw_tbl) -/
def gW (p : List Nat) (k : Nat) (w : Cond) : Bool := match p[k]? with
  | some j => decide (lw_tbl[j]? = some w)
  | none => false
theorem gW_in {p : List Nat} {k : Nat} {w : Cond} (h : gW p k w = true) : w ∈ lw_tbl := by
  unfold gW at h
  split at h
  · exact List.mem_of_getElem? (of_decide_eq_true h)
  · cases h
def gFl (p : List Nat) (own : String) (i a b : Nat) : Bool := match gCl[a]? with
  | some (C, T, N) => decide (b < N) && (gW p 0 (.fieldLink own i (T b).1 (T b).2.1 (T b).2.2.1) || gW p 0 (.fieldLink own i C (T b).2.1 (T b).2.2.1) && gW p 1 (.sameField C (T b).1 (T b).2.1 (T b).2.2.1))
  | none => false
def gFin (a b : Nat) : Bool := match gCl[a]? with
  | some (_, T, _) => (T b).2.2.2
  | none => false
def gDcl (a b : Nat) : String := match gCl[a]? with
  | some (_, T, _) => (T b).1
  | none => ""
def gCodeW (a : Nat) : Cond := match gTb a with
  | [] => .code (gY a) (gB a) (gMx a) (gRt a)
  | t => .codeWith (gY a) (gB a) (gMx a) (gRt a) t
/-- a method: 0 static, 1 by its receiver, 2 a constructor; k its parameters -/
def gMok (a : Nat) (kind k : Nat) (p : List Nat) : Bool :=
  plainFor (gY a) && decide ((gY a).cls ≠ "java/lang/invoke/MethodHandle") && decide ((gY a).cls ≠ "java/lang/invoke/VarHandle") && decide ((parseMethodDescriptor (gY a).desc).map (fun d => d.parameters.length) = some k) && gW p 0 (gCodeW a) && gW p 1 (.initialized (gY a).cls) &&
  (match kind with
  | 0 => gW p 2 (.static (gY a))
  | 1 => gW p 2 (.instanceMethod (gY a)) && gW p 3 (.selects (gY a).cls (gY a) (gY a)) && (gTb a).isEmpty
  | _ => gW p 2 (.instanceMethod (gY a)) && decide ((gY a).name = "<init>") && decide (gRt a = none) && (gTb a).isEmpty)
def gKnd (a : Nat) : Nat × Nat := match gKinds[a]? with
  | some q => q
  | none => (9, 0)
def gStrAt (p : List Nat) (k : Nat) (own : String) (i : Nat) : Bool := match p[k]? with
  | some j => (match lw_tbl[j]? with
    | some (.stringRef o i' _) => o == own && i' == i
    | _ => false)
  | none => false
/-- a throw by hand: 'new' at pc; the words of it -/
def gThr (p : List Nat) (own : String) (m pc i E : Nat) : Bool := match gFetch m (pc + 4), gFetch m (pc + 3) with
  | some (.ldc is, _, _, _), some (.dup, _, _, _) => match gFetch m (pc + 6), gFetch m (pc + 9) with
    | some (.invokespecial ic, _, _, _), some (.athrow, _, _, _) => gW p 0 (.classLink own i (gEx E)) && gW p 1 (.initialized (gEx E)) && gStrAt p 2 own is && gW p 3 (.methodLink own ic (Bundle.initS (gEx E))) && decide (E < 4)
    | _, _ => false
  | some (.ldc_w is, _, _, _), some (.dup, _, _, _) => match gFetch m (pc + 7), gFetch m (pc + 10) with
    | some (.invokespecial ic, _, _, _), some (.athrow, _, _, _) => gW p 0 (.classLink own i (gEx E)) && gW p 1 (.initialized (gEx E)) && gStrAt p 2 own is && gW p 3 (.methodLink own ic (Bundle.initS (gEx E))) && decide (E < 4)
    | _, _ => false
  | _, _ => false
/-- the lengths of the instructions, as the rows of the kit ask for them -/
def gLen : Instr → Nat → Bool
  | .tableswitch _ _ _ _, _ => true
  | .lookupswitch _ _, _ => true
  | .aload _, n => n == 2
  | .iload _, n => n == 2
  | .fload _, n => n == 2
  | .astore _, n => n == 2
  | .istore _, n => n == 2
  | .fstore _, n => n == 2
  | .bipush _, n => n == 2
  | .ldc _, n => n == 2
  | .newarray _, n => n == 2
  | .sipush _, n => n == 3
  | .ldc_w _, n => n == 3
  | .iinc _ _, n => n == 3
  | .goto _, n => n == 3
  | .ifCond _ _, n => n == 3
  | .if_icmp _ _, n => n == 3
  | .if_acmp _ _, n => n == 3
  | .ifnull _, n => n == 3
  | .ifnonnull _, n => n == 3
  | .getfield _, n => n == 3
  | .putfield _, n => n == 3
  | .getstatic _, n => n == 3
  | .new _, n => n == 3
  | .anewarray _, n => n == 3
  | .checkcast _, n => n == 3
  | .invokestatic _, n => n == 3
  | .invokevirtual _, n => n == 3
  | .invokespecial _, n => n == 3
  | _, n => n == 1
def gFb : MethodName := ⟨"java/lang/Float", "floatToRawIntBits", "(F)I"⟩
def gGc : MethodName := ⟨"java/lang/Object", "getClass", "()Ljava/lang/Class;"⟩
def gRes (m pc : Nat) (q : gI) (p : List Nat) : Bool :=
  match q.1 with
  | .ldc i => match q.2.2.1 with
    | 0 => gW p 0 (.constant (gY m).cls i (Int32.ofNat q.2.2.2))
    | 1 => gW p 0 (.constantFloat (gY m).cls i (UInt32.ofNat q.2.2.2))
    | 2 => if q.2.2.2 = 1 then gW p 0 (.stringRef (gY m).cls i "+><") else decide (q.2.2.2 = 3) && gW p 0 (.classLink (gY m).cls i "[Ljava/lang/Object;")
    | _ => true
  | .ldc_w i => match q.2.2.1 with
    | 0 => gW p 0 (.constant (gY m).cls i (Int32.ofNat q.2.2.2))
    | 1 => gW p 0 (.constantFloat (gY m).cls i (UInt32.ofNat q.2.2.2))
    | _ => true
  | .istore i => decide (i < gMx m)
  | .fstore i => decide (i < gMx m)
  | .astore i => decide (i < gMx m)
  | .istore_n i => decide ((i : Nat) < gMx m)
  | .fstore_n i => decide ((i : Nat) < gMx m)
  | .astore_n i => decide ((i : Nat) < gMx m)
  | .goto off => decide ((pc : Int) + off = (q.2.2.1 : Int))
  | .ifCond _ off => decide ((pc : Int) + off = (q.2.2.1 : Int))
  | .if_icmp _ off => decide ((pc : Int) + off = (q.2.2.1 : Int))
  | .if_acmp _ off => decide ((pc : Int) + off = (q.2.2.1 : Int))
  | .ifnull off => decide ((pc : Int) + off = (q.2.2.1 : Int))
  | .ifnonnull off => decide ((pc : Int) + off = (q.2.2.1 : Int))
  | .tableswitch dflt lo hi offs => decide (0 ≤ (pc : Int) + dflt) && offs.toList.all (fun o => decide (0 ≤ (pc : Int) + o))
  | .lookupswitch dflt ps => decide (0 ≤ (pc : Int) + dflt) && ps.toList.all (fun o => decide (0 ≤ (pc : Int) + o.2)) && (ps.toList.zip (ps.toList.drop 1)).all (fun (a, next) => a.1 < next.1)
  | .getfield i => decide (12 ≤ q.2.2.1) || gFl p (gY m).cls i q.2.2.1 q.2.2.2
  | .putfield i => decide (12 ≤ q.2.2.1) || gFl p (gY m).cls i q.2.2.1 q.2.2.2 && (!gFin q.2.2.1 q.2.2.2 || decide ((gY m).name = "<init>") && decide (gDcl q.2.2.1 q.2.2.2 = (gY m).cls))
  | .getstatic i => decide (q.2.2.1 ≠ 2) || gW p 0 (.fieldLink (gY m).cls i "java/util/ArrayList" "DEFAULTCAPACITY_EMPTY_ELEMENTDATA" "[Ljava/lang/Object;")
  | .new i => if 1000 ≤ q.2.2.1 then gThr p (gY m).cls m pc i (q.2.2.1 - 1000) else decide (12 ≤ q.2.2.1) || gW p 0 (.classLink (gY m).cls i (gCn q.2.2.1)) && gW p 1 (.instantiable (gCn q.2.2.1) (gN q.2.2.1)) && gW p 2 (.initialized (gCn q.2.2.1))
  | .newarray ty => gW p 0 (.arrayClass (newarray.typeOf ty)) && (decide (ty = .int) || decide (ty = .boolean) || decide (ty = .char))
  | .anewarray i => decide (2 < q.2.2.1) || gW p 0 (.arrayOver (gComp q.2.2.1)) && (match gComp q.2.2.1 with | .object C => gW p 1 (.classLink (gY m).cls i C) | t => gW p 1 (.classLink (gY m).cls i t.toString))
  | .checkcast i => if q.2.2.1 = 1000 then gW p 0 (.classLink (gY m).cls i "[Ljava/lang/Object;") else decide (12 ≤ q.2.2.1) || gW p 0 (.classLink (gY m).cls i (gCn q.2.2.1))
  | .invokestatic i => if 900 ≤ q.2.2.1 then (match q.2.2.1 with
      | 901 => gW p 0 (.methodLink (gY m).cls i arraycopyName) && gW p 1 (.native arraycopyName) && gW p 2 (.static arraycopyName) && gW p 3 (.initialized "java/lang/System")
      | 904 => gW p 0 (.methodLink (gY m).cls i gFb) && gW p 1 (.native gFb) && gW p 2 (.static gFb) && gW p 3 (.initialized "java/lang/Float")
      | n => decide (n = 999)) else decide (gKnd q.2.2.1 = (0, q.2.2.2)) && gW p 0 (.methodLink (gY m).cls i (gY q.2.2.1))
  | .invokevirtual i => if 900 ≤ q.2.2.1 then (match q.2.2.1 with
      | 902 => gW p 0 (.methodLink (gY m).cls i gGc) && gW p 1 (.declares gGc) && gW p 2 (.selects "[Ljava/lang/Object;" gGc gGc) && gW p 3 (.instanceMethod gGc) && gW p 4 (.native gGc)
      | 903 => gW p 0 (.methodLink (gY m).cls i ⟨"java/lang/String", "charAt", "(I)C"⟩)
      | n => decide (n = 999)) else decide (1 ≤ q.2.2.2) && decide (gKnd q.2.2.1 = (1, q.2.2.2 - 1)) && gW p 0 (.methodLink (gY m).cls i (gY q.2.2.1))
  | .invokespecial i => if 900 ≤ q.2.2.1 then (match q.2.2.1 with
      | 900 => gW p 0 (.methodLink (gY m).cls i objectInit) && gW p 1 (.instanceMethod objectInit) && gW p 2 (.code objectInit ⟨#[0xb1]⟩ 1 none)
      | n => decide (n = 999)) else decide (1 ≤ q.2.2.2) && decide (gKnd q.2.2.1 = (2, q.2.2.2 - 1)) && (gW p 0 (.methodLink (gY m).cls i (gY q.2.2.1)) || gW p 0 (.methodLinkNest (gY m).cls i (gY q.2.2.1) "StratumLedge"))
  | _ => true
def gRow (m : Nat) (r : Nat × gI) (p : List Nat) : Bool := (match decode (gB m) r.1 with
  | .ok (i, n) => decide (i = r.2.1) && decide (n = r.2.2.1)
  | .error _ => false) && gLen r.2.1 r.2.2.1 && gRes m r.1 r.2 p
def gAll (m : Nat) : List (Nat × gI) → List (Nat × Nat × List Nat) → Bool
  | [], _ => true
  | r :: l, hs => gRow m r (match hs.lookup r.1 with | some q => q.2 | none => []) && gAll m l hs
theorem gAll_app (m : Nat) (hs : List (Nat × Nat × List Nat)) : ∀ (l l' : List (Nat × gI)), gAll m l hs = true → gAll m l' hs = true → gAll m (l ++ l') hs = true
  | [], _, _, h => h
  | r :: l, l', h, h' => by
    have h1 : (gRow m r (match hs.lookup r.1 with | some q => q.2 | none => []) && gAll m l hs) = true := h
    rw [Bool.and_eq_true] at h1
    show (gRow m r (match hs.lookup r.1 with | some q => q.2 | none => []) && gAll m (l ++ l') hs) = true
    rw [h1.1, gAll_app m hs l l' h1.2 h']
    rfl
theorem gAll_nil (m : Nat) (l : List (Nat × gI)) (hs : List (Nat × Nat × List Nat)) (k : Nat) (h : l.length ≤ k) : gAll m (l.drop k) hs = true := by
  rw [List.drop_eq_nil_of_le h]
  rfl
theorem gAll_cut (m : Nat) (l : List (Nat × gI)) (hs : List (Nat × Nat × List Nat)) (k n : Nat) (h : gAll m ((l.drop k).take n) hs = true) (h' : gAll m (l.drop (k + n)) hs = true) : gAll m (l.drop k) hs = true := by
  have e : l.drop k = (l.drop k).take n ++ l.drop (k + n) := by
    rw [← List.drop_drop]
    exact (List.take_append_drop n _).symm
  rw [e]
  exact gAll_app m hs _ _ h h'

