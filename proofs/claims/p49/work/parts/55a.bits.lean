/-! DEBTS, beginning a merging -/
def nnF (x : UInt32) : Bool := decide (x &&& 0x7fffffff ≤ 0x7f800000)
def dF (j n : Nat) : UInt32 := match j with
  | 0 => FP.fdiv (FP.i2f (zI n)) 1077936128
  | 1 => FP.fdiv (FP.i2f (zI n)) 1090519040
  | 2 => FP.fdiv (FP.i2f (zI n)) 1103101952
  | _ => FP.fconst0
def dM (j : Nat) (l : LvD) : Nat := if j = 0 then l.rs.length else wtS l.rs
def bo1 : Nat → UInt32 → Int32 → Option (UInt32 × Int32)
  | 0, _, _ => none
  | k + 1, x, e => if gTest .lt (Op.cmpValue (FP.fcmp x FP.fconst2) .l) 0 then some (x, e) else if nnF (FP.fdiv x FP.fconst2) then bo1 k (FP.fdiv x FP.fconst2) (e + Int32.ofInt 1) else none
def bo2 : Nat → UInt32 → Int32 → Option (UInt32 × Int32)
  | 0, _, _ => none
  | k + 1, x, e => if gTest .ge (Op.cmpValue (FP.fcmp x FP.fconst1) .g) 0 then some (x, e) else if nnF (FP.fmul x FP.fconst2) then bo2 k (FP.fmul x FP.fconst2) (e + Int32.ofInt (-1)) else none
def bitsP (x : UInt32) : Option Int32 := if gTest .gt (Op.cmpValue (FP.fcmp x FP.fconst0) .g) 0 then (match bo1 20 x (zI 127) with
  | none => none
  | some (x1, e1) => match bo2 20 x1 e1 with
    | none => none
    | some (x2, e2) => if nnF (FP.fsub x2 FP.fconst1) && nnF (FP.fmul (FP.fsub x2 FP.fconst1) 1258291200) then some ((e2 <<< (zI 23 &&& 31)) + FP.f2i (FP.fmul (FP.fsub x2 FP.fconst1) 1258291200)) else none) else some (zI 0)
def frc {α : Type} (x : UInt32) (k : UInt32 → α) : α := match x.toNat with
  | 0 => k (UInt32.ofNat 0)
  | n + 1 => k (UInt32.ofNat (n + 1))
theorem frc_eq {α : Type} {x : UInt32} {k : UInt32 → α} : frc x k = k x := by
  have h : ∀ n : Nat, n = x.toNat → (match n with | 0 => k (UInt32.ofNat 0) | n + 1 => k (UInt32.ofNat (n + 1))) = k x := by
    intro n hn
    have h2 : UInt32.ofNat n = x := by rw [hn]; exact UInt32.ofNat_toNat
    cases n with
    | zero => exact congrArg k h2
    | succ m => exact congrArg k h2
  exact h _ rfl
def bo1f : Nat → UInt32 → Int32 → Option (UInt32 × Int32)
  | 0, _, _ => none
  | k + 1, x, e => if gTest .lt (Op.cmpValue (FP.fcmp x FP.fconst2) .l) 0 then some (x, e) else frc (FP.fdiv x FP.fconst2) (fun y => if nnF y then bo1f k y (e + Int32.ofInt 1) else none)
def bo2f : Nat → UInt32 → Int32 → Option (UInt32 × Int32)
  | 0, _, _ => none
  | k + 1, x, e => if gTest .ge (Op.cmpValue (FP.fcmp x FP.fconst1) .g) 0 then some (x, e) else frc (FP.fmul x FP.fconst2) (fun y => if nnF y then bo2f k y (e + Int32.ofInt (-1)) else none)
theorem bo1f_eq : ∀ {k : Nat} {x : UInt32} {e : Int32}, bo1f k x e = bo1 k x e
  | 0, x, e => rfl
  | k + 1, x, e => by
    unfold bo1f bo1
    rw [frc_eq, bo1f_eq]
theorem bo2f_eq : ∀ {k : Nat} {x : UInt32} {e : Int32}, bo2f k x e = bo2 k x e
  | 0, x, e => rfl
  | k + 1, x, e => by
    unfold bo2f bo2
    rw [frc_eq, bo2f_eq]
def bitsF (x : UInt32) : Option Int32 := if gTest .gt (Op.cmpValue (FP.fcmp x FP.fconst0) .g) 0 then (match bo1f 20 x (zI 127) with
  | none => none
  | some (x1, e1) => match bo2f 20 x1 e1 with
    | none => none
    | some (x2, e2) => frc (FP.fsub x2 FP.fconst1) (fun y => frc (FP.fmul y 1258291200) (fun z => if nnF y && nnF z then some ((e2 <<< (zI 23 &&& 31)) + FP.f2i z) else none))) else some (zI 0)
theorem bitsF_eq {x : UInt32} : bitsF x = bitsP x := by
  unfold bitsF bitsP
  simp only [frc_eq, bo1f_eq, bo2f_eq]
def dfCk (j n : Nat) : Bool := frc (dF j n) (fun x => nnF x && (bitsF x == some x.toInt32) && (FP.fcmp x x == some .eq))
theorem dF_at {j lo k n : Nat} (h : (List.range k).all (fun n => dfCk j (lo + n)) = true) (h1 : lo ≤ n) (h2 : n < lo + k) : dfCk j n = true := by
  have h3 := List.all_eq_true.mp h (n - lo) (List.mem_range.mpr (by omega))
  have e : lo + (n - lo) = n := by omega
  rw [e] at h3
  exact h3
theorem dF_0_0 : (List.range 98).all (fun n => dfCk 0 (0 + n)) = true := by decide +kernel
theorem dF_0_98 : (List.range 98).all (fun n => dfCk 0 (98 + n)) = true := by decide +kernel
theorem dF_0_196 : (List.range 98).all (fun n => dfCk 0 (196 + n)) = true := by decide +kernel
theorem dF_0_294 : (List.range 98).all (fun n => dfCk 0 (294 + n)) = true := by decide +kernel
theorem dF_0_392 : (List.range 98).all (fun n => dfCk 0 (392 + n)) = true := by decide +kernel
theorem dF_1_0 : (List.range 98).all (fun n => dfCk 1 (0 + n)) = true := by decide +kernel
theorem dF_1_98 : (List.range 98).all (fun n => dfCk 1 (98 + n)) = true := by decide +kernel
theorem dF_1_196 : (List.range 98).all (fun n => dfCk 1 (196 + n)) = true := by decide +kernel
theorem dF_1_294 : (List.range 98).all (fun n => dfCk 1 (294 + n)) = true := by decide +kernel
theorem dF_1_392 : (List.range 98).all (fun n => dfCk 1 (392 + n)) = true := by decide +kernel
theorem dF_2_0 : (List.range 98).all (fun n => dfCk 2 (0 + n)) = true := by decide +kernel
theorem dF_2_98 : (List.range 98).all (fun n => dfCk 2 (98 + n)) = true := by decide +kernel
theorem dF_2_196 : (List.range 98).all (fun n => dfCk 2 (196 + n)) = true := by decide +kernel
theorem dF_2_294 : (List.range 98).all (fun n => dfCk 2 (294 + n)) = true := by decide +kernel
theorem dF_2_392 : (List.range 98).all (fun n => dfCk 2 (392 + n)) = true := by decide +kernel
theorem dF_3_0 : (List.range 98).all (fun n => dfCk 3 (0 + n)) = true := by decide +kernel
theorem dF_3_98 : (List.range 98).all (fun n => dfCk 3 (98 + n)) = true := by decide +kernel
theorem dF_3_196 : (List.range 98).all (fun n => dfCk 3 (196 + n)) = true := by decide +kernel
theorem dF_3_294 : (List.range 98).all (fun n => dfCk 3 (294 + n)) = true := by decide +kernel
theorem dF_3_392 : (List.range 98).all (fun n => dfCk 3 (392 + n)) = true := by decide +kernel
theorem dF_0 {n : Nat} (hn : n < 490) : dfCk 0 n = true := by
  by_cases h0 : n < 98
  · exact dF_at dF_0_0 (by omega) (by omega)
  by_cases h98 : n < 196
  · exact dF_at dF_0_98 (by omega) (by omega)
  by_cases h196 : n < 294
  · exact dF_at dF_0_196 (by omega) (by omega)
  by_cases h294 : n < 392
  · exact dF_at dF_0_294 (by omega) (by omega)
  exact dF_at dF_0_392 (by omega) (by omega)
theorem dF_1 {n : Nat} (hn : n < 490) : dfCk 1 n = true := by
  by_cases h0 : n < 98
  · exact dF_at dF_1_0 (by omega) (by omega)
  by_cases h98 : n < 196
  · exact dF_at dF_1_98 (by omega) (by omega)
  by_cases h196 : n < 294
  · exact dF_at dF_1_196 (by omega) (by omega)
  by_cases h294 : n < 392
  · exact dF_at dF_1_294 (by omega) (by omega)
  exact dF_at dF_1_392 (by omega) (by omega)
theorem dF_2 {n : Nat} (hn : n < 490) : dfCk 2 n = true := by
  by_cases h0 : n < 98
  · exact dF_at dF_2_0 (by omega) (by omega)
  by_cases h98 : n < 196
  · exact dF_at dF_2_98 (by omega) (by omega)
  by_cases h196 : n < 294
  · exact dF_at dF_2_196 (by omega) (by omega)
  by_cases h294 : n < 392
  · exact dF_at dF_2_294 (by omega) (by omega)
  exact dF_at dF_2_392 (by omega) (by omega)
theorem dF_3 {n : Nat} (hn : n < 490) : dfCk 3 n = true := by
  by_cases h0 : n < 98
  · exact dF_at dF_3_0 (by omega) (by omega)
  by_cases h98 : n < 196
  · exact dF_at dF_3_98 (by omega) (by omega)
  by_cases h196 : n < 294
  · exact dF_at dF_3_196 (by omega) (by omega)
  by_cases h294 : n < 392
  · exact dF_at dF_3_294 (by omega) (by omega)
  exact dF_at dF_3_392 (by omega) (by omega)
theorem dF_ok0 {j n : Nat} (h : dfCk j n = true) : nnF (dF j n) = true ∧ bitsP (dF j n) = some (dF j n).toInt32 ∧ FP.fcmp (dF j n) (dF j n) = some .eq := by
  unfold dfCk at h
  rw [frc_eq, bitsF_eq, Bool.and_eq_true, Bool.and_eq_true] at h
  exact ⟨h.1.1, eq_of_beq h.1.2, eq_of_beq h.2⟩
theorem dF_all {j n : Nat} (hj : j ≤ 3) (hn : n < 490) : dfCk j n = true := by
  by_cases h0 : j = 0
  · subst h0
    exact dF_0 hn
  by_cases h1 : j = 1
  · subst h1
    exact dF_1 hn
  by_cases h2 : j = 2
  · subst h2
    exact dF_2 hn
  obtain rfl : j = 3 := by omega
  exact dF_3 hn
theorem dF_ok {j n : Nat} (hj : j ≤ 3) (hn : n < 490) : nnF (dF j n) = true ∧ bitsP (dF j n) = some (dF j n).toInt32 ∧ FP.fcmp (dF j n) (dF j n) = some .eq := dF_ok0 (dF_all hj hn)
