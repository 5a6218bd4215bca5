/-! THE INTERPRETER IS RIGHT. What its states are of the machine: 'ads' the addresses of the interpreter's cells, 'ex' of the four things that were there -/
def gR (ads : List Nat) (ex : Nat → Nat) : Value → Value → Prop
  | .int x, w => w = .int x
  | .float x, w => w = .float x
  | .null, w => w = .null
  | .ref k, w => ∃ a, ads[k]? = some a ∧ w = .ref a
  | .retAddr j, w => j < 4 ∧ w = .ref (ex j)
  | _, _ => False
def gRs (ads : List Nat) (ex : Nat → Nat) : List Value → List Value → Prop
  | [], w => w = []
  | v :: l, w => ∃ x l', w = x :: l' ∧ gR ads ex v x ∧ gRs ads ex l l'
def gRo (ads : List Nat) : Option Nat → Option Nat → Prop
  | none, y => y = none
  | some k, y => ∃ a, ads[k]? = some a ∧ y = some a
def gRv (ads : List Nat) (ex : Nat → Nat) : Option Value → Option Value → Prop
  | none, y => y = none
  | some v, y => ∃ w, y = some w ∧ gR ads ex v w
def gRc (ads : List Nat) (ex : Nat → Nat) (tys : List (ClassId × FieldType)) : gC → va_E → Prop
  | .inl (ci, fs), e => ∃ fs', e = .inr (ci, fs') ∧ gRs ads ex fs fs'
  | .inr (.inl (ty, n, f)), e => ∃ (cA : ClassId) (t : Nat), e = .inl (cA, n, .inl f) ∧ tys[t]? = some (cA, ty)
  | .inr (.inr (ty, n, f)), e => ∃ (cA : ClassId) (t : Nat) (g : Nat → Option Nat), e = .inl (cA, n, .inr (.inr (.inr (.inr g)))) ∧ tys[t]? = some (cA, ty) ∧ ∀ i, gRo ads (f i) (g i)
/-- the heap: the interpreter's cells, one for one -/
def gHp (B : Nat) (D : va_G) (ex : Nat → Nat) (ads : List Nat) (h : gH) (s : State) (H : Heap) : Prop :=
  ∃ (ws : va_W) (tys : List (ClassId × FieldType)), ws.map Prod.fst = ads ∧ va_P D gCl ws H ∧ va_D (fun q => B ≤ q) ws ∧ va_K D gCl tys s ∧ ws.length = h.2.2.length ∧
    ∀ (k : Nat) (x : gC), h.2.2[k]? = some x → ∃ (a : Nat) (e : va_E), ws[k]? = some (a, e) ∧ gRc ads ex tys x e
/-- what was there ahead of the law is as it was -/
def gOld (sL : State) (s : State) (H : Heap) : Prop := sL.WarmedH s.vm ∧ sL.heap.size ≤ H.size ∧ ∀ q : Nat, q < sL.heap.size → H[q]? = sL.heap[q]?
def gLo (ads : List Nat) (ex : Nat → Nat) (ls : gL) (mls : Array Slot) (nL : Nat) : Prop :=
  ls.length = nL ∧ mls.size = nL ∧ lv_wf mls ∧ ∀ (i : Nat) (v : Value), ls[i]? = some (some v) → ∃ w, mls[i]? = some (.val w) ∧ gR ads ex v w
theorem gR_cat {ads : List Nat} {ex : Nat → Nat} {v w : Value} (h : gR ads ex v w) : w.category = 1 := by
  cases v with
  | int x => cases (show w = .int x from h); rfl
  | float x => cases (show w = .float x from h); rfl
  | null => cases (show w = .null from h); rfl
  | ref k => obtain ⟨a, -, rfl⟩ := (show ∃ a, ads[k]? = some a ∧ w = .ref a from h); rfl
  | retAddr j => obtain ⟨-, rfl⟩ := (show j < 4 ∧ w = .ref (ex j) from h); rfl
  | long x => exact absurd h (by simp [gR])
  | double x => exact absurd h (by simp [gR])
theorem gR_up {ads : List Nat} {ex : Nat → Nat} {v w : Value} (x : List Nat) (h : gR ads ex v w) : gR (ads ++ x) ex v w := by
  cases v with
  | ref k =>
    obtain ⟨a, h1, rfl⟩ := (show ∃ a, ads[k]? = some a ∧ w = .ref a from h)
    exact ⟨a, by rw [List.getElem?_append_left (List.getElem?_eq_some_iff.mp h1).1]; exact h1, rfl⟩
  | _ => exact h
theorem gRs_up {ads : List Nat} {ex : Nat → Nat} (x : List Nat) : ∀ {l l' : List Value}, gRs ads ex l l' → gRs (ads ++ x) ex l l'
  | [], _, h => h
  | v :: l, _, h => by
    obtain ⟨w, l', rfl, h1, h2⟩ := h
    exact ⟨w, l', rfl, gR_up x h1, gRs_up x h2⟩
theorem gRo_up {ads : List Nat} (x : List Nat) {a b : Option Nat} (h : gRo ads a b) : gRo (ads ++ x) a b := by
  cases a with
  | none => exact h
  | some k =>
    obtain ⟨c, h1, rfl⟩ := (show ∃ c, ads[k]? = some c ∧ b = some c from h)
    exact ⟨c, by rw [List.getElem?_append_left (List.getElem?_eq_some_iff.mp h1).1]; exact h1, rfl⟩
theorem gRc_up {ads : List Nat} {ex : Nat → Nat} {tys : List (ClassId × FieldType)} (x : List Nat) (y : List (ClassId × FieldType)) {c : gC} {e : va_E} (h : gRc ads ex tys c e) : gRc (ads ++ x) ex (tys ++ y) c e := by
  rcases c with ⟨ci, fs⟩ | ⟨ty, n, f⟩ | ⟨ty, n, f⟩
  · obtain ⟨fs', rfl, h1⟩ := h
    exact ⟨fs', rfl, gRs_up x h1⟩
  · obtain ⟨cA, t, rfl, h1⟩ := h
    exact ⟨cA, t, rfl, by rw [List.getElem?_append_left (List.getElem?_eq_some_iff.mp h1).1]; exact h1⟩
  · obtain ⟨cA, t, g, rfl, h1, h2⟩ := h
    exact ⟨cA, t, g, rfl, by rw [List.getElem?_append_left (List.getElem?_eq_some_iff.mp h1).1]; exact h1, fun i => gRo_up x (h2 i)⟩
theorem gLo_up {ads : List Nat} {ex : Nat → Nat} {ls : gL} {mls : Array Slot} {nL : Nat} (x : List Nat) (h : gLo ads ex ls mls nL) : gLo (ads ++ x) ex ls mls nL :=
  ⟨h.1, h.2.1, h.2.2.1, fun i v hv => by
    obtain ⟨w, h1, h2⟩ := h.2.2.2 i v hv
    exact ⟨w, h1, gR_up x h2⟩⟩
theorem gRs_i {ads : List Nat} {ex : Nat → Nat} {x : Int32} {l m : List Value} (h : gRs ads ex (.int x :: l) m) : ∃ m', m = .int x :: m' ∧ gRs ads ex l m' := by
  obtain ⟨w, l', rfl, h1, h2⟩ := h
  cases (show w = .int x from h1)
  exact ⟨l', rfl, h2⟩
theorem gRs_f {ads : List Nat} {ex : Nat → Nat} {x : UInt32} {l m : List Value} (h : gRs ads ex (.float x :: l) m) : ∃ m', m = .float x :: m' ∧ gRs ads ex l m' := by
  obtain ⟨w, l', rfl, h1, h2⟩ := h
  cases (show w = .float x from h1)
  exact ⟨l', rfl, h2⟩
theorem gRs_n {ads : List Nat} {ex : Nat → Nat} {l m : List Value} (h : gRs ads ex (.null :: l) m) : ∃ m', m = .null :: m' ∧ gRs ads ex l m' := by
  obtain ⟨w, l', rfl, h1, h2⟩ := h
  cases (show w = .null from h1)
  exact ⟨l', rfl, h2⟩
theorem gRs_r {ads : List Nat} {ex : Nat → Nat} {k : Nat} {l m : List Value} (h : gRs ads ex (.ref k :: l) m) : ∃ a m', ads[k]? = some a ∧ m = .ref a :: m' ∧ gRs ads ex l m' := by
  obtain ⟨w, l', rfl, ⟨a, h0, rfl⟩, h2⟩ := h
  exact ⟨a, l', h0, rfl, h2⟩
theorem gRs_e {ads : List Nat} {ex : Nat → Nat} {k : Nat} {l m : List Value} (h : gRs ads ex (.retAddr k :: l) m) : ∃ m', k < 4 ∧ m = .ref (ex k) :: m' ∧ gRs ads ex l m' := by
  obtain ⟨w, l', rfl, ⟨h0, rfl⟩, h2⟩ := h
  exact ⟨l', h0, rfl, h2⟩
theorem gRs_len {ads : List Nat} {ex : Nat → Nat} : ∀ {l m : List Value}, gRs ads ex l m → m.length = l.length
  | [], _, h => by cases (show _ = [] from h); rfl
  | v :: l, _, h => by
    obtain ⟨w, l', rfl, -, h2⟩ := h
    simp [gRs_len h2]
theorem gRs_sum {ads : List Nat} {ex : Nat → Nat} : ∀ {l m : List Value}, gRs ads ex l m → (m.map fun v => v.category).sum = l.length
  | [], _, h => by cases (show _ = [] from h); rfl
  | v :: l, _, h => by
    obtain ⟨w, l', rfl, h1, h2⟩ := h
    simp [gRs_sum h2, gR_cat h1, Nat.add_comm]
theorem gRs_at {ads : List Nat} {ex : Nat → Nat} : ∀ {l m : List Value}, gRs ads ex l m → ∀ {k : Nat} {v : Value}, l[k]? = some v → ∃ w, m[k]? = some w ∧ gR ads ex v w
  | [], _, _, k, v, hk => by simp at hk
  | u :: l, _, h, k, v, hk => by
    obtain ⟨w, l', rfl, h1, h2⟩ := h
    cases k with
    | zero =>
      cases (show some u = some v from by simpa using hk)
      exact ⟨w, by simp, h1⟩
    | succ k =>
      obtain ⟨x, q1, q2⟩ := gRs_at h2 (k := k) (v := v) (by simpa using hk)
      exact ⟨x, by simpa using q1, q2⟩
theorem gRs_set {ads : List Nat} {ex : Nat → Nat} : ∀ {l m : List Value}, gRs ads ex l m → ∀ (k : Nat) {v w : Value}, gR ads ex v w → gRs ads ex (l.set k v) (m.set k w)
  | [], _, h, k, v, w, _ => by cases (show _ = [] from h); simp [gRs]
  | u :: l, _, h, k, v, w, hv => by
    obtain ⟨x, l', rfl, h1, h2⟩ := h
    cases k with
    | zero => exact ⟨w, l', by simp, hv, h2⟩
    | succ k => exact ⟨x, l'.set k w, by simp, h1, gRs_set h2 k hv⟩
theorem gRs_app {ads : List Nat} {ex : Nat → Nat} : ∀ {l m l2 m2 : List Value}, gRs ads ex l m → gRs ads ex l2 m2 → gRs ads ex (l ++ l2) (m ++ m2)
  | [], _, _, _, h, h2 => by cases (show _ = [] from h); exact h2
  | u :: l, _, _, _, h, h2 => by
    obtain ⟨x, l', rfl, h1, h3⟩ := h
    exact ⟨x, l' ++ _, rfl, h1, gRs_app h3 h2⟩
theorem gRs_rev {ads : List Nat} {ex : Nat → Nat} : ∀ {l m : List Value}, gRs ads ex l m → gRs ads ex l.reverse m.reverse
  | [], _, h => by cases (show _ = [] from h); exact rfl
  | u :: l, _, h => by
    obtain ⟨x, l', rfl, h1, h3⟩ := h
    rw [List.reverse_cons, List.reverse_cons]
    exact gRs_app (gRs_rev h3) ⟨x, [], rfl, h1, rfl⟩
theorem gRs_take {ads : List Nat} {ex : Nat → Nat} : ∀ (n : Nat) {l m : List Value}, gRs ads ex l m → gRs ads ex (l.take n) (m.take n) ∧ gRs ads ex (l.drop n) (m.drop n)
  | 0, _, _, h => by simp [gRs, h]
  | n + 1, [], _, h => by cases (show _ = [] from h); simp [gRs]
  | n + 1, u :: l, _, h => by
    obtain ⟨x, l', rfl, h1, h3⟩ := h
    obtain ⟨q1, q2⟩ := gRs_take n h3
    exact ⟨⟨x, l'.take n, rfl, h1, q1⟩, q2⟩
theorem gLd_iff {ls : gL} {i : Nat} {v : Value} (h : gLd ls i = some v) : ls[i]? = some (some v) := by
  unfold gLd at h
  split at h
  · rename_i w hw
    rw [hw, Option.some.inj h]
  · cases h
theorem gLo_at {ads : List Nat} {ex : Nat → Nat} {ls : gL} {mls : Array Slot} {nL i : Nat} {v : Value} (h : gLo ads ex ls mls nL) (hv : gLd ls i = some v) : ∃ w, mls[i]? = some (.val w) ∧ gR ads ex v w := h.2.2.2 i v (gLd_iff hv)
/-- all values that the machine's locals hold -/
def gAl (mls : Array Slot) : List (Nat × Value) := (List.range mls.size).filterMap (fun (j : Nat) => match (mls[j]? : Option Slot) with
  | some (Slot.val w) => some (j, w)
  | _ => none)
theorem gAl_has {mls : Array Slot} {nL : Nat} (h1 : mls.size = nL) (h2 : lv_wf mls) : lv_has mls nL (gAl mls) := by
  refine ⟨h1, h2, fun q hq => ?_⟩
  obtain ⟨j, -, hj⟩ := List.mem_filterMap.mp hq
  cases hm : mls[j]? with
  | none => rw [hm] at hj; cases hj
  | some x =>
    rw [hm] at hj
    cases x with
    | val w => cases hj; exact hm
    | unset => cases hj
    | second => cases hj
theorem gAl_in {mls : Array Slot} {j : Nat} {w : Value} (h : mls[j]? = some (.val w)) : (j, w) ∈ gAl mls :=
  List.mem_filterMap.mpr ⟨j, List.mem_range.mpr (Array.getElem?_eq_some_iff.mp h).1, by rw [h]⟩
theorem gLo_set {ads : List Nat} {ex : Nat → Nat} {ls : gL} {mls mls' : Array Slot} {nL i : Nat} {v w : Value} (h : gLo ads ex ls mls nL) (hv : gR ads ex v w) (hn : i < nL)
    (h' : lv_has mls' nL ((i, w) :: (gAl mls).filter (fun q => !(q.1 == i) && !(q.1 + 1 == i && q.2.category == 2)))) : gLo ads ex (gSt ls i v) mls' nL := by
  refine ⟨by unfold gSt; rw [List.length_set]; exact h.1, h'.1, h'.2.1, fun j u hu => ?_⟩
  unfold gSt at hu
  by_cases hj : i = j
  · subst hj
    rw [List.getElem?_set_self (by rw [h.1]; exact hn)] at hu
    cases hu
    exact ⟨w, h'.2.2 (i, w) List.mem_cons_self, hv⟩
  · rw [List.getElem?_set_ne hj] at hu
    obtain ⟨x, h1, h2⟩ := h.2.2.2 j u hu
    refine ⟨x, h'.2.2 (j, x) (List.mem_cons_of_mem _ (List.mem_filter.mpr ⟨gAl_in h1, ?_⟩)), h2⟩
    have e1 : (j == i) = false := by simp; exact fun e => hj e.symm
    have e2 : (x.category == 2) = false := by rw [gR_cat h2]; rfl
    simp [e1, e2]
theorem gLo_none {ads : List Nat} {ex : Nat → Nat} {ls : gL} {mls mls' : Array Slot} {nL i : Nat} {w : Value} (h : gLo ads ex ls mls nL)
    (h' : lv_has mls' nL ((i, w) :: (gAl mls).filter (fun q => !(q.1 == i) && !(q.1 + 1 == i && q.2.category == 2)))) : gLo ads ex (ls.set i none) mls' nL := by
  refine ⟨by rw [List.length_set]; exact h.1, h'.1, h'.2.1, fun j u hu => ?_⟩
  by_cases hj : i = j
  · subst hj
    rw [List.getElem?_set] at hu
    simp at hu
  · rw [List.getElem?_set_ne hj] at hu
    obtain ⟨x, h1, h2⟩ := h.2.2.2 j u hu
    refine ⟨x, h'.2.2 (j, x) (List.mem_cons_of_mem _ (List.mem_filter.mpr ⟨gAl_in h1, ?_⟩)), h2⟩
    have e1 : (j == i) = false := by simp; exact fun e => hj e.symm
    have e2 : (x.category == 2) = false := by rw [gR_cat h2]; rfl
    simp [e1, e2]
theorem gFit_ok {ads : List Nat} {ex : Nat → Nat} {ty : FieldType} {v w : Value} (h : gFit ty v = true) (hv : gR ads ex v w) : narrow ty w = w ∧ fits ty w = true := by
  cases ty <;> cases v <;> simp only [gFit, Bool.false_eq_true] at h
  all_goals first
    | (cases (show w = _ from hv); first | exact ⟨rfl, rfl⟩ | skip)
    | (obtain ⟨a, -, rfl⟩ := hv; exact ⟨rfl, rfl⟩)
    | (obtain ⟨-, rfl⟩ := hv; exact ⟨rfl, rfl⟩)
  all_goals try (rename_i x; simp only [Bool.or_eq_true, beq_iff_eq] at h; rcases h with rfl | rfl <;> exact ⟨by decide, by decide⟩)
  all_goals (rename_i x; simp only [Bool.and_eq_true, decide_eq_true_eq] at h; refine ⟨?_, by simp [fits, h.1, h.2]⟩)
  all_goals (obtain ⟨j, hj, rfl⟩ := nI_of2 (M := 65535) (n := 65535) (by decide) (by rw [Int32.not_lt]; exact h.1) h.2; exact (pk_charN (q := j) (by omega)).1)
