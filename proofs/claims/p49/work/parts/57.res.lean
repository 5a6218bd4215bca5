/-! WHAT IS FOUND, as a function of kinds, numbers, amounts -/
abbrev E : Type := Nat × Nat × Int32
def es (c : ChD) : E := (c.k, c.n, if c.k = 3 then 0 else c.v)
def resO (o : Nat) : List E → Option Int32
  | [] => none
  | e :: t => if e.1 = 1 then some e.2.2 else if e.1 = 4 then (match resO o t with
    | none => some e.2.2
    | some u => some (joinO o u e.2.2)) else none
def opt (f : FiD) : Option Int32 := if f.1 then some f.2.2 else none
def cmb (o : Nat) (f : FiD) (r : Option Int32) : Option Int32 := if f.1 then (match r with
  | none => some f.2.2
  | some u => some (joinO o u f.2.2)) else r
theorem joinO_as {o : Nat} {a b c : Int32} : joinO o a (joinO o b c) = joinO o (joinO o a b) c := by
  unfold joinO
  by_cases h1 : o = 43
  · simp only [if_pos h1]
    exact (Int32.add_assoc a b c).symm
  · by_cases h2 : o = 62
    · simp only [if_neg h1, if_pos h2]
      by_cases ab : b ≤ a <;> by_cases bc : c ≤ b <;> by_cases ac : c ≤ a <;> simp only [ab, bc, ac, if_true, if_false]
      · rw [Int32.le_iff_toInt_le] at ab bc ac
        omega
      · rw [Int32.le_iff_toInt_le] at ab bc ac
        apply Int32.toInt_inj.mp
        omega
    · simp only [if_neg h1, if_neg h2]
      by_cases ab : a ≤ b <;> by_cases bc : b ≤ c <;> by_cases ac : a ≤ c <;> simp only [ab, bc, ac, if_true, if_false]
      · rw [Int32.le_iff_toInt_le] at ab bc ac
        omega
      · rw [Int32.le_iff_toInt_le] at ab bc ac
        apply Int32.toInt_inj.mp
        omega
theorem goF_res {o : Nat} : ∀ {l : List ChD} {f : FiD}, f.2.1 = false → opt (goF o f l) = cmb o f (resO o (l.map es))
  | [], f, h => by
    show opt f = cmb o f none
    unfold opt cmb
    rfl
  | c :: t, f, h => by
    rw [goF_cons h, List.map_cons]
    by_cases h1 : c.k = 1
    · have e1 : (fiMeet o f c).2.1 = true := by unfold fiMeet; rw [if_pos (.inl h1)]; exact decide_eq_true (by omega)
      rw [goF_end e1]
      have e2 : fiMeet o f c = (true, true, if f.1 then joinO o c.v f.2.2 else c.v) := by
        unfold fiMeet fiTake
        rw [if_pos (.inl h1), show decide (c.k ≠ 4) = true from decide_eq_true (by omega)]
      have e3 : es c = (1, c.n, c.v) := by unfold es; rw [h1, if_neg (by omega)]
      rw [e2, e3]
      show some (if f.1 = true then joinO o c.v f.2.2 else c.v) = cmb o f (some c.v)
      unfold cmb
      cases f.1 <;> rfl
    · by_cases h4 : c.k = 4
      · have e1 : (fiMeet o f c).2.1 = false := by unfold fiMeet; rw [if_pos (.inr h4)]; exact decide_eq_false (by omega)
        rw [goF_res e1]
        have e2 : fiMeet o f c = (true, false, if f.1 then joinO o c.v f.2.2 else c.v) := by
          unfold fiMeet fiTake
          rw [if_pos (.inr h4), show decide (c.k ≠ 4) = false from decide_eq_false (by omega)]
        rw [e2]
        have e3 : es c = (4, c.n, c.v) := by unfold es; rw [h4, if_neg (by omega)]
        rw [e3]
        show cmb o _ _ = cmb o f (match resO o (t.map es) with | none => some c.v | some u => some (joinO o u c.v))
        cases hr : resO o (t.map es) with
        | none =>
          unfold cmb
          cases f.1 <;> rfl
        | some u =>
          unfold cmb
          cases f.1
          · rfl
          · show some (joinO o u (joinO o c.v f.2.2)) = some (joinO o (joinO o u c.v) f.2.2)
            rw [joinO_as]
      · have e1 : (fiMeet o f c).2.1 = true := by unfold fiMeet; rw [if_neg (by omega)]; exact decide_eq_true (by omega)
        rw [goF_end e1]
        have e2 : resO o (es c :: t.map es) = none := by
          show (if c.k = 1 then _ else if c.k = 4 then _ else none) = none
          rw [if_neg h1, if_neg h4]
        have e5 : fiMeet o f c = (f.1, true, f.2.2) := by
          unfold fiMeet
          rw [if_neg (by omega), show decide (c.k ≠ 4) = true from decide_eq_true (by omega)]
        rw [e2, e5]
        unfold opt cmb
        cases f.1 <;> rfl
theorem goF_res0 {o : Nat} {l : List ChD} : opt (goF o fi0 l) = resO o (l.map es) := goF_res rfl
theorem opt_same {a b : FiD} (h : opt a = opt b) : sameV a b := by
  unfold opt at h
  unfold sameV
  cases ha : a.1 <;> cases hb : b.1 <;> simp_all
theorem resO_app {o : Nat} {X Y : List E} (h : resO o X = resO o Y) : ∀ {P : List E}, resO o (P ++ X) = resO o (P ++ Y)
  | [] => h
  | e :: P => by
    show (if e.1 = 1 then some e.2.2 else if e.1 = 4 then (match resO o (P ++ X) with | none => some e.2.2 | some u => some (joinO o u e.2.2)) else none) = _
    rw [resO_app h]
    rfl
def upE (m : Nat) (l : List E) : List E := l.filter (fun e => decide (e.2.1 ≤ m))
theorem upE_app {m : Nat} {a b : List E} : upE m (a ++ b) = upE m a ++ upE m b := List.filter_append ..
theorem upE_all {m : Nat} {l : List E} (h : ∀ e, e ∈ l → e.2.1 ≤ m) : upE m l = l := List.filter_eq_self.mpr (fun e he => decide_eq_true (h e he))
theorem upE_none {m : Nat} {l : List E} (h : ∀ e, e ∈ l → m < e.2.1) : upE m l = [] := List.filter_eq_nil_iff.mpr (fun e he => by simpa using h e he)
theorem upTo_es {m : Nat} {l : List ChD} : (upTo m l).map es = upE m (l.map es) := by
  unfold upTo upE
  rw [List.filter_map]
  rfl
/-! sorted lists -/
def Dsc (l : List ChD) : Prop := l.Pairwise (fun a b => b.n ≤ a.n)
def DscS (l : List E) : Prop := l.Pairwise (fun a b => b.2.1 < a.2.1)
theorem insW_perm {c : ChD} : ∀ {l : List ChD}, (insW c l).Perm (c :: l)
  | [] => List.Perm.refl _
  | x :: l => by
    unfold insW
    split
    · exact (List.Perm.cons x insW_perm).trans (List.Perm.swap c x l)
    · exact List.Perm.refl _
theorem insW_dsc {c : ChD} : ∀ {l : List ChD}, Dsc l → Dsc (insW c l)
  | [], _ => List.pairwise_singleton ..
  | x :: l, h => by
    have h2 := List.pairwise_cons.mp h
    unfold insW
    split
    · rename_i hx
      refine List.pairwise_cons.mpr ⟨fun y hy => ?_, insW_dsc h2.2⟩
      rcases insW_mem.mp hy with rfl | hy
      · omega
      · exact h2.1 y hy
    · rename_i hx
      refine List.pairwise_cons.mpr ⟨fun y hy => ?_, h⟩
      rcases List.mem_cons.mp hy with rfl | hy
      · omega
      · have := h2.1 y hy
        omega
def ovK (x : Int) (l : List ChD) : List ChD := l.filter (fun c => c.ov x x)
theorem foldW_perm {x : Int} : ∀ {l w : List ChD}, (l.foldl (addW x) w).Perm (ovK x l ++ w)
  | [], w => List.Perm.refl _
  | c :: l, w => by
    rw [List.foldl_cons]
    refine (foldW_perm (l := l)).trans ?_
    unfold addW ovK
    by_cases h : c.ov x x = true
    · rw [if_pos h, List.filter_cons_of_pos (p := fun c : ChD => c.ov x x) h]
      refine (List.Perm.append_left _ insW_perm).trans ?_
      exact List.perm_middle
    · rw [if_neg h, List.filter_cons_of_neg (p := fun c : ChD => c.ov x x) h]
theorem foldW_dsc {x : Int} : ∀ {l w : List ChD}, Dsc w → Dsc (l.foldl (addW x) w)
  | [], w, h => h
  | c :: l, w, h => by
    rw [List.foldl_cons]
    refine foldW_dsc ?_
    unfold addW
    split
    · exact insW_dsc h
    · exact h
theorem colW_perm {r : RunD} {x : Int} {w : List ChD} : (colW r x w).Perm (ovK x r.spans ++ (ovK x r.rows ++ w)) := foldW_perm.trans (List.Perm.append_left _ foldW_perm)
theorem colW_dsc {r : RunD} {x : Int} {w : List ChD} (h : Dsc w) : Dsc (colW r x w) := foldW_dsc (foldW_dsc h)
def rE (r : RunD) (x : Int) : List E := (colW r x []).map es
def stL (l : List RunD) (x : Int) : List E := l.flatMap (fun r => rE r x)
def stk (l : List LvD) (x : Int) : List E := l.flatMap (fun l => stL l.rs x)
theorem wayW_dsc {x : Int} : ∀ {l : List RunD} {w : List ChD}, Dsc w → Dsc (l.foldl (fun w r => colW r x w) w)
  | [], w, h => h
  | r :: l, w, h => by
    rw [List.foldl_cons]
    exact wayW_dsc (colW_dsc h)
theorem wayW_perm0 {x : Int} : ∀ {l : List RunD} {w : List ChD}, (l.foldl (fun w r => colW r x w) w).Perm (l.flatMap (fun r => colW r x []) ++ w)
  | [], w => List.Perm.refl _
  | r :: l, w => by
    rw [List.foldl_cons, List.flatMap_cons]
    refine wayW_perm0.trans ?_
    rw [List.append_assoc]
    have h1 : (colW r x w).Perm (colW r x [] ++ w) := by
      refine colW_perm.trans ?_
      have h2 := (colW_perm (r := r) (x := x) (w := [])).symm
      rw [List.append_nil] at h2
      rw [← List.append_assoc]
      exact List.Perm.append_right w h2
    refine (List.Perm.append_left _ h1).trans ?_
    exact perm_out
theorem wayW_perm {x : Int} {l : List RunD} : (wayW x l).Perm (l.flatMap (fun r => colW r x [])) := by
  have := @wayW_perm0 x l []
  rw [List.append_nil] at this
  exact this
/-- two rows with the same things, by falling numbers, are one -/
theorem dsc_eq : ∀ {a b : List E}, a.Perm b → a.Pairwise (fun x y => y.2.1 ≤ x.2.1) → DscS b → a = b
  | [], b, h, _, _ => (List.nil_perm.mp h).symm
  | x :: a, [], h, _, _ => by cases List.perm_nil.mp h
  | x :: a, y :: b, h, ha, hb => by
    have ha2 := List.pairwise_cons.mp ha
    have hb2 := List.pairwise_cons.mp hb
    have hxb : x ∈ y :: b := h.mem_iff.mp (List.mem_cons_self ..)
    have hya : y ∈ x :: a := h.mem_iff.mpr (List.mem_cons_self ..)
    have e : x = y := by
      rcases List.mem_cons.mp hxb with e | hx
      · exact e
      · have h1 := hb2.1 x hx
        rcases List.mem_cons.mp hya with e | hy
        · exact e.symm
        · have h2 := ha2.1 y hy
          omega
    subst e
    rw [dsc_eq ((List.perm_cons x).mp h) ha2.2 hb2.2]
theorem rE_ov {r : RunD} {x : Int} (h : ¬ r.ov x x = true) : colW r x [] = [] := by
  have hb : ∀ (l : List ChD) (m : Int), (∀ c, c ∈ l → lstOf m l ≤ (c.f : Int)) ∧ lstOf m l ≤ m := by
    intro l
    induction l with
    | nil => intro m; exact ⟨fun c hc => (by cases hc), Int.le_refl _⟩
    | cons a l ih =>
      intro m
      obtain ⟨i1, i2⟩ := ih (min m (a.f : Int))
      have e : lstOf m (a :: l) = lstOf (min m (a.f : Int)) l := rfl
      rw [e]
      refine ⟨fun c hc => ?_, by omega⟩
      rcases List.mem_cons.mp hc with rfl | hc
      · omega
      · exact i1 c hc
  have hg : ∀ (l : List ChD) (m : Int), (∀ c, c ∈ l → (c.t : Int) ≤ grtOf m l) ∧ m ≤ grtOf m l := by
    intro l
    induction l with
    | nil => intro m; exact ⟨fun c hc => (by cases hc), Int.le_refl _⟩
    | cons a l ih =>
      intro m
      obtain ⟨i1, i2⟩ := ih (max m (a.t : Int))
      have e : grtOf m (a :: l) = grtOf (max m (a.t : Int)) l := rfl
      rw [e]
      refine ⟨fun c hc => ?_, by omega⟩
      rcases List.mem_cons.mp hc with rfl | hc
      · omega
      · exact i1 c hc
  have hp := @colW_perm r x []
  have hz : ∀ c, c ∈ r.rows ∨ c ∈ r.spans → ¬ c.ov x x = true := by
    intro c hc ho
    have ho2 := of_decide_eq_true (show decide _ = true from ho)
    apply h
    refine decide_eq_true ?_
    unfold RunD.least RunD.great
    have a1 := (hb r.rows 100).1
    have a2 := (hb r.spans 100).1
    have a3 := (hg r.rows (-1)).1
    have a4 := (hg r.spans (-1)).1
    rcases hc with hc | hc
    · have := a1 c hc
      have := a3 c hc
      omega
    · have := a2 c hc
      have := a4 c hc
      omega
  have e1 : ovK x r.spans = [] := List.filter_eq_nil_iff.mpr (fun c hc => hz c (.inr hc))
  have e2 : ovK x r.rows = [] := List.filter_eq_nil_iff.mpr (fun c hc => hz c (.inl hc))
  rw [e1, e2] at hp
  exact List.perm_nil.mp hp
theorem rsL_es {m : Nat} {x : Int} : ∀ {l : List RunD}, (rsL m x l).map es = upE m (stL l x)
  | [] => rfl
  | r :: l => by
    have ih := @rsL_es m x l
    unfold rsL stL at ih ⊢
    rw [List.flatMap_cons, List.flatMap_cons, List.map_append, upE_app, ih]
    congr 1
    by_cases h : r.ov x x = true
    · rw [if_pos h, upTo_es]
      rfl
    · rw [if_neg h]
      unfold rE
      rw [rE_ov h]
      rfl
theorem lvL_es {m : Nat} {x : Int} : ∀ {l : List LvD}, (lvL m x l).map es = upE m (stk l x)
  | [] => rfl
  | l :: t => by
    have ih := @lvL_es m x t
    unfold lvL stk at ih ⊢
    rw [List.flatMap_cons, List.flatMap_cons, List.map_append, upE_app, ih, rsL_es]
