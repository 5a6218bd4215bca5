/-! WHAT READING ANSWERS is what the law tells -/
theorem aE_app {g : Nat} {x : Int} {a b : List WrD} : aE g x (a ++ b) = aE g x a ++ aE g x b := by
  unfold aE
  rw [List.filter_append, List.map_append]
theorem aE_take {g m : Nat} {x : Int} {ws : List WrD} (hN : NumW ws) (hm : m ≤ ws.length) : upE m (aE g x ws.reverse) = aE g x (ws.take m).reverse := by
  have e : ws.reverse = (ws.drop m).reverse ++ (ws.take m).reverse := by
    rw [← List.reverse_append, List.take_append_drop]
  rw [e, aE_app, upE_app, upE_none, upE_all, List.nil_append]
  · intro z hz
    obtain ⟨w, hw, rfl⟩ := List.mem_map.mp hz
    have hw2 := List.mem_reverse.mp (List.mem_filter.mp hw).1
    obtain ⟨i, hi⟩ := List.getElem?_of_mem hw2
    rw [List.getElem?_take] at hi
    by_cases h : i < m
    · rw [if_pos h] at hi
      have := hN i w hi
      show w.c.n ≤ m
      omega
    · rw [if_neg h] at hi
      cases hi
  · intro z hz
    obtain ⟨w, hw, rfl⟩ := List.mem_map.mp hz
    have hw2 := List.mem_reverse.mp (List.mem_filter.mp hw).1
    obtain ⟨i, hi⟩ := List.getElem?_of_mem hw2
    rw [List.getElem?_drop] at hi
    have := hN (m + i) w hi
    show m < w.c.n
    omega
theorem an_val {g : FamD} {ws : List WrD} {m : Nat} {x : Int} (hN : NumW ws) (hm : m ≤ ws.length) : opt (anF g ws m x) = vlE g.o g.g x (ws.take m) := by
  unfold anF
  rw [goF_res0]
  unfold anL
  rw [an_es, aE_take hN hm]
  rfl
theorem same_opt {a b : FiD} (h : sameV a b) : opt a = opt b := by
  obtain ⟨h1, h2⟩ := h
  unfold opt
  rw [← h1]
  cases ha : a.1 with
  | false => rfl
  | true => rw [if_pos rfl, if_pos rfl, h2 ha]
/-- amounts stay small -/
def smE (l : List E) : Prop := ∀ e, e ∈ l → -4 ≤ e.2.2.toInt ∧ e.2.2.toInt ≤ 4
theorem joinO_sm {o : Nat} {a b : Int32} {n : Nat} (hn : n ≤ 100000) (ha : -(n : Int) ≤ a.toInt ∧ a.toInt ≤ n) (hb : -4 ≤ b.toInt ∧ b.toInt ≤ 4) : -((n : Int) + 4) ≤ (joinO o a b).toInt ∧ (joinO o a b).toInt ≤ (n : Int) + 4 := by
  unfold joinO
  by_cases h1 : o = 43
  · rw [if_pos h1, Int32.toInt_add, Int.bmod_eq_of_le (by omega) (by omega)]
    omega
  · rw [if_neg h1]
    by_cases h2 : o = 62
    · rw [if_pos h2]
      split <;> omega
    · rw [if_neg h2]
      split <;> omega
theorem resO_sm {o : Nat} : ∀ {l : List E} {v : Int32}, l.length ≤ 20000 → smE l → resO o l = some v → -(4 * (l.length : Int)) ≤ v.toInt ∧ v.toInt ≤ 4 * (l.length : Int)
  | [], v, _, _, h => by cases h
  | e :: t, v, hl, hs, h => by
    have he := hs e (List.mem_cons_self ..)
    have h' : (if e.1 = 1 then some e.2.2 else if e.1 = 4 then (match resO o t with | none => some e.2.2 | some u => some (joinO o u e.2.2)) else none) = some v := h
    simp only [List.length_cons] at hl ⊢
    by_cases h1 : e.1 = 1
    · rw [if_pos h1] at h'
      cases h'
      omega
    · rw [if_neg h1] at h'
      by_cases h4 : e.1 = 4
      · rw [if_pos h4] at h'
        cases hr : resO o t with
        | none =>
          rw [hr] at h'
          cases h'
          omega
        | some u =>
          rw [hr] at h'
          cases h'
          have ih := resO_sm (o := o) (l := t) (v := u) (by omega) (fun e he => hs e (List.mem_cons_of_mem _ he)) hr
          have := @joinO_sm o u e.2.2 (4 * t.length) (by omega) (by omega) he
          omega
      · rw [if_neg h4] at h'
        cases h'
theorem vlE_sm {o g : Nat} {x : Int} {l : List WrD} (hl : l.length ≤ 20000) (hW : ∀ w, w ∈ l → WOk w) {v : Int32} (h : vlE o g x l = some v) : -80000 ≤ v.toInt ∧ v.toInt ≤ 80000 := by
  have h1 : (aE g x l.reverse).length ≤ l.length := by
    unfold aE
    rw [List.length_map]
    refine Nat.le_trans (List.length_filter_le _ _) ?_
    rw [List.length_reverse]
    exact Nat.le_refl _
  have h2 := resO_sm (l := aE g x l.reverse) (by omega) (fun e he => by
    obtain ⟨w, hw, rfl⟩ := List.mem_map.mp he
    have hw2 := hW w (List.mem_reverse.mp (List.mem_filter.mp hw).1)
    show -4 ≤ (if w.c.k = 3 then (0 : Int32) else w.c.v).toInt ∧ (if w.c.k = 3 then (0 : Int32) else w.c.v).toInt ≤ 4
    have hv := hw2.2.2.2.2.2
    split
    · decide
    · exact hv) h
  omega
theorem vlI_no {v : Option Int32} (h : ∀ u, v = some u → -80000 ≤ u.toInt ∧ u.toInt ≤ 80000) : vlI v = zI (-2000005) ↔ v = none := by
  cases v with
  | none => exact ⟨fun _ => rfl, fun _ => rfl⟩
  | some u =>
    refine ⟨fun q => ?_, fun q => by cases q⟩
    have q' : u = zI (-2000005) := q
    have := h u rfl
    rw [q'] at this
    exact absurd this (by decide)
/-- a reading's answer, caught -/
theorem rd_val {fd : FiD} {v : gO} {A A' : gA} {V : Option Int32} (h : rdR fd v A A') (hV : opt fd = V) : ctD v = .inl (some (.int (vlI V))) ∧ A'.1 = A.1 ∧ A'.2.1 ≤ A.2.1 + 1 ∧ A'.2.2 ≤ A.2.2 + 6 := by
  subst hV
  rcases h with ⟨h1, rfl, rfl⟩ | ⟨h1, rfl, rfl⟩
  · refine ⟨?_, rfl, by omega, by omega⟩
    unfold opt
    rw [if_pos h1]
    rfl
  · refine ⟨?_, rfl, Nat.le_refl _, Nat.le_refl _⟩
    unfold opt
    rw [if_neg (by rw [h1]; decide)]
    rfl
