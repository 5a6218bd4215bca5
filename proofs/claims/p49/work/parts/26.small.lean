/-! WHAT THE CLASS HOLDS, and its small methods. A change: cell, kind, number, from, to, amount. A run: cell, id, is it merged, its rows and its ranges (cell, room, changes), its filter. -/
abbrev ChD : Type := Nat × Nat × Nat × Nat × Nat × Int32
def ChD.a (c : ChD) : Nat := c.1
def ChD.k (c : ChD) : Nat := c.2.1
def ChD.n (c : ChD) : Nat := c.2.2.1
def ChD.f (c : ChD) : Nat := c.2.2.2.1
def ChD.t (c : ChD) : Nat := c.2.2.2.2.1
def ChD.v (c : ChD) : Int32 := c.2.2.2.2.2
def cCh (c : ChD) : vC := vO 2 [.int (zI c.k), .int (zI c.n), .int (zI c.f), .int (zI c.t), .int c.v]
def okCh (V : Nat → Option vC) (c : ChD) : Prop := V c.a = some (cCh c) ∧ c.k ≤ 4 ∧ c.n ≤ 1000000 ∧ c.f < 100 ∧ c.t < 100
def ChD.ov (c : ChD) (x y : Int) : Bool := decide ((c.f : Int) ≤ y ∧ x ≤ (c.t : Int))
theorem bIt {p : Prop} [Decidable p] (h : p) : (.inl (some (.int (bI true))) : gO) = .inl (some (.int (bI (decide p)))) := by simp [h]
theorem bIf {p : Prop} [Decidable p] (h : ¬ p) : (.inl (some (.int (bI false))) : gO) = .inl (some (.int (bI (decide p)))) := by simp [h]
theorem at_i {α : Type} {l : List α} {i : Nat} (hi : i < l.length) : ∃ x, x ∈ l ∧ l[i]? = some x ∧ (∀ f : α → Nat, (l.map f)[i]? = some (f x)) ∧ l.drop i = x :: l.drop (i + 1) ∧ l.take (i + 1) = l.take i ++ [x] := by
  refine ⟨l[i], List.getElem_mem hi, List.getElem?_eq_getElem hi, fun f => ?_, List.drop_eq_getElem_cons hi, ?_⟩
  · rw [List.getElem?_map, List.getElem?_eq_getElem hi]
    rfl
  · rw [List.take_succ_eq_append_getElem hi]
/-- writes: cell, family, change, step, state -/
abbrev WrD : Type := Nat × Nat × ChD × Nat × Nat
def WrD.a (w : WrD) : Nat := w.1
def WrD.g (w : WrD) : Nat := w.2.1
def WrD.c (w : WrD) : ChD := w.2.2.1
def WrD.s (w : WrD) : Nat := w.2.2.2.1
def WrD.z (w : WrD) : Nat := w.2.2.2.2
def cWr (w : WrD) : vC := vO 10 [.int (zI w.g), .ref w.c.a, .int (zI w.s), .int (zI w.z)]
def okWr (V : Nat → Option vC) (w : WrD) : Prop := V w.a = some (cWr w) ∧ okCh V w.c ∧ w.g ≤ 3 ∧ w.s ≤ 20 ∧ w.z ≤ 3
def WrD.mem (w : WrD) : Bool := decide (w.z = 1 ∨ w.z = 2)
def WrD.memOf (w : WrD) (g : Nat) : Bool := decide (w.g = g ∧ (w.z = 1 ∨ w.z = 2))
def WrD.isOf (w : WrD) (g : Nat) : Bool := decide (w.g = g ∧ w.z ≠ 0)
def WrD.on (w : WrD) (k : Int) : Bool := decide (((w.c.f : Int) ≤ k ∧ k ≤ (w.c.t : Int)) ∧ (w.s < 1 ∨ (k - w.c.f) % (w.s : Int) = 0))
/-- runs: cell, number, is it merged, rows, ranges (cell, room, changes each), filter -/
abbrev RunD : Type := Nat × Nat × Bool × (Nat × Nat × List ChD) × (Nat × Nat × List ChD) × Nat
def RunD.a (r : RunD) : Nat := r.1
def RunD.id (r : RunD) : Nat := r.2.1
def RunD.mg (r : RunD) : Bool := r.2.2.1
def RunD.ra (r : RunD) : Nat := r.2.2.2.1.1
def RunD.rc (r : RunD) : Nat := r.2.2.2.1.2.1
def RunD.rows (r : RunD) : List ChD := r.2.2.2.1.2.2
def RunD.sa (r : RunD) : Nat := r.2.2.2.2.1.1
def RunD.sc (r : RunD) : Nat := r.2.2.2.2.1.2.1
def RunD.spans (r : RunD) : List ChD := r.2.2.2.2.1.2.2
def RunD.fa (r : RunD) : Nat := r.2.2.2.2.2
def lstOf (m : Int) (l : List ChD) : Int := l.foldl (fun m c => min m (c.f : Int)) m
def grtOf (m : Int) (l : List ChD) : Int := l.foldl (fun m c => max m (c.t : Int)) m
def RunD.least (r : RunD) : Int := min (lstOf 100 r.rows) (lstOf 100 r.spans)
def RunD.great (r : RunD) : Int := max (grtOf (-1) r.rows) (grtOf (-1) r.spans)
/-- how many different keys -/
def dif (p : Int) : List ChD → Nat
  | [] => 0
  | c :: l => (if (c.f : Int) = p then 0 else 1) + dif (c.f : Int) l
def cRun (r : RunD) : vC := vO 8 [.int (zI r.id), .int (bI r.mg), .ref r.ra, .ref r.sa, .int (zI r.least), .int (zI r.great), .ref r.fa]
def okRun (V : Nat → Option vC) (r : RunD) : Prop := V r.a = some (cRun r) ∧ V r.ra = some (vL r.rc (r.rows.map ChD.a)) ∧ V r.sa = some (vL r.sc (r.spans.map ChD.a)) ∧ (∀ c, c ∈ r.rows → okCh V c) ∧ (∀ c, c ∈ r.spans → okCh V c) ∧
  (∃ ff, V r.fa = some (vN .boolean (8 * dif (-1) r.rows) ff)) ∧ r.id ≤ 1000000
def RunD.ov (r : RunD) (x y : Int) : Bool := decide (r.least ≤ y ∧ x ≤ r.great)
def RunD.wt (r : RunD) : Nat := r.rows.length + r.spans.length
theorem lstOf_rg {l : List ChD} : ∀ {m : Int}, (0 ≤ m ∧ m ≤ 100) → 0 ≤ lstOf m l ∧ lstOf m l ≤ m := by
  induction l with
  | nil => intro m hm; exact ⟨hm.1, Int.le_refl _⟩
  | cons c l ih =>
    intro m hm
    have := @ih (min m (c.f : Int)) (by omega)
    show 0 ≤ lstOf (min m (c.f : Int)) l ∧ lstOf (min m (c.f : Int)) l ≤ m
    omega
theorem grtOf_rg {V : Nat → Option vC} {l : List ChD} : ∀ {m : Int}, (-1 ≤ m ∧ m ≤ 99) → (∀ c, c ∈ l → okCh V c) → m ≤ grtOf m l ∧ grtOf m l ≤ 99 := by
  induction l with
  | nil => intro m hm _; exact ⟨Int.le_refl _, hm.2⟩
  | cons c l ih =>
    intro m hm hl
    have h4 := (hl c (List.mem_cons_self ..)).2.2.2.2
    have := @ih (max m (c.t : Int)) (by omega) (fun c hc => hl c (List.mem_cons_of_mem _ hc))
    show m ≤ grtOf (max m (c.t : Int)) l ∧ grtOf (max m (c.t : Int)) l ≤ 99
    omega
theorem okRun.rg {V : Nat → Option vC} {r : RunD} (hr : okRun V r) : 0 ≤ r.least ∧ r.least ≤ 100 ∧ -1 ≤ r.great ∧ r.great ≤ 99 := by
  obtain ⟨-, -, -, h1, h2, -, -⟩ := hr
  have a1 := @lstOf_rg r.rows 100 (by omega)
  have a2 := @lstOf_rg r.spans 100 (by omega)
  have a3 := @grtOf_rg V r.rows (-1) (by omega) h1
  have a4 := @grtOf_rg V r.spans (-1) (by omega) h2
  unfold RunD.least RunD.great
  omega
section C1
variable {sc : gSc} {d : Nat} {A : gA} {c : ChD} {x y : Int}
theorem c102 (hc : okCh A.1 c) (hx : i32 x) (hy : i32 y) : Wc sc 0 102 [.ref c.a, .int (zI x), .int (zI y)] A (fun o A' => o = .inl (some (.int (bI (c.ov x y)))) ∧ A' = A) := by
  show Wv sc 0 102 0 [some (.ref c.a), some (.int (zI x)), some (.int (zI y))] [] A _
  obtain ⟨hc, h1, h2, h3, h4⟩ := hc
  refine wv_s f102_0 rfl (fun _ => rfl) ?_
  refine wv_getfield f102_1 (by assumption) (by rfl) ?_
  refine wv_s f102_4 rfl (fun _ => rfl) ?_
  refine wv_cX_gt f102_5 (by omega) (by omega) (fun hb => ?_) (fun hb => ?_)
  · refine wv_icon f102_20 ?_
    exact wv_iretB (p := false) f102_21 (by decide +kernel) ( ⟨bIf (by omega), rfl⟩)
  · refine wv_s f102_8 rfl (fun _ => rfl) ?_
    refine wv_s f102_9 rfl (fun _ => rfl) ?_
    refine wv_getfield f102_10 (by assumption) (by rfl) ?_
    refine wv_cX_gt f102_13 (by omega) (by omega) (fun hb2 => ?_) (fun hb2 => ?_)
    · refine wv_icon f102_20 ?_
      exact wv_iretB (p := false) f102_21 (by decide +kernel) ( ⟨bIf (by omega), rfl⟩)
    · refine wv_icon f102_16 ?_
      refine wv_s (pc' := 21) f102_17 rfl (fun _ => rfl) ?_
      exact wv_iretB (p := true) f102_21 (by decide +kernel) ( ⟨bIt (by omega), rfl⟩)
variable {w : WrD}
theorem c151 (hw : okWr A.1 w) : Wc sc 0 151 [.ref w.a] A (fun o A' => o = .inl (some (.int (bI (decide (0 < w.s))))) ∧ A' = A) := by
  show Wv sc 0 151 0 [some (.ref w.a)] [] A _
  obtain ⟨hw, hc, h1, h2, h3⟩ := hw
  refine wv_s f151_0 rfl (fun _ => rfl) ?_
  refine wv_getfield f151_1 (by assumption) (by rfl) ?_
  refine wv_zX_le f151_4 (by omega) (fun hb => ?_) (fun hb => ?_)
  · refine wv_icon f151_11 ?_
    exact wv_iretB (p := false) f151_12 (by decide +kernel) ( ⟨bIf (by omega), rfl⟩)
  · refine wv_icon f151_7 ?_
    refine wv_s (pc' := 12) f151_8 rfl (fun _ => rfl) ?_
    exact wv_iretB (p := true) f151_12 (by decide +kernel) ( ⟨bIt (by omega), rfl⟩)
theorem c152 (hw : okWr A.1 w) : Wc sc 0 152 [.ref w.a] A (fun o A' => o = .inl (some (.int (bI w.mem))) ∧ A' = A) := by
  show Wv sc 0 152 0 [some (.ref w.a)] [] A _
  obtain ⟨hw, hc, h1, h2, h3⟩ := hw
  refine wv_s f152_0 rfl (fun _ => rfl) ?_
  refine wv_getfield f152_1 (by assumption) (by rfl) ?_
  refine wv_icon f152_4 ?_
  refine wv_cX_eq f152_5 (by omega) (by omega) (fun hb => ?_) (fun hb => ?_)
  · refine wv_icon f152_16 ?_
    refine wv_s (pc' := 21) f152_17 rfl (fun _ => rfl) ?_
    exact wv_iretB (p := true) f152_21 (by decide +kernel) ( ⟨bIt (by omega), rfl⟩)
  · refine wv_s f152_8 rfl (fun _ => rfl) ?_
    refine wv_getfield f152_9 (by assumption) (by rfl) ?_
    refine wv_icon f152_12 ?_
    refine wv_cX_ne f152_13 (by omega) (by omega) (fun hb2 => ?_) (fun hb2 => ?_)
    · refine wv_icon f152_20 ?_
      exact wv_iretB (p := false) f152_21 (by decide +kernel) ( ⟨bIf (by omega), rfl⟩)
    · refine wv_icon f152_16 ?_
      refine wv_s (pc' := 21) f152_17 rfl (fun _ => rfl) ?_
      exact wv_iretB (p := true) f152_21 (by decide +kernel) ( ⟨bIt (by omega), rfl⟩)
/-- a family's cell: index, operator, levels -/
theorem c153 {fa gi va : Nat} {op : Int32} (hw : okWr A.1 w) (hf : A.1 fa = some (vO 4 [.int (zI gi), .int op, .ref va])) (hgi : gi ≤ 3) : Wc sc 1 153 [.ref w.a, .ref fa] A (fun o A' => o = .inl (some (.int (bI (w.memOf gi)))) ∧ A' = A) := by
  show Wv sc 1 153 0 [some (.ref w.a), some (.ref fa)] [] A _
  have hw0 := hw
  obtain ⟨hw, hc, h1, h2, h3⟩ := hw
  refine wv_s f153_0 rfl (fun _ => rfl) ?_
  refine wv_getfield f153_1 (by assumption) (by rfl) ?_
  refine wv_s f153_4 rfl (fun _ => rfl) ?_
  refine wv_getfield f153_5 (by assumption) (by rfl) ?_
  refine wv_cX_ne f153_8 (by omega) (by omega) (fun hb => ?_) (fun hb => ?_)
  · refine wv_icon f153_22 ?_
    exact wv_iretB (p := false) f153_23 (by decide +kernel) ( ⟨bIf (by omega), rfl⟩)
  · refine wv_s f153_11 rfl (fun _ => rfl) ?_
    refine wv_valV f153_12 (by decide) (by simp) (by simp) (by decide +kernel) (by assumption) (by rfl) (by decide +kernel) rfl (c152 hw0) (by omega) ?_
    by_cases hm : w.z = 1 ∨ w.z = 2
    · have e1 : w.mem = true := decide_eq_true hm
      refine wv_bF f153_15 (e1) ?_
      refine wv_icon f153_18 ?_
      refine wv_s (pc' := 23) f153_19 rfl (fun _ => rfl) ?_
      exact wv_iretB (p := true) f153_23 (by decide +kernel) ( ⟨bIt (by omega), rfl⟩)
    · have e1 : w.mem = false := decide_eq_false hm
      refine wv_bT f153_15 (e1) ?_
      refine wv_icon f153_22 ?_
      exact wv_iretB (p := false) f153_23 (by decide +kernel) ( ⟨bIf (by omega), rfl⟩)
theorem c154 {fa gi va : Nat} {op : Int32} (hw : okWr A.1 w) (hf : A.1 fa = some (vO 4 [.int (zI gi), .int op, .ref va])) (hgi : gi ≤ 3) : Wc sc 0 154 [.ref w.a, .ref fa] A (fun o A' => o = .inl (some (.int (bI (w.isOf gi)))) ∧ A' = A) := by
  show Wv sc 0 154 0 [some (.ref w.a), some (.ref fa)] [] A _
  obtain ⟨hw, hc, h1, h2, h3⟩ := hw
  refine wv_s f154_0 rfl (fun _ => rfl) ?_
  refine wv_getfield f154_1 (by assumption) (by rfl) ?_
  refine wv_s f154_4 rfl (fun _ => rfl) ?_
  refine wv_getfield f154_5 (by assumption) (by rfl) ?_
  refine wv_cX_ne f154_8 (by omega) (by omega) (fun hb => ?_) (fun hb => ?_)
  · refine wv_icon f154_22 ?_
    exact wv_iretB (p := false) f154_23 (by decide +kernel) ( ⟨bIf (by omega), rfl⟩)
  · refine wv_s f154_11 rfl (fun _ => rfl) ?_
    refine wv_getfield f154_12 (by assumption) (by rfl) ?_
    refine wv_zX_eq f154_15 (by omega) (fun hb2 => ?_) (fun hb2 => ?_)
    · refine wv_icon f154_22 ?_
      exact wv_iretB (p := false) f154_23 (by decide +kernel) ( ⟨bIf (by omega), rfl⟩)
    · refine wv_icon f154_18 ?_
      refine wv_s (pc' := 23) f154_19 rfl (fun _ => rfl) ?_
      exact wv_iretB (p := true) f154_23 (by decide +kernel) ( ⟨bIt (by omega), rfl⟩)
theorem c155 (hw : okWr A.1 w) (hx : i32 x) : Wc sc 1 155 [.ref w.a, .int (zI x)] A (fun o A' => o = .inl (some (.int (bI (w.on x)))) ∧ A' = A) := by
  show Wv sc 1 155 0 [some (.ref w.a), some (.int (zI x))] [] A _
  obtain ⟨hw, hc, h1, h2, h3⟩ := hw
  have hc0 := hc.1
  have hcf : w.c.f < 100 := hc.2.2.2.1
  refine wv_s f155_0 rfl (fun _ => rfl) ?_
  refine wv_getfield f155_1 (by assumption) (by rfl) ?_
  refine wv_s f155_4 rfl (fun _ => rfl) ?_
  refine wv_s f155_5 rfl (fun _ => rfl) ?_
  refine wv_valV f155_6 (by decide) (by simp) (by simp) (by decide +kernel) (by assumption) (by rfl) (by decide +kernel) rfl (c102 hc hx hx) (by omega) ?_
  by_cases ho : (w.c.f : Int) ≤ x ∧ x ≤ (w.c.t : Int)
  · have e1 : w.c.ov x x = true := decide_eq_true ho
    refine wv_bF f155_9 (e1) ?_
    refine wv_s f155_12 rfl (fun _ => rfl) ?_
    refine wv_getfield f155_13 (by assumption) (by rfl) ?_
    refine wv_icon f155_16 ?_
    refine wv_cX_lt f155_17 (by omega) (by omega) (fun hb => ?_) (fun hb => ?_)
    · refine wv_icon f155_37 ?_
      refine wv_s (pc' := 42) f155_38 rfl (fun _ => rfl) ?_
      exact wv_iretB (p := true) f155_42 (by decide +kernel) ( ⟨bIt ⟨ho, .inl (by omega)⟩, rfl⟩)
    · have e2 := Int.emod_nonneg (x - (w.c.f : Int)) (show (w.s : Int) ≠ 0 by omega)
      have e3 := Int.emod_lt_of_pos (x - (w.c.f : Int)) (show (0 : Int) < w.s by omega)
      refine wv_s f155_20 rfl (fun _ => rfl) ?_
      refine wv_s f155_21 rfl (fun _ => rfl) ?_
      refine wv_getfield f155_22 (by assumption) (by rfl) ?_
      refine wv_getfield f155_25 (by assumption) (by rfl) ?_
      refine wv_isub f155_28 ?_
      refine wv_s f155_29 rfl (fun _ => rfl) ?_
      refine wv_getfield f155_30 (by assumption) (by rfl) ?_
      refine wv_irem f155_33 (by omega) ?_
      refine wv_zX_ne f155_34 (by omega) (fun hb2 => ?_) (fun hb2 => ?_)
      · refine wv_icon f155_41 ?_
        exact wv_iretB (p := false) f155_42 (by decide +kernel) ( ⟨bIf (fun q => q.2.elim (fun q => by omega) hb2), rfl⟩)
      · refine wv_icon f155_37 ?_
        refine wv_s (pc' := 42) f155_38 rfl (fun _ => rfl) ?_
        exact wv_iretB (p := true) f155_42 (by decide +kernel) ( ⟨bIt ⟨ho, .inr hb2⟩, rfl⟩)
  · have e1 : w.c.ov x x = false := decide_eq_false ho
    refine wv_bT f155_9 (e1) ?_
    refine wv_icon f155_41 ?_
    exact wv_iretB (p := false) f155_42 (by decide +kernel) ( ⟨bIf (fun q => ho q.1), rfl⟩)
variable {r : RunD}
theorem c147 (hr : okRun A.1 r) (hx : i32 x) (hy : i32 y) : Wc sc 0 147 [.ref r.a, .int (zI x), .int (zI y)] A (fun o A' => o = .inl (some (.int (bI (r.ov x y)))) ∧ A' = A) := by
  show Wv sc 0 147 0 [some (.ref r.a), some (.int (zI x)), some (.int (zI y))] [] A _
  have hg := hr.rg
  obtain ⟨h1, -⟩ := hr
  refine wv_s f147_0 rfl (fun _ => rfl) ?_
  refine wv_getfield f147_1 (by assumption) (by rfl) ?_
  refine wv_s f147_4 rfl (fun _ => rfl) ?_
  refine wv_cX_gt f147_5 (by omega) (by omega) (fun hb => ?_) (fun hb => ?_)
  · refine wv_icon f147_20 ?_
    exact wv_iretB (p := false) f147_21 (by decide +kernel) ( ⟨bIf (by omega), rfl⟩)
  · refine wv_s f147_8 rfl (fun _ => rfl) ?_
    refine wv_s f147_9 rfl (fun _ => rfl) ?_
    refine wv_getfield f147_10 (by assumption) (by rfl) ?_
    refine wv_cX_gt f147_13 (by omega) (by omega) (fun hb2 => ?_) (fun hb2 => ?_)
    · refine wv_icon f147_20 ?_
      exact wv_iretB (p := false) f147_21 (by decide +kernel) ( ⟨bIf (by omega), rfl⟩)
    · refine wv_icon f147_16 ?_
      refine wv_s (pc' := 21) f147_17 rfl (fun _ => rfl) ?_
      exact wv_iretB (p := true) f147_21 (by decide +kernel) ( ⟨bIt (by omega), rfl⟩)
theorem c148 (hr : okRun A.1 r) : Wc sc 1 148 [.ref r.a] A (fun o A' => r.wt ≤ 8000 ∧ o = .inl (some (.int (zI r.wt))) ∧ A' = A) := by
  show Wv sc 1 148 0 [some (.ref r.a)] [] A _
  obtain ⟨h1, h2, h3, -⟩ := hr
  refine wv_s f148_0 rfl (fun _ => rfl) ?_
  refine wv_getfield f148_1 (by assumption) (by rfl) ?_
  refine wv_lsize f148_4 (by assumption) (by omega) (by simp) (fun hs1 => ?_)
  refine wv_s f148_7 rfl (fun _ => rfl) ?_
  refine wv_getfield f148_8 (by assumption) (by rfl) ?_
  refine wv_lsize f148_11 (by assumption) (by omega) (by simp) (fun hs2 => ?_)
  rw [List.length_map] at hs1 hs2 ⊢
  rw [List.length_map]
  refine wv_iadd f148_14 ?_
  exact wv_iret f148_15 (by rfl) (⟨by unfold RunD.wt; omega, by unfold RunD.wt; simp, rfl⟩)
/-- the least of froms, from a row on -/
theorem c146_l {l : List ChD} {la lc : Nat} (hl : A.1 la = some (vL lc (l.map ChD.a))) (hk : ∀ c, c ∈ l → okCh A.1 c) : ∀ (k i : Nat) (mn : Int), i + k = l.length → 0 ≤ mn → mn ≤ 100 →
    Wv sc 3 146 5 [some (.ref la), some (.int (zI mn)), some (.int (zI i))] [] A (fun o A' => o = .inl (some (.int (zI (lstOf mn (l.drop i))))) ∧ A' = A)
  | 0, i, mn, hik, h0, h1 => by
    refine wv_s f146_5 rfl (fun _ => rfl) ?_
    refine wv_s f146_6 rfl (fun _ => rfl) ?_
    refine wv_lsize f146_7 (by assumption) (by omega) (by simp) (fun hs => ?_)
    rw [List.length_map] at hs ⊢
    have e : l.drop i = [] := List.drop_of_length_le (by omega)
    rw [e]
    refine wv_cT_ge f146_10 (by omega) (by omega) (by omega) ?_
    refine wv_s f146_35 rfl (fun _ => rfl) ?_
    exact wv_iret f146_36 (by rfl) (⟨rfl, rfl⟩)
  | k + 1, i, mn, hik, h0, h1 => by
    have hi : i < l.length := by omega
    obtain ⟨c, hcm, hc0, hc1, hcd, -⟩ := at_i hi
    have hc := (hk c hcm).1
    refine wv_s f146_5 rfl (fun _ => rfl) ?_
    refine wv_s f146_6 rfl (fun _ => rfl) ?_
    refine wv_lsize f146_7 (by assumption) (by omega) (by simp) (fun hs => ?_)
    rw [List.length_map] at hs ⊢
    rw [hcd]
    have hf := (hk c hcm).2.2.2.1
    refine wv_cF_ge f146_10 (by omega) (by omega) (by omega) ?_
    refine wv_s f146_13 rfl (fun _ => rfl) ?_
    refine wv_s f146_14 rfl (fun _ => rfl) ?_
    refine wv_s f146_15 rfl (fun _ => rfl) ?_
    refine wv_lget f146_16 (by assumption) (by first | rfl | omega) (hc1 _) (by omega) (by simp) ?_
    refine wv_cast f146_19 (by assumption) ?_
    refine wv_getfield f146_22 (by assumption) (by rfl) ?_
    refine wv_valS f146_25 (by decide) (by simp) (by simp) (by decide +kernel) (cc_min (by omega) (by omega)) (by omega) ?_
    refine wv_st1 f146_28 rfl (fun _ _ => rfl) ?_
    refine wv_inc2 f146_29 ?_
    refine wv_s (pc' := 5) f146_32 rfl (fun _ => rfl) ?_
    exact c146_l hl hk k (i + 1) (min mn (c.f : Int)) (by omega) (by omega) (by omega)
theorem c146 {l : List ChD} {la lc : Nat} (hl : A.1 la = some (vL lc (l.map ChD.a))) (hk : ∀ c, c ∈ l → okCh A.1 c) : Wc sc 3 146 [.ref la] A (fun o A' => o = .inl (some (.int (zI (lstOf 100 l)))) ∧ A' = A) := by
  show Wv sc 3 146 0 [some (.ref la), none, none] [] A _
  refine wv_bip f146_0 (by decide) ?_
  refine wv_st1 f146_2 rfl (fun _ _ => rfl) ?_
  refine wv_icon f146_3 ?_
  refine wv_st2 f146_4 rfl (fun _ _ => rfl) ?_
  exact c146_l hl hk l.length 0 100 (by omega) (by omega) (by omega)
end C1
