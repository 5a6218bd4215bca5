/-! ARRAYLIST'S METHODS, over the interpreter's heaps -/
def cAL (md : Int32) (e : Value) (n : Nat) : gC := .inl (0, [.int md, e, .int (nI n)])
def cAr (c : Nat) (f : Nat → Option Nat) : gC := .inr (.inr (.object "java/lang/Object", c, f))
section ST
variable {sc : gSc} {d m pc pc' : Nat} {st : List Value} {h : gH} {Q : gO → gH → Prop} {q : gI} {v : Value} {l : gL} {x0 x1 x2 x3 x4 : Option Value}
theorem wq_st0 (hf : gFetch m pc = some q) (hk : gSmp q.1 = true) (hs : ∀ ls, gStep sc q pc ls (v :: st) h = some (pc', gSt ls 0 v, st, h)) (hn : Wq sc d m pc' (some v :: l) st h Q) : Wq sc d m pc (x0 :: l) (v :: st) h Q := wq_s hf hk (hs _) hn
theorem wq_st1 (hf : gFetch m pc = some q) (hk : gSmp q.1 = true) (hs : ∀ ls, gStep sc q pc ls (v :: st) h = some (pc', gSt ls 1 v, st, h)) (hn : Wq sc d m pc' (x0 :: some v :: l) st h Q) : Wq sc d m pc (x0 :: x1 :: l) (v :: st) h Q := wq_s hf hk (hs _) hn
theorem wq_st2 (hf : gFetch m pc = some q) (hk : gSmp q.1 = true) (hs : ∀ ls, gStep sc q pc ls (v :: st) h = some (pc', gSt ls 2 v, st, h)) (hn : Wq sc d m pc' (x0 :: x1 :: some v :: l) st h Q) : Wq sc d m pc (x0 :: x1 :: x2 :: l) (v :: st) h Q := wq_s hf hk (hs _) hn
theorem wq_st3 (hf : gFetch m pc = some q) (hk : gSmp q.1 = true) (hs : ∀ ls, gStep sc q pc ls (v :: st) h = some (pc', gSt ls 3 v, st, h)) (hn : Wq sc d m pc' (x0 :: x1 :: x2 :: some v :: l) st h Q) : Wq sc d m pc (x0 :: x1 :: x2 :: x3 :: l) (v :: st) h Q := wq_s hf hk (hs _) hn
theorem wq_st4 (hf : gFetch m pc = some q) (hk : gSmp q.1 = true) (hs : ∀ ls, gStep sc q pc ls (v :: st) h = some (pc', gSt ls 4 v, st, h)) (hn : Wq sc d m pc' (x0 :: x1 :: x2 :: x3 :: some v :: l) st h Q) : Wq sc d m pc (x0 :: x1 :: x2 :: x3 :: x4 :: l) (v :: st) h Q := wq_s hf hk (hs _) hn
variable {cn : ClassFile.Cond} {off : Int} {len tgt b : Nat} {x y : Int32} {ls : gL}
theorem wq_ift (hf : gFetch m pc = some (.ifCond cn off, len, tgt, b)) (ht : gTest cn x 0 = true) (hn : Wq sc d m tgt ls st h Q) : Wq sc d m pc ls (.int x :: st) h Q := wq_s hf rfl (by simp only [gStep, ht, if_true]) hn
theorem wq_iff (hf : gFetch m pc = some (.ifCond cn off, len, tgt, b)) (ht : gTest cn x 0 = false) (hn : Wq sc d m (pc + 3) ls st h Q) : Wq sc d m pc ls (.int x :: st) h Q := wq_s hf rfl (by simp only [gStep, ht]; rfl) hn
theorem wq_ict (hf : gFetch m pc = some (.if_icmp cn off, len, tgt, b)) (ht : gTest cn x y = true) (hn : Wq sc d m tgt ls st h Q) : Wq sc d m pc ls (.int y :: .int x :: st) h Q := wq_s hf rfl (by simp only [gStep, ht, if_true]) hn
theorem wq_icf (hf : gFetch m pc = some (.if_icmp cn off, len, tgt, b)) (ht : gTest cn x y = false) (hn : Wq sc d m (pc + 3) ls st h Q) : Wq sc d m pc ls (.int y :: .int x :: st) h Q := wq_s hf rfl (by simp only [gStep, ht]; rfl) hn
end ST
section LL
variable {sc : gSc} {d m pc : Nat} {h : gH} {r b c n i x : Nat} {md : Int32} {f : Nat → Option Nat} {e : Value}
theorem ll_size (hr : gGet h r = some (cAL md e n)) : Wm sc 0 173 [.ref r] h (fun o h' => o = .inl (some (.int (nI n))) ∧ h' = h) := by
  show Wq sc 0 173 0 [some (.ref r)] [] h _
  refine wq_s f173_0 rfl rfl ?_
  refine wq_getfield f173_1 hr rfl ?_
  exact wq_iret f173_4 rfl ⟨rfl, rfl⟩
theorem ll_empty (hr : gGet h r = some (cAL md e n)) (hn : n < 2 ^ 31) : Wm sc 0 170 [.ref r] h (fun o h' => o = .inl (some (.int (if n = 0 then 1 else 0))) ∧ h' = h) := by
  show Wq sc 0 170 0 [some (.ref r)] [] h _
  refine wq_s f170_0 rfl rfl ?_
  refine wq_getfield f170_1 hr rfl ?_
  by_cases h0 : n = 0
  · rw [if_pos h0]
    refine wq_iff f170_4 (by simp only [gTest]; subst h0; decide) ?_
    refine wq_s f170_7 rfl rfl ?_
    refine wq_s f170_8 rfl rfl ?_
    exact wq_iret f170_12 (by decide) ⟨rfl, rfl⟩
  · rw [if_neg h0]
    refine wq_ift f170_4 (by simp only [gTest]; exact decide_eq_true (nI_ne0 (by omega) hn)) ?_
    refine wq_s f170_11 rfl rfl ?_
    exact wq_iret f170_12 (by decide) ⟨rfl, rfl⟩
theorem ll_pre {z : Value} (hz : gRefV z = true) (hi : i < n) (hn : n < 2 ^ 31) : Wm sc 0 178 [.int (nI i), .int (nI n), z] h (fun o h' => o = .inl (some (.int (nI i))) ∧ h' = h) := by
  show Wq sc 0 178 0 [some (.int (nI i)), some (.int (nI n)), some z] [] h _
  refine wq_s f178_0 rfl rfl ?_
  refine wq_iff f178_1 (by simp only [gTest]; exact decide_eq_false (nI_pos (by omega))) ?_
  refine wq_s f178_4 rfl rfl ?_
  refine wq_s f178_5 rfl rfl ?_
  refine wq_ict f178_6 (by simp only [gTest]; exact decide_eq_true (nI_lt hi hn)) ?_
  refine wq_s f178_16 rfl rfl ?_
  exact wq_iret f178_17 rfl ⟨rfl, rfl⟩
theorem ll_chk (hi : i < n) (hn : n < 2 ^ 31) : Wm sc 1 176 [.int (nI i), .int (nI n)] h (fun o h' => o = .inl (some (.int (nI i))) ∧ h' = h) := by
  show Wq sc 1 176 0 [some (.int (nI i)), some (.int (nI n))] [] h _
  refine wq_s f176_0 rfl rfl ?_
  refine wq_s f176_1 rfl rfl ?_
  refine wq_s f176_2 rfl rfl ?_
  refine wq_valS f176_3 (by decide) (by simp) (by simp) (by decide +kernel) (ll_pre rfl hi hn) (Nat.le_refl _) ?_
  exact wq_iret f176_6 rfl ⟨rfl, rfl⟩
theorem ll_ed (hr : gGet h r = some (cAL md (.ref b) n)) (hb : gGet h b = some (cAr c f)) (hi : i < c) (hc : c < 2 ^ 31) : Wm sc 0 165 [.ref r, .int (nI i)] h (fun o h' => o = .inl (some (va_rf (f i))) ∧ h' = h) := by
  show Wq sc 0 165 0 [some (.ref r), some (.int (nI i))] [] h _
  refine wq_s f165_0 rfl rfl ?_
  refine wq_getfield f165_1 hr rfl ?_
  refine wq_s f165_4 rfl rfl ?_
  refine wq_aaload f165_5 hb rfl (nI_in hi hc) ?_
  rw [nI_clamp (by omega)]
  cases hf : f i with
  | none => exact wq_aret f165_6 rfl ⟨rfl, rfl⟩
  | some k => exact wq_aret f165_6 rfl ⟨rfl, rfl⟩
theorem ll_get (hr : gGet h r = some (cAL md (.ref b) n)) (hb : gGet h b = some (cAr c f)) (hi : i < n) (hnc : n ≤ c) (hc : c < 2 ^ 31) : Wm sc 2 167 [.ref r, .int (nI i)] h (fun o h' => o = .inl (some (va_rf (f i))) ∧ h' = h) := by
  show Wq sc 2 167 0 [some (.ref r), some (.int (nI i))] [] h _
  refine wq_s f167_0 rfl rfl ?_
  refine wq_s f167_1 rfl rfl ?_
  refine wq_getfield f167_2 hr rfl ?_
  refine wq_valS f167_5 (by decide) (by simp) (by simp) (by decide +kernel) (ll_chk hi (by omega)) (Nat.le_refl _) ?_
  refine wq_s f167_8 rfl rfl ?_
  refine wq_s f167_9 rfl rfl ?_
  refine wq_s f167_10 rfl rfl ?_
  refine wq_valV f167_11 (by decide) (by simp) (by simp) (by decide +kernel) (gRecv_of hr (by decide +kernel)) (ll_ed hr hb (by omega) hc) (by omega) ?_
  cases hf : f i with
  | none => exact wq_aret f167_14 rfl ⟨rfl, rfl⟩
  | some k => exact wq_aret f167_14 rfl ⟨rfl, rfl⟩
theorem ll_max {x y : Int32} : Wm sc 0 156 [.int x, .int y] h (fun o h' => o = .inl (some (.int (if y ≤ x then x else y))) ∧ h' = h) := by
  show Wq sc 0 156 0 [some (.int x), some (.int y)] [] h _
  refine wq_s f156_0 rfl rfl ?_
  refine wq_s f156_1 rfl rfl ?_
  by_cases hc : y ≤ x
  · rw [if_pos hc]
    refine wq_icf f156_2 (by simp only [gTest]; exact decide_eq_false (Int32.not_lt.mpr hc)) ?_
    refine wq_s f156_5 rfl rfl ?_
    refine wq_s f156_6 rfl rfl ?_
    exact wq_iret f156_10 rfl ⟨rfl, rfl⟩
  · rw [if_neg hc]
    refine wq_ict f156_2 (by simp only [gTest]; exact decide_eq_true (Int32.not_le.mp hc)) ?_
    refine wq_s f156_9 rfl rfl ?_
    exact wq_iret f156_10 rfl ⟨rfl, rfl⟩
theorem ll_min {x y : Int32} : Wm sc 0 157 [.int x, .int y] h (fun o h' => o = .inl (some (.int (if x ≤ y then x else y))) ∧ h' = h) := by
  show Wq sc 0 157 0 [some (.int x), some (.int y)] [] h _
  refine wq_s f157_0 rfl rfl ?_
  refine wq_s f157_1 rfl rfl ?_
  by_cases hc : x ≤ y
  · rw [if_pos hc]
    refine wq_icf f157_2 (by simp only [gTest]; exact decide_eq_false (Int32.not_lt.mpr hc)) ?_
    refine wq_s f157_5 rfl rfl ?_
    refine wq_s f157_6 rfl rfl ?_
    exact wq_iret f157_10 rfl ⟨rfl, rfl⟩
  · rw [if_neg hc]
    refine wq_ict f157_2 (by simp only [gTest]; exact decide_eq_true (Int32.not_le.mp hc)) ?_
    refine wq_s f157_9 rfl rfl ?_
    exact wq_iret f157_10 rfl ⟨rfl, rfl⟩
theorem ll_newLen {c g p : Nat} (hc : c < 2 ^ 30) (hg : g < 2 ^ 29) (hp : p < 2 ^ 29) (h0 : 0 < c + max g p) : Wm sc 1 177 [.int (nI c), .int (nI g), .int (nI p)] h (fun o h' => o = .inl (some (.int (nI (c + max g p)))) ∧ h' = h) := by
  show Wq sc 1 177 0 [some (.int (nI c)), some (.int (nI g)), some (.int (nI p)), none] [] h _
  refine wq_s f177_0 rfl rfl ?_
  refine wq_s f177_1 rfl rfl ?_
  refine wq_s f177_2 rfl rfl ?_
  refine wq_valS f177_3 (by decide) (by simp) (by simp) (by decide +kernel) ll_max (Nat.le_refl _) ?_
  have em : (if nI p ≤ nI g then nI g else nI p) = nI (max g p) := by
    by_cases hle : p ≤ g
    · rw [if_pos (nI_le hle (by omega)), Nat.max_eq_left hle]
    · rw [if_neg (nI_ge (by omega) (by omega)), Nat.max_eq_right (by omega)]
  rw [em]
  have hm : max g p < 2 ^ 29 := Nat.max_lt.mpr ⟨hg, hp⟩
  refine wq_s f177_6 rfl rfl ?_
  rw [nI_add]
  refine wq_st3 f177_7 rfl (fun _ => rfl) ?_
  refine wq_s f177_8 rfl rfl ?_
  refine wq_s f177_9 rfl rfl ?_
  refine wq_icf f177_10 (by simp only [gTest]; exact decide_eq_false (by show ¬ nI (c + max g p) ≤ nI 0; exact nI_ge h0 (by omega))) ?_
  refine wq_s f177_13 rfl rfl ?_
  refine wq_s f177_14 rfl rfl ?_
  refine wq_icf f177_16 (by simp only [gTest]; exact decide_eq_false (by
    have e9 : (Int32.ofNat 2147483639) = nI 2147483639 := rfl
    rw [e9]
    exact nI_nlt (by omega) (by omega))) ?_
  refine wq_s f177_19 rfl rfl ?_
  exact wq_iret f177_20 rfl ⟨rfl, rfl⟩
theorem va_cpy0 {f g : Nat → Option Nat} {c j : Nat} : va_cpy f g 0 0 c j = if j < c then f j else g j := by
  unfold va_cpy
  by_cases hj : j < c
  · rw [if_pos ⟨by omega, by omega⟩, if_pos hj]
    simp
  · rw [if_neg (by omega), if_neg hj]
theorem prim_cpy {c0 c1 s t k : Nat} {f g : Nat → Option Nat} {b0 b1 : Nat} {st : List Value} (h0 : gGet h b0 = some (cAr c0 f)) (h1 : gGet h b1 = some (cAr c1 g)) (hs : s + k ≤ c0) (ht : t + k ≤ c1) (hc0 : c0 < 2 ^ 31) (hc1 : c1 < 2 ^ 31) (hst : st.length ≤ 8) (ho : ∀ j, j < k → gObj h (f (s + j)) = true) :
    gPrim 901 (.int (nI k) :: .int (nI t) :: .ref b1 :: .int (nI s) :: .ref b0 :: st) h = some (st, gPut h b1 (cAr c1 (va_cpy f g s t k))) := by
  have e1 : (nI k).toNatClampNeg = k := nI_clamp (by omega)
  have e2 : (nI s).toNatClampNeg = s := nI_clamp (by omega)
  have e3 : (nI t).toNatClampNeg = t := nI_clamp (by omega)
  have n1 : ¬ nI k < 0 := nI_pos (by omega)
  have n2 : ¬ nI s < 0 := nI_pos (by omega)
  have n3 : ¬ nI t < 0 := nI_pos (by omega)
  simp only [gPrim, h0, h1, cAr, e1, e2, e3]
  rw [if_pos ⟨trivial, trivial, n2, n3, n1, hs, ht, hst, List.all_eq_true.mpr (fun j hj => ho j (List.mem_range.mp hj))⟩]
theorem gObj_new {h : gH} {n : Nat} {x : gC} {o : Option Nat} (ho : gObj h o = true) : gObj (gNew h n x) o = true := by
  cases o with
  | none => rfl
  | some k =>
    unfold gObj at ho ⊢
    simp only at ho ⊢
    rw [gGet_new]
    by_cases hk : k = h.2.2.length
    · subst hk
      have : gGet h h.2.2.length = none := List.getElem?_eq_none (Nat.le_refl _)
      rw [this] at ho
      cases ho
    · rw [if_neg hk]
      exact ho
theorem ll_copy3 {c' : Nat} (hb : gGet h b = some (cAr c f)) (hcc : c ≤ c') (hc' : c' ≤ 100000) (ho : ∀ j, j < c → gObj h (f j) = true) : Wm sc 1 175 [.ref b, .int (nI c'), .retAddr 3] h (fun o h' => o = .inl (some (.ref h.2.2.length)) ∧ h' = gPut (gNew h c' (cAr c' (fun _ => none))) h.2.2.length (cAr c' (va_cpy f (fun _ => none) 0 0 c))) := by
  show Wq sc 1 175 0 [some (.ref b), some (.int (nI c')), some (.retAddr 3), none] [] h _
  refine wq_s f175_0 rfl rfl ?_
  refine wq_s f175_1 rfl rfl ?_
  refine wq_s f175_3 rfl rfl ?_
  refine wq_s f175_6 rfl rfl ?_
  have ec : (nI c').toNatClampNeg = c' := nI_clamp (by omega)
  refine wq_anew f175_7 (by decide) (nI_pos (by omega)) (by rw [ec]; omega) ?_
  rw [ec]
  refine wq_s f175_10 rfl rfl ?_
  refine wq_st3 f175_24 rfl (fun _ => rfl) ?_
  refine wq_s f175_25 rfl rfl ?_
  refine wq_s f175_26 rfl rfl ?_
  refine wq_s f175_27 rfl rfl ?_
  refine wq_s f175_28 rfl rfl ?_
  refine wq_s f175_29 rfl rfl ?_
  have hb2 : gGet (gNew h c' (cAr c' (fun _ => none))) b = some (cAr c f) := by
    rw [gGet_new, if_neg (Nat.ne_of_lt (gGet_lt hb))]
    exact hb
  have hb3 : gGet (gNew h c' (cAr c' (fun _ => none))) h.2.2.length = some (cAr c' (fun _ => none)) := by
    rw [gGet_new, if_pos rfl]
  refine wq_alenO (h := gNew h c' (cAr c' (fun _ => none))) f175_30 hb2 ?_
  refine wq_s f175_31 rfl rfl ?_
  refine wq_valS f175_32 (by decide) (by simp) (by simp) (by decide +kernel) ll_min (Nat.le_refl _) ?_
  have em : (if Int32.ofNat c ≤ nI c' then Int32.ofNat c else nI c') = nI c := if_pos (nI_le hcc (by omega))
  rw [em]
  refine wq_primS f175_35 (by decide) (prim_cpy (s := 0) (t := 0) hb2 hb3 (by omega) (by omega) (by omega) (by omega) (by simp) (fun j hj => gObj_new (by rw [Nat.zero_add]; exact ho j hj))) ?_
  refine wq_s f175_38 rfl rfl ?_
  exact wq_aret f175_39 rfl ⟨rfl, rfl⟩
theorem ll_copy2 {c' : Nat} (hb : gGet h b = some (cAr c f)) (hcc : c ≤ c') (hc' : c' ≤ 100000) (ho : ∀ j, j < c → gObj h (f j) = true) : Wm sc 2 174 [.ref b, .int (nI c')] h (fun o h' => o = .inl (some (.ref h.2.2.length)) ∧ h' = gPut (gNew h c' (cAr c' (fun _ => none))) h.2.2.length (cAr c' (va_cpy f (fun _ => none) 0 0 c))) := by
  show Wq sc 2 174 0 [some (.ref b), some (.int (nI c'))] [] h _
  refine wq_s f174_0 rfl rfl ?_
  refine wq_s f174_1 rfl rfl ?_
  refine wq_s f174_2 rfl rfl ?_
  refine wq_primV f174_3 (by decide) (st' := [.retAddr 3, .int (nI c'), .ref b]) (h' := h) (by simp only [gPrim, hb, cAr]; rfl) ?_
  refine wq_valS f174_6 (by decide) (by simp) (by simp) (by decide +kernel) (ll_copy3 hb hcc hc' ho) (Nat.le_refl _) ?_
  exact wq_aret f174_9 rfl ⟨rfl, rfl⟩
/-- the room of a row that was full -/
def gw (c : Nat) : Nat := if c = 0 then 10 else c + c / 2
/-- a row of ArrayList and its room: none made yet, or one -/
def lRow (h : gH) (e : Value) (c : Nat) (xs : List Nat) : Prop := (e = .retAddr 2 ∧ c = 0 ∧ xs = []) ∨ (10 ≤ c ∧ ∃ b, e = .ref b ∧ gGet h b = some (cAr c (fun j => xs[j]?)))
def lIs (h : gH) (r : Nat) (e : Value) (c : Nat) (xs : List Nat) : Prop := ∃ md, gGet h r = some (cAL md e xs.length) ∧ xs.length ≤ c ∧ lRow h e c xs
theorem ll_grow1 {xs : List Nat} (hr : gGet h r = some (cAL md e xs.length)) (hrow : lRow h e c xs) (hxc : xs.length = c) (hc : c ≤ 40000) (ho : ∀ q, q ∈ xs → gObj h (some q) = true) : Wm sc 3 169 [.ref r, .int (nI (xs.length + 1))] h (fun o h' => o = .inl (some (.ref h.2.2.length)) ∧ (∀ q, gGet h' q = if q = r then some (cAL md (.ref h.2.2.length) xs.length) else if q = h.2.2.length then some (cAr (gw c) (fun j => xs[j]?)) else gGet h q) ∧ h'.1 = h.1 + 1 ∧ h'.2.1 = h.2.1 + gw c) := by
  show Wq sc 3 169 0 [some (.ref r), some (.int (nI (xs.length + 1))), none, none] [] h _
  have hrl := gGet_lt hr
  refine wq_s f169_0 rfl rfl ?_
  refine wq_getfield f169_1 hr rfl ?_
  rcases hrow with ⟨rfl, rfl, rfl⟩ | ⟨hc10, b, rfl, hb⟩
  · refine wq_s f169_4 rfl rfl ?_
    refine wq_st2 f169_5 rfl (fun _ => rfl) ?_
    refine wq_s f169_6 rfl rfl ?_
    refine wq_iff f169_7 (by decide) ?_
    refine wq_s f169_10 rfl rfl ?_
    refine wq_getfield f169_11 hr rfl ?_
    refine wq_s f169_14 rfl rfl ?_
    refine wq_s (pc' := 45) f169_17 rfl rfl ?_
    refine wq_s f169_45 rfl rfl ?_
    refine wq_s f169_46 rfl rfl ?_
    refine wq_s f169_48 rfl rfl ?_
    refine wq_valS f169_49 (by decide) (by simp) (by simp) (by decide +kernel) ll_max (by omega) ?_
    have em : (if nI (([] : List Nat).length + 1) ≤ (Int8.ofInt 10).toInt32 then (Int8.ofInt 10).toInt32 else nI (([] : List Nat).length + 1)) = nI 10 := by decide
    rw [em]
    have ec : (nI 10).toNatClampNeg = 10 := nI_clamp (by omega)
    refine wq_anew f169_52 (by decide) (by decide) (by decide) ?_
    rw [ec]
    refine wq_s f169_55 rfl rfl ?_
    have hr2 : gGet (gNew h 10 (cAr 10 (fun _ => none))) r = some (cAL md (.retAddr 2) ([] : List Nat).length) := by
      rw [gGet_new, if_neg (Nat.ne_of_lt hrl)]
      exact hr
    refine wq_putfield (h := gNew h 10 (cAr 10 (fun _ => none))) f169_56 hr2 (by simp) rfl ?_
    refine wq_aret f169_59 rfl ⟨rfl, fun q => ?_, rfl, rfl⟩
    rw [gGet_put ⟨_, hr2⟩, gGet_new]
    by_cases h1 : q = r
    · subst h1
      rw [if_pos rfl, if_pos rfl]
      rfl
    · rw [if_neg (fun w => h1 w.symm), if_neg h1]
      rfl
  · have ec : c = xs.length := hxc.symm
    refine wq_alenO f169_4 hb ?_
    refine wq_st2 f169_5 rfl (fun _ => rfl) ?_
    refine wq_s f169_6 rfl rfl ?_
    refine wq_ift f169_7 (by simp only [gTest]; exact decide_eq_true (show nI 0 < nI c from nI_lt (by omega) (by omega))) ?_
    refine wq_s f169_20 rfl rfl ?_
    refine wq_s f169_21 rfl rfl ?_
    refine wq_s f169_22 rfl rfl ?_
    refine wq_s f169_23 rfl rfl ?_
    refine wq_s f169_24 rfl rfl ?_
    refine wq_s f169_25 rfl rfl ?_
    refine wq_s f169_26 rfl rfl ?_
    have es : nI (xs.length + 1) - Int32.ofNat c = nI 1 := (pk_sub (show c ≤ xs.length + 1 by omega)).trans (congrArg nI (by omega))
    have eh : Int32.ofNat c >>> (Int32.ofInt 1 &&& 31) = nI (c / 2) := pk_shrN (n := c) (by omega) _ 1 (by decide)
    rw [es, eh]
    refine wq_valS f169_27 (by decide) (by simp) (by simp) (by decide +kernel) (ll_newLen (c := c) (g := 1) (p := c / 2) (by omega) (by omega) (by omega) (by omega)) (by omega) ?_
    have eg : c + max 1 (c / 2) = gw c := by
      unfold gw
      rw [if_neg (by omega), Nat.max_eq_right (by omega)]
    have hgw : gw c ≤ 100000 ∧ c ≤ gw c := by
      unfold gw
      rw [if_neg (by omega)]
      omega
    rw [eg]
    refine wq_st3 f169_30 rfl (fun _ => rfl) ?_
    refine wq_s f169_31 rfl rfl ?_
    refine wq_s f169_32 rfl rfl ?_
    refine wq_getfield f169_33 hr rfl ?_
    refine wq_s f169_36 rfl rfl ?_
    refine wq_valS f169_37 (by decide) (by simp) (by simp) (by decide +kernel) (ll_copy2 hb hgw.2 hgw.1 (fun j hj => by
      show gObj h (xs[j]?) = true
      have hj2 : j < xs.length := by omega
      rw [List.getElem?_eq_getElem hj2]
      exact ho _ (List.getElem_mem hj2))) (Nat.le_refl _) ?_
    have hL : gGet (gNew h (gw c) (cAr (gw c) (fun _ => none))) h.2.2.length = some (cAr (gw c) (fun _ => none)) := by rw [gGet_new, if_pos rfl]
    have hr2 : gGet (gPut (gNew h (gw c) (cAr (gw c) (fun _ => none))) h.2.2.length (cAr (gw c) (va_cpy (fun j => xs[j]?) (fun _ => none) 0 0 c))) r = some (cAL md (.ref b) xs.length) := by
      rw [gGet_ne (by omega), gGet_new, if_neg (by omega)]
      exact hr
    refine wq_s f169_40 rfl rfl ?_
    refine wq_putfield f169_41 hr2 (by simp) rfl ?_
    refine wq_aret f169_44 rfl ⟨rfl, fun q => ?_, rfl, rfl⟩
    rw [gGet_put ⟨_, hr2⟩]
    by_cases h1 : q = r
    · subst h1
      rw [if_pos rfl, if_pos rfl]
      rfl
    · rw [if_neg (fun w => h1 w.symm), if_neg h1, gGet_put ⟨_, hL⟩]
      by_cases h2 : q = h.2.2.length
      · subst h2
        rw [if_pos rfl, if_pos rfl]
        congr 2
        funext j
        rw [va_cpy0]
        split
        · rfl
        · exact (List.getElem?_eq_none (by omega)).symm
      · rw [if_neg (fun w => h2 w.symm), if_neg h2, gGet_new, if_neg h2]
theorem ll_grow0 {xs : List Nat} (hr : gGet h r = some (cAL md e xs.length)) (hrow : lRow h e c xs) (hxc : xs.length = c) (hc : c ≤ 40000) (ho : ∀ q, q ∈ xs → gObj h (some q) = true) : Wm sc 4 168 [.ref r] h (fun o h' => o = .inl (some (.ref h.2.2.length)) ∧ (∀ q, gGet h' q = if q = r then some (cAL md (.ref h.2.2.length) xs.length) else if q = h.2.2.length then some (cAr (gw c) (fun j => xs[j]?)) else gGet h q) ∧ h'.1 = h.1 + 1 ∧ h'.2.1 = h.2.1 + gw c) := by
  show Wq sc 4 168 0 [some (.ref r)] [] h _
  refine wq_s f168_0 rfl rfl ?_
  refine wq_s f168_1 rfl rfl ?_
  refine wq_getfield f168_2 hr rfl ?_
  refine wq_s f168_5 rfl rfl ?_
  refine wq_s f168_6 rfl rfl ?_
  have e1 : nI xs.length + Int32.ofInt 1 = nI (xs.length + 1) := nI_add _ 1
  rw [e1]
  refine wq_invV f168_7 (by decide) (by simp) (by simp) (by decide +kernel) (gRecv_of hr (by decide +kernel)) (ll_grow1 hr hrow hxc hc ho) (Nat.le_refl _) (fun o h9 hq => ?_)
  obtain ⟨rfl, hq⟩ := hq
  exact wq_aret f168_10 rfl ⟨rfl, hq⟩
/-- what a list's method leaves -/
def lRes (h h' : gH) (r : Nat) (e : Value) (c' : Nat) (xs' : List Nat) (cn sn : Nat) : Prop := ∃ md' e', (e' = e ∨ e' = .ref h.2.2.length) ∧ xs'.length ≤ c' ∧ ((e' = .retAddr 2 ∧ c' = 0 ∧ xs' = []) ∨ (10 ≤ c' ∧ ∃ b, e' = .ref b)) ∧
  (∀ q, gGet h' q = if q = r then some (cAL md' e' xs'.length) else if e' = .ref q then some (cAr c' (fun j => xs'[j]?)) else gGet h q) ∧ h'.1 = h.1 + cn ∧ h'.2.1 = h.2.1 + sn
theorem get_snoc {xs : List Nat} {x j : Nat} : (xs ++ [x])[j]? = if j = xs.length then some x else xs[j]? := by
  by_cases h1 : j < xs.length
  · rw [List.getElem?_append_left h1, if_neg (by omega)]
  · by_cases h2 : j = xs.length
    · subst h2
      simp
    · rw [if_neg h2, List.getElem?_eq_none (by simp; omega), List.getElem?_eq_none (by omega)]
theorem ll_addh {xs : List Nat} {cx : gC} (hr : gGet h r = some (cAL md e xs.length)) (hrow : lRow h e c xs) (hxc : xs.length ≤ c) (hc : c ≤ 40000) (hx : gGet h x = some cx) (hcx : gMay (.object "java/lang/Object") cx = true) (ho : ∀ q, q ∈ xs → gObj h (some q) = true) :
    Wm sc 5 163 [.ref r, .ref x, e, .int (nI xs.length)] h (fun o h' => o = .inl none ∧ lRes h h' r e (if xs.length < c then c else gw c) (xs ++ [x]) (if xs.length < c then 0 else 1) (if xs.length < c then 0 else gw c)) := by
  show Wq sc 5 163 0 [some (.ref r), some (.ref x), some e, some (.int (nI xs.length))] [] h _
  have hrl := gGet_lt hr
  have hxl := gGet_lt hx
  have hxr : x ≠ r := by
    rintro rfl
    rw [hr] at hx
    cases hx
    exact absurd hcx (by simp only [cAL, gMay]; decide)
  by_cases hf : xs.length < c
  · rw [if_pos hf, if_pos hf, if_pos hf]
    rcases hrow with ⟨rfl, rfl, rfl⟩ | ⟨hc10, b, rfl, hb⟩
    · exact absurd hf (Nat.not_lt_zero _)
    · have hrb : r ≠ b := by
        rintro rfl
        rw [hr] at hb
        cases hb
      refine wq_s f163_0 rfl rfl ?_
      refine wq_s f163_1 rfl rfl ?_
      refine wq_alenO f163_2 hb ?_
      refine wq_ict f163_3 (by simp only [gTest]; exact decide_eq_true (fun w => by
        have := (nI_eq (by omega) (by omega)).mp (show nI xs.length = nI c from w)
        omega)) ?_
      refine wq_s f163_11 rfl rfl ?_
      refine wq_s f163_12 rfl rfl ?_
      refine wq_s f163_13 rfl rfl ?_
      have hk : ¬ (nI xs.length < 0 ∨ c ≤ (nI xs.length).toNatClampNeg) := nI_in hf (by omega)
      refine wq_aastore f163_14 hb hx hk hcx ?_
      rw [nI_clamp (by omega)]
      refine wq_s f163_15 rfl rfl ?_
      refine wq_s f163_16 rfl rfl ?_
      refine wq_s f163_17 rfl rfl ?_
      refine wq_s f163_18 rfl rfl ?_
      have e1 : nI xs.length + Int32.ofInt 1 = nI (xs.length + 1) := nI_add _ 1
      rw [e1]
      have hr2 : gGet (gPut h b (.inr (.inr (.object "java/lang/Object", c, va_up (fun j => xs[j]?) xs.length (some x))))) r = some (cAL md (.ref b) xs.length) := by
        rw [gGet_ne (Ne.symm hrb)]
        exact hr
      refine wq_putfield f163_19 hr2 (by simp) rfl ?_
      refine wq_vret f163_22 rfl ⟨rfl, md, .ref b, .inl rfl, by simp; omega, .inr ⟨hc10, b, rfl⟩, fun q => ?_, rfl, rfl⟩
      rw [gGet_put ⟨_, hr2⟩]
      by_cases h1 : q = r
      · subst h1
        rw [if_pos rfl, if_pos rfl]
        simp [cAL]
      · rw [if_neg (fun w => h1 w.symm), if_neg h1, gGet_put ⟨_, hb⟩]
        by_cases h2 : b = q
        · subst h2
          rw [if_pos rfl, if_pos rfl]
          unfold cAr
          congr 5
          funext j
          rw [get_snoc]
          rfl
        · rw [if_neg h2, if_neg (fun w => h2 (by cases w; rfl))]
  · have hxe : xs.length = c := by omega
    rw [if_neg hf, if_neg hf, if_neg hf]
    have hgw : 10 ≤ gw c ∧ c < gw c ∧ gw c ≤ 60000 := by
      rcases hrow with ⟨rfl, rfl, rfl⟩ | ⟨hc10, b, rfl, hb⟩
      · decide
      · unfold gw
        rw [if_neg (by omega)]
        omega
    refine wq_s f163_0 rfl rfl ?_
    have hgo : Wq sc 5 163 6 [some (.ref r), some (.ref x), some e, some (.int (nI xs.length))] [] h (fun o h' => o = .inl none ∧ lRes h h' r e (gw c) (xs ++ [x]) 1 (gw c)) := by
      refine wq_s f163_6 rfl rfl ?_
      refine wq_invV f163_7 (by decide) (by simp) (by simp) (by decide +kernel) (gRecv_of hr (by decide +kernel)) (ll_grow0 hr hrow hxe hc ho) (by omega) (fun o h9 hq => ?_)
      obtain ⟨rfl, hg, hc1, hs1⟩ := hq
      have hr2 : gGet h9 r = some (cAL md (.ref h.2.2.length) xs.length) := by rw [hg, if_pos rfl]
      have hb2 : gGet h9 h.2.2.length = some (cAr (gw c) (fun j => xs[j]?)) := by rw [hg, if_neg (by omega), if_pos rfl]
      have hx2 : gGet h9 x = some cx := by
        rw [hg, if_neg hxr, if_neg (by omega)]
        exact hx
      refine wq_st2 f163_10 rfl (fun _ => rfl) ?_
      refine wq_s f163_11 rfl rfl ?_
      refine wq_s f163_12 rfl rfl ?_
      refine wq_s f163_13 rfl rfl ?_
      have hk : ¬ (nI xs.length < 0 ∨ gw c ≤ (nI xs.length).toNatClampNeg) := nI_in (by omega) (by omega)
      refine wq_aastore f163_14 hb2 hx2 hk hcx ?_
      rw [nI_clamp (by omega)]
      refine wq_s f163_15 rfl rfl ?_
      refine wq_s f163_16 rfl rfl ?_
      refine wq_s f163_17 rfl rfl ?_
      refine wq_s f163_18 rfl rfl ?_
      have e1 : nI xs.length + Int32.ofInt 1 = nI (xs.length + 1) := nI_add _ 1
      rw [e1]
      have hr3 : gGet (gPut h9 h.2.2.length (.inr (.inr (.object "java/lang/Object", gw c, va_up (fun j => xs[j]?) xs.length (some x))))) r = some (cAL md (.ref h.2.2.length) xs.length) := by
        rw [gGet_ne (by omega)]
        exact hr2
      refine wq_putfield f163_19 hr3 (by simp) rfl ?_
      refine wq_vret f163_22 rfl ⟨rfl, md, .ref h.2.2.length, .inr rfl, by simp; omega, .inr ⟨hgw.1, _, rfl⟩, fun q => ?_, hc1, hs1⟩
      rw [gGet_put ⟨_, hr3⟩]
      by_cases h1 : q = r
      · subst h1
        rw [if_pos rfl, if_pos rfl]
        simp [cAL]
      · rw [if_neg (fun w => h1 w.symm), if_neg h1, gGet_put ⟨_, hb2⟩]
        by_cases h2 : h.2.2.length = q
        · subst h2
          rw [if_pos rfl, if_pos rfl]
          unfold cAr
          congr 5
          funext j
          rw [get_snoc]
          rfl
        · rw [if_neg h2, if_neg (fun w => h2 (by cases w; rfl)), hg, if_neg h1, if_neg (fun w => h2 w.symm)]
    rcases hrow with ⟨rfl, rfl, rfl⟩ | ⟨hc10, b, rfl, hb⟩
    · refine wq_s f163_1 rfl rfl ?_
      refine wq_s f163_2 rfl rfl ?_
      exact wq_icf f163_3 (by decide) hgo
    · refine wq_s f163_1 rfl rfl ?_
      refine wq_alenO f163_2 hb ?_
      refine wq_icf f163_3 (by simp only [gTest]; exact decide_eq_false (fun w => w (show nI xs.length = nI c by rw [hxe]))) ?_
      exact hgo
theorem lRes_md {h h0 h' : gH} {r : Nat} {e : Value} {c' : Nat} {xs' : List Nat} {cn sn : Nat} {x : gC} (h0h : h0 = gPut h r x) (hr : ∃ y, gGet h r = some y) (hl : lRes h0 h' r e c' xs' cn sn) : lRes h h' r e c' xs' cn sn := by
  subst h0h
  obtain ⟨md', e', h1, h2, h3, h4, h5, h6⟩ := hl
  rw [gPut_len] at h1
  refine ⟨md', e', h1, h2, h3, fun q => ?_, h5, h6⟩
  rw [h4]
  by_cases hq : q = r
  · rw [if_pos hq, if_pos hq]
  · rw [if_neg hq, if_neg hq]
    split
    · rfl
    · rw [gGet_put hr, if_neg (fun w => hq w.symm)]
theorem ll_add {xs : List Nat} {cx : gC} (hr : gGet h r = some (cAL md e xs.length)) (hrow : lRow h e c xs) (hxc : xs.length ≤ c) (hc : c ≤ 40000) (hx : gGet h x = some cx) (hcx : gMay (.object "java/lang/Object") cx = true) (ho : ∀ q, q ∈ xs → gObj h (some q) = true) :
    Wm sc 6 162 [.ref r, .ref x] h (fun o h' => o = .inl (some (.int (nI 1))) ∧ lRes h h' r e (if xs.length < c then c else gw c) (xs ++ [x]) (if xs.length < c then 0 else 1) (if xs.length < c then 0 else gw c)) := by
  show Wq sc 6 162 0 [some (.ref r), some (.ref x)] [] h _
  have hxr : x ≠ r := by
    rintro rfl
    rw [hr] at hx
    cases hx
    exact absurd hcx (by simp only [cAL, gMay]; decide)
  refine wq_s f162_0 rfl rfl ?_
  refine wq_s f162_1 rfl rfl ?_
  refine wq_getfield f162_2 hr rfl ?_
  refine wq_s f162_5 rfl rfl ?_
  refine wq_s f162_6 rfl rfl ?_
  refine wq_putfield f162_7 hr (by simp) rfl ?_
  have hr2 : gGet (gPut h r (cAL (md + Int32.ofInt 1) e xs.length)) r = some (cAL (md + Int32.ofInt 1) e xs.length) := gGet_self hr
  have ee : ∃ e2, gLd [some e] 0 = some e2 := ⟨e, rfl⟩
  refine wq_s f162_10 rfl rfl ?_
  refine wq_s f162_11 rfl rfl ?_
  refine wq_s f162_12 rfl rfl ?_
  refine wq_getfield (h := gPut h r (cAL (md + Int32.ofInt 1) e xs.length)) f162_13 hr2 rfl ?_
  refine wq_s f162_16 rfl rfl ?_
  refine wq_getfield (h := gPut h r (cAL (md + Int32.ofInt 1) e xs.length)) f162_17 hr2 rfl ?_
  have hrow2 : lRow (gPut h r (cAL (md + Int32.ofInt 1) e xs.length)) e c xs := by
    rcases hrow with h1 | ⟨hc10, b, rfl, hb⟩
    · exact .inl h1
    · refine .inr ⟨hc10, b, rfl, ?_⟩
      rw [gGet_ne (by
        rintro rfl
        rw [hr] at hb
        cases hb)]
      exact hb
  have ho2 : ∀ q, q ∈ xs → gObj (gPut h r (cAL (md + Int32.ofInt 1) e xs.length)) (some q) = true := by
    intro q hq
    have := ho q hq
    unfold gObj at this ⊢
    simp only at this ⊢
    rw [gGet_put ⟨_, hr⟩]
    by_cases hrq : r = q
    · rw [if_pos hrq]
      rfl
    · rw [if_neg hrq]
      exact this
  refine wq_invV (h := gPut h r (cAL (md + Int32.ofInt 1) e xs.length)) f162_20 (by decide) (by simp) (by simp) (by decide +kernel) (gRecv_of hr2 (by decide +kernel)) (ll_addh (cx := cx) hr2 hrow2 hxc hc (by rw [gGet_ne (Ne.symm hxr)]; exact hx) hcx ho2) (by omega) (fun o h9 hq => ?_)
  obtain ⟨rfl, hq⟩ := hq
  refine wq_s f162_23 rfl rfl ?_
  exact wq_iret f162_24 (by decide +kernel) ⟨rfl, lRes_md rfl ⟨_, hr⟩ hq⟩
theorem ll_rc (hr : gGet h r = some (cAL md e n)) (hi : i ≤ n) (hn : n < 2 ^ 31) : Wm sc 0 171 [.ref r, .int (nI i)] h (fun o h' => o = .inl none ∧ h' = h) := by
  show Wq sc 0 171 0 [some (.ref r), some (.int (nI i))] [] h _
  refine wq_s f171_0 rfl rfl ?_
  refine wq_s f171_1 rfl rfl ?_
  refine wq_getfield f171_2 hr rfl ?_
  refine wq_icf f171_5 (by simp only [gTest]; exact decide_eq_false (nI_nlt hi (by omega))) ?_
  refine wq_s f171_8 rfl rfl ?_
  refine wq_ift f171_9 (by simp only [gTest]; exact decide_eq_true (nI_pos' (by omega))) ?_
  exact wq_vret f171_25 rfl ⟨rfl, rfl⟩
theorem get_ins {xs : List Nat} {x i j : Nat} (hi : i ≤ xs.length) : (xs.take i ++ x :: xs.drop i)[j]? = if j = i then some x else if i < j then xs[j - 1]? else xs[j]? := by
  have hl : (xs.take i).length = i := by simp; omega
  by_cases h1 : j < i
  · rw [List.getElem?_append_left (by omega), if_neg (by omega), if_neg (by omega), List.getElem?_take, if_pos h1]
  · rw [List.getElem?_append_right (by omega), hl]
    by_cases h2 : j = i
    · subst h2
      simp
    · rw [if_neg h2, if_pos (by omega)]
      obtain ⟨k, hk⟩ : ∃ k, j - i = k + 1 := ⟨j - i - 1, by omega⟩
      rw [hk, List.getElem?_cons_succ, List.getElem?_drop]
      congr 1
      omega
theorem gObj_ref {h : gH} {q : Nat} (hq : gObj h (some q) = true) : ∃ z, gGet h q = some (.inl z) := by
  unfold gObj at hq
  simp only at hq
  split at hq
  · exact ⟨_, by assumption⟩
  · cases hq
theorem ll_insT {xs : List Nat} {cx : gC} (hr : gGet h r = some (cAL md (.ref b) xs.length)) (hb : gGet h b = some (cAr c (fun j => xs[j]?))) (hxc : xs.length < c) (hc : c ≤ 60000) (hi : i ≤ xs.length) (hx : gGet h x = some cx) (hcx : gMay (.object "java/lang/Object") cx = true) (ho : ∀ q, q ∈ xs → gObj h (some q) = true) :
    Wq sc d 161 38 [some (.ref r), some (.int (nI i)), some (.ref x), some (.int (nI xs.length)), some (.ref b)] [] h (fun o h' => o = .inl none ∧ (∀ q, gGet h' q = if q = r then some (cAL md (.ref b) (xs.length + 1)) else if b = q then some (cAr c (fun j => (xs.take i ++ x :: xs.drop i)[j]?)) else gGet h q) ∧ h'.1 = h.1 ∧ h'.2.1 = h.2.1) := by
  have hrb : r ≠ b := by
    rintro rfl
    rw [hr] at hb
    cases hb
  have hxb : x ≠ b := by
    rintro rfl
    rw [hx] at hb
    cases hb
    exact absurd hcx (by simp only [cAr, gMay]; decide)
  refine wq_s f161_38 rfl rfl ?_
  refine wq_s f161_40 rfl rfl ?_
  refine wq_s f161_41 rfl rfl ?_
  refine wq_s f161_43 rfl rfl ?_
  refine wq_s f161_44 rfl rfl ?_
  refine wq_s f161_45 rfl rfl ?_
  refine wq_s f161_46 rfl rfl ?_
  refine wq_s f161_47 rfl rfl ?_
  refine wq_s f161_48 rfl rfl ?_
  have e1 : nI i + Int32.ofInt 1 = nI (i + 1) := nI_add _ 1
  rw [e1, pk_sub hi]
  refine wq_primS f161_49 (by decide) (prim_cpy (s := i) (t := i + 1) (k := xs.length - i) hb hb (by omega) (by omega) (by omega) (by omega) (by simp) (fun j hj => by
    have hj2 : i + j < xs.length := by omega
    show gObj h xs[i + j]? = true
    rw [List.getElem?_eq_getElem hj2]
    exact ho _ (List.getElem_mem hj2))) ?_
  refine wq_s f161_52 rfl rfl ?_
  refine wq_s f161_54 rfl rfl ?_
  refine wq_s f161_55 rfl rfl ?_
  have hb2 : gGet (gPut h b (cAr c (va_cpy (fun j => xs[j]?) (fun j => xs[j]?) i (i + 1) (xs.length - i)))) b = some (cAr c (va_cpy (fun j => xs[j]?) (fun j => xs[j]?) i (i + 1) (xs.length - i))) := gGet_self hb
  have hx2 : gGet (gPut h b (cAr c (va_cpy (fun j => xs[j]?) (fun j => xs[j]?) i (i + 1) (xs.length - i)))) x = some cx := by
    rw [gGet_ne (Ne.symm hxb)]
    exact hx
  have hk : ¬ (nI i < 0 ∨ c ≤ (nI i).toNatClampNeg) := nI_in (by omega) (by omega)
  refine wq_aastore f161_56 hb2 hx2 hk hcx ?_
  rw [nI_clamp (by omega)]
  refine wq_s f161_57 rfl rfl ?_
  refine wq_s f161_58 rfl rfl ?_
  refine wq_s f161_59 rfl rfl ?_
  refine wq_s f161_60 rfl rfl ?_
  have e2 : nI xs.length + Int32.ofInt 1 = nI (xs.length + 1) := nI_add _ 1
  rw [e2]
  have hr3 : gGet (gPut (gPut h b (cAr c (va_cpy (fun j => xs[j]?) (fun j => xs[j]?) i (i + 1) (xs.length - i)))) b (.inr (.inr (.object "java/lang/Object", c, va_up (va_cpy (fun j => xs[j]?) (fun j => xs[j]?) i (i + 1) (xs.length - i)) i (some x))))) r = some (cAL md (.ref b) xs.length) := by
    rw [gGet_ne (Ne.symm hrb), gGet_ne (Ne.symm hrb)]
    exact hr
  refine wq_putfield f161_61 hr3 (by simp) rfl ?_
  refine wq_vret f161_64 rfl ⟨rfl, fun q => ?_, rfl, rfl⟩
  rw [gGet_put ⟨_, hr3⟩]
  by_cases h1 : q = r
  · subst h1
    rw [if_pos rfl, if_pos rfl]
    rfl
  · rw [if_neg (fun w => h1 w.symm), if_neg h1, gGet_put ⟨_, hb2⟩]
    by_cases h2 : b = q
    · subst h2
      rw [if_pos rfl, if_pos rfl]
      unfold cAr
      congr 5
      funext j
      rw [get_ins hi]
      unfold va_up va_cpy
      by_cases h3 : j = i
      · rw [if_pos h3, if_pos h3]
      · rw [if_neg h3, if_neg h3]
        by_cases h4 : i < j
        · rw [if_pos h4]
          by_cases h5 : j < i + 1 + (xs.length - i)
          · rw [if_pos ⟨by omega, h5⟩]
            show xs[_]? = xs[_]?
            congr 1
            omega
          · rw [if_neg (by omega)]
            show xs[_]? = xs[_]?
            rw [List.getElem?_eq_none (by omega), List.getElem?_eq_none (by omega)]
        · rw [if_neg h4, if_neg (by omega)]
    · rw [if_neg h2, if_neg h2, gGet_ne h2]
theorem ll_ins {xs : List Nat} {cx : gC} (hr : gGet h r = some (cAL md e xs.length)) (hrow : lRow h e c xs) (hxc : xs.length ≤ c) (hc : c ≤ 40000) (hi : i ≤ xs.length) (hx : gGet h x = some cx) (hcx : gMay (.object "java/lang/Object") cx = true) (ho : ∀ q, q ∈ xs → gObj h (some q) = true) :
    Wm sc 5 161 [.ref r, .int (nI i), .ref x] h (fun o h' => o = .inl none ∧ lRes h h' r e (if xs.length < c then c else gw c) (xs.take i ++ x :: xs.drop i) (if xs.length < c then 0 else 1) (if xs.length < c then 0 else gw c)) := by
  show Wq sc 5 161 0 [some (.ref r), some (.int (nI i)), some (.ref x), none, none] [] h _
  have hrl := gGet_lt hr
  have hxl := gGet_lt hx
  have hxr : x ≠ r := by
    rintro rfl
    rw [hr] at hx
    cases hx
    exact absurd hcx (by simp only [cAL, gMay]; decide)
  have hln : (xs.take i ++ x :: xs.drop i).length = xs.length + 1 := by simp; omega
  refine wq_s f161_0 rfl rfl ?_
  refine wq_s f161_1 rfl rfl ?_
  refine wq_invV f161_2 (by decide) (by simp) (by simp) (by decide +kernel) (gRecv_of hr (by decide +kernel)) (ll_rc hr hi (by omega)) (by omega) (fun o h9 hq => ?_)
  obtain ⟨rfl, rfl⟩ := hq
  refine wq_s f161_5 rfl rfl ?_
  refine wq_s f161_6 rfl rfl ?_
  refine wq_getfield f161_7 hr rfl ?_
  refine wq_s f161_10 rfl rfl ?_
  refine wq_s f161_11 rfl rfl ?_
  refine wq_putfield f161_12 hr (by simp) rfl ?_
  have hr2 : gGet (gPut h9 r (cAL (md + Int32.ofInt 1) e xs.length)) r = some (cAL (md + Int32.ofInt 1) e xs.length) := gGet_self hr
  have hrow2 : lRow (gPut h9 r (cAL (md + Int32.ofInt 1) e xs.length)) e c xs := by
    rcases hrow with h1 | ⟨hc10, b, rfl, hb⟩
    · exact .inl h1
    · refine .inr ⟨hc10, b, rfl, ?_⟩
      rw [gGet_ne (by
        rintro rfl
        rw [hr] at hb
        cases hb)]
      exact hb
  have hx2 : gGet (gPut h9 r (cAL (md + Int32.ofInt 1) e xs.length)) x = some cx := by
    rw [gGet_ne (Ne.symm hxr)]
    exact hx
  have ho2 : ∀ q, q ∈ xs → gObj (gPut h9 r (cAL (md + Int32.ofInt 1) e xs.length)) (some q) = true := by
    intro q hq
    have := ho q hq
    unfold gObj at this ⊢
    simp only at this ⊢
    rw [gGet_put ⟨_, hr⟩]
    by_cases hrq : r = q
    · rw [if_pos hrq]
      rfl
    · rw [if_neg hrq]
      exact this
  refine wq_s f161_15 rfl rfl ?_
  refine wq_getfield (h := gPut h9 r (cAL (md + Int32.ofInt 1) e xs.length)) f161_16 hr2 rfl ?_
  refine wq_s f161_19 rfl rfl ?_
  refine wq_st3 f161_20 rfl (fun _ => rfl) ?_
  refine wq_s f161_21 rfl rfl ?_
  refine wq_getfield (h := gPut h9 r (cAL (md + Int32.ofInt 1) e xs.length)) f161_22 hr2 rfl ?_
  by_cases hf : xs.length < c
  · rw [if_pos hf, if_pos hf, if_pos hf]
    rcases hrow with ⟨rfl, rfl, rfl⟩ | ⟨hc10, b, rfl, hb⟩
    · exact absurd hf (Nat.not_lt_zero _)
    · refine wq_s f161_25 rfl rfl ?_
      refine wq_st4 f161_26 rfl (fun _ => rfl) ?_
      rcases hrow2 with ⟨h0, -⟩ | ⟨-, b2, hb2, hb3⟩
      · cases h0
      · cases hb2
        refine wq_alenO f161_28 hb3 ?_
        refine wq_ict f161_29 (by simp only [gTest]; exact decide_eq_true (fun w => by
          have := (nI_eq (by omega) (by omega)).mp (show nI xs.length = nI c from w)
          omega)) ?_
        refine (ll_insT hr2 hb3 hf (by omega) hi hx2 hcx ho2).up (Nat.le_refl _) (fun o h' hq => ?_)
        obtain ⟨rfl, hq, h3, h4⟩ := hq
        refine ⟨rfl, md + Int32.ofInt 1, .ref b, .inl rfl, by omega, .inr ⟨hc10, b, rfl⟩, fun q => ?_, h3, h4⟩
        rw [hq, hln]
        by_cases h1 : q = r
        · rw [if_pos h1, if_pos h1]
        · rw [if_neg h1, if_neg h1, gGet_ne (fun w => h1 w.symm)]
          by_cases h2 : b = q
          · rw [if_pos h2, if_pos (by rw [h2])]
          · rw [if_neg h2, if_neg (fun w => h2 (by cases w; rfl))]
  · have hxe : xs.length = c := by omega
    rw [if_neg hf, if_neg hf, if_neg hf]
    have hgw : 10 ≤ gw c ∧ c < gw c ∧ gw c ≤ 60000 := by
      rcases hrow with ⟨rfl, rfl, rfl⟩ | ⟨hc10, b, rfl, hb⟩
      · decide
      · unfold gw
        rw [if_neg (by omega)]
        omega
    have hgo : ∀ x4, Wq sc 5 161 32 [some (.ref r), some (.int (nI i)), some (.ref x), some (.int (nI xs.length)), x4] [] (gPut h9 r (cAL (md + Int32.ofInt 1) e xs.length)) (fun o h' => o = .inl none ∧ lRes h9 h' r e (gw c) (xs.take i ++ x :: xs.drop i) 1 (gw c)) := by
      intro x4
      refine wq_s f161_32 rfl rfl ?_
      refine wq_invV (h := gPut h9 r (cAL (md + Int32.ofInt 1) e xs.length)) f161_33 (by decide) (by simp) (by simp) (by decide +kernel) (gRecv_of hr2 (by decide +kernel)) (ll_grow0 hr2 hrow2 hxe hc ho2) (by omega) (fun o h8 hq => ?_)
      obtain ⟨rfl, hg, hc1, hs1⟩ := hq
      rw [gPut_len] at hg
      rw [gPut_len]
      have hr3 : gGet h8 r = some (cAL (md + Int32.ofInt 1) (.ref h9.2.2.length) xs.length) := by rw [hg, if_pos rfl]
      have hb3 : gGet h8 h9.2.2.length = some (cAr (gw c) (fun j => xs[j]?)) := by rw [hg, if_neg (by omega), if_pos rfl]
      have hx3 : gGet h8 x = some cx := by
        rw [hg, if_neg hxr, if_neg (by omega)]
        exact hx2
      have ho3 : ∀ q, q ∈ xs → gObj h8 (some q) = true := by
        intro q hq
        have h7 := ho2 q hq
        obtain ⟨z, hz⟩ := gObj_ref h7
        have hql := gGet_lt hz
        rw [gPut_len] at hql
        unfold gObj
        simp only
        rw [hg]
        by_cases hrq : q = r
        · rw [if_pos hrq]
          rfl
        · rw [if_neg hrq, if_neg (by omega), hz]
      refine wq_st4 f161_36 rfl (fun _ => rfl) ?_
      refine (ll_insT hr3 hb3 (by omega) (by omega) hi hx3 hcx ho3).up (Nat.le_refl _) (fun o h' hq => ?_)
      obtain ⟨rfl, hq, h3, h4⟩ := hq
      refine ⟨rfl, md + Int32.ofInt 1, .ref h9.2.2.length, .inr rfl, by omega, .inr ⟨hgw.1, _, rfl⟩, fun q => ?_, h3.trans hc1, h4.trans hs1⟩
      rw [hq, hln]
      by_cases h1 : q = r
      · rw [if_pos h1, if_pos h1]
      · rw [if_neg h1, if_neg h1]
        by_cases h2 : h9.2.2.length = q
        · rw [if_pos h2, if_pos (by rw [h2])]
        · rw [if_neg h2, if_neg (fun w => h2 (by cases w; rfl)), hg, if_neg h1, if_neg (fun w => h2 w.symm), gGet_ne (fun w => h1 w.symm)]
    rcases hrow2 with ⟨rfl, rfl, rfl⟩ | ⟨hc10, b, rfl, hb⟩
    · refine wq_s f161_25 rfl rfl ?_
      refine wq_st4 f161_26 rfl (fun _ => rfl) ?_
      refine wq_s f161_28 rfl rfl ?_
      exact wq_icf f161_29 (by decide) (hgo _)
    · refine wq_s f161_25 rfl rfl ?_
      refine wq_st4 f161_26 rfl (fun _ => rfl) ?_
      refine wq_alenO f161_28 hb ?_
      refine wq_icf f161_29 (by simp only [gTest]; exact decide_eq_false (fun w => w (show nI xs.length = nI c by rw [hxe]))) ?_
      exact hgo _
theorem ll_fr {xs : List Nat} (hr : gGet h r = some (cAL md (.ref b) xs.length)) (hb : gGet h b = some (cAr c (fun j => xs[j]?))) (hxc : xs.length ≤ c) (hc : c ≤ 60000) (hi : i < xs.length) (ho : ∀ q, q ∈ xs → gObj h (some q) = true) :
    Wm sc 0 166 [.ref r, .ref b, .int (nI i)] h (fun o h' => o = .inl none ∧ (∀ q, gGet h' q = if q = r then some (cAL (md + Int32.ofInt 1) (.ref b) (xs.length - 1)) else if b = q then some (cAr c (fun j => (xs.eraseIdx i)[j]?)) else gGet h q) ∧ h'.1 = h.1 ∧ h'.2.1 = h.2.1) := by
  show Wq sc 0 166 0 [some (.ref r), some (.ref b), some (.int (nI i)), none] [] h _
  have hrb : r ≠ b := by
    rintro rfl
    rw [hr] at hb
    cases hb
  refine wq_s f166_0 rfl rfl ?_
  refine wq_s f166_1 rfl rfl ?_
  refine wq_getfield f166_2 hr rfl ?_
  refine wq_s f166_5 rfl rfl ?_
  refine wq_s f166_6 rfl rfl ?_
  refine wq_putfield f166_7 hr (by simp) rfl ?_
  have hr2 : gGet (gPut h r (cAL (md + Int32.ofInt 1) (.ref b) xs.length)) r = some (cAL (md + Int32.ofInt 1) (.ref b) xs.length) := gGet_self hr
  have hb2 : gGet (gPut h r (cAL (md + Int32.ofInt 1) (.ref b) xs.length)) b = some (cAr c (fun j => xs[j]?)) := by
    rw [gGet_ne hrb]
    exact hb
  refine wq_s f166_10 rfl rfl ?_
  refine wq_getfield (h := gPut h r (cAL (md + Int32.ofInt 1) (.ref b) xs.length)) f166_11 hr2 rfl ?_
  refine wq_s f166_14 rfl rfl ?_
  refine wq_s f166_15 rfl rfl ?_
  have e1 : nI xs.length - Int32.ofInt 1 = nI (xs.length - 1) := pk_sub (b := 1) (by omega)
  rw [e1]
  refine wq_s f166_16 rfl rfl ?_
  refine wq_st3 f166_17 rfl (fun _ => rfl) ?_
  refine wq_s f166_18 rfl rfl ?_
  have tail : ∀ (h2 : gH) (g : Nat → Option Nat), gGet h2 r = some (cAL (md + Int32.ofInt 1) (.ref b) xs.length) → gGet h2 b = some (cAr c g) → (∀ q, q ≠ r → q ≠ b → gGet h2 q = gGet h q) → (∀ j, va_up g (xs.length - 1) none j = (xs.eraseIdx i)[j]?) → h2.1 = h.1 → h2.2.1 = h.2.1 →
      Wq sc 0 166 34 [some (.ref r), some (.ref b), some (.int (nI i)), some (.int (nI (xs.length - 1)))] [] h2 (fun o h' => o = .inl none ∧ (∀ q, gGet h' q = if q = r then some (cAL (md + Int32.ofInt 1) (.ref b) (xs.length - 1)) else if b = q then some (cAr c (fun j => (xs.eraseIdx i)[j]?)) else gGet h q) ∧ h'.1 = h.1 ∧ h'.2.1 = h.2.1) := by
    intro h2 g g1 g2 g3 g4 g5 g6
    refine wq_s f166_34 rfl rfl ?_
    refine wq_s f166_35 rfl rfl ?_
    refine wq_s f166_36 rfl rfl ?_
    refine wq_s f166_37 rfl rfl ?_
    refine wq_putfield f166_38 g1 (by simp) rfl ?_
    refine wq_s f166_41 rfl rfl ?_
    have g7 : gGet (gPut h2 r (cAL (md + Int32.ofInt 1) (.ref b) (xs.length - 1))) b = some (cAr c g) := by
      rw [gGet_ne hrb]
      exact g2
    have hk : ¬ (nI (xs.length - 1) < 0 ∨ c ≤ (nI (xs.length - 1)).toNatClampNeg) := nI_in (by omega) (by omega)
    refine wq_aastoreN (h := gPut h2 r (cAL (md + Int32.ofInt 1) (.ref b) (xs.length - 1))) f166_42 g7 hk ?_
    rw [nI_clamp (by omega)]
    refine wq_vret f166_43 rfl ⟨rfl, fun q => ?_, g5, g6⟩
    rw [gGet_put ⟨_, g7⟩, gGet_put ⟨_, g1⟩]
    by_cases h1 : q = r
    · subst h1
      rw [if_neg (Ne.symm hrb), if_pos rfl, if_pos rfl]
    · rw [if_neg h1]
      by_cases h2 : b = q
      · rw [if_pos h2, if_pos h2]
        unfold cAr
        congr 5
        funext j
        exact g4 j
      · rw [if_neg h2, if_neg h2, if_neg (fun w => h1 w.symm)]
        exact g3 q h1 (fun w => h2 w.symm)
  by_cases hl : i < xs.length - 1
  · refine wq_icf f166_19 (by simp only [gTest]; exact decide_eq_false (nI_ge hl (by omega))) ?_
    refine wq_s f166_22 rfl rfl ?_
    refine wq_s f166_23 rfl rfl ?_
    refine wq_s f166_24 rfl rfl ?_
    refine wq_s f166_25 rfl rfl ?_
    refine wq_s f166_26 rfl rfl ?_
    refine wq_s f166_27 rfl rfl ?_
    refine wq_s f166_28 rfl rfl ?_
    refine wq_s f166_29 rfl rfl ?_
    refine wq_s f166_30 rfl rfl ?_
    have e2 : nI i + Int32.ofInt 1 = nI (i + 1) := nI_add _ 1
    rw [e2, pk_sub (by omega)]
    refine wq_primS (h := gPut h r (cAL (md + Int32.ofInt 1) (.ref b) xs.length)) f166_31 (by decide) (prim_cpy (s := i + 1) (t := i) (k := xs.length - 1 - i) hb2 hb2 (by omega) (by omega) (by omega) (by omega) (by simp) (fun j hj => by
      have hj2 : i + 1 + j < xs.length := by omega
      show gObj _ xs[i + 1 + j]? = true
      rw [List.getElem?_eq_getElem hj2]
      obtain ⟨z, hz⟩ := gObj_ref (ho _ (List.getElem_mem hj2))
      unfold gObj
      simp only
      rw [gGet_put ⟨_, hr⟩]
      by_cases hrq : r = xs[i + 1 + j]
      · rw [if_pos hrq]
        rfl
      · rw [if_neg hrq, hz])) ?_
    refine tail _ (va_cpy (fun j => xs[j]?) (fun j => xs[j]?) (i + 1) i (xs.length - 1 - i)) ?_ (gGet_self hb2) (fun q w1 w2 => ?_) (fun j => ?_) rfl rfl
    · rw [gGet_ne (Ne.symm hrb)]
      exact hr2
    · rw [gGet_ne (Ne.symm w2), gGet_ne (Ne.symm w1)]
    · rw [List.getElem?_eraseIdx]
      unfold va_up va_cpy
      by_cases h3 : j = xs.length - 1
      · rw [if_pos h3, if_neg (by omega)]
        exact (List.getElem?_eq_none (by omega)).symm
      · rw [if_neg h3]
        by_cases h4 : i ≤ j ∧ j < i + (xs.length - 1 - i)
        · rw [if_pos h4, if_neg (by omega)]
          show xs[_]? = xs[_]?
          congr 1
          omega
        · rw [if_neg h4]
          by_cases h5 : j < i
          · rw [if_pos h5]
          · rw [if_neg h5]
            show xs[_]? = xs[_]?
            rw [List.getElem?_eq_none (by omega), List.getElem?_eq_none (by omega)]
  · refine wq_ict f166_19 (by simp only [gTest]; exact decide_eq_true (nI_le (by omega) (by omega))) ?_
    refine tail _ (fun j => xs[j]?) hr2 hb2 (fun q w1 w2 => gGet_ne (Ne.symm w1)) (fun j => ?_) rfl rfl
    rw [List.getElem?_eraseIdx]
    unfold va_up
    by_cases h3 : j = xs.length - 1
    · rw [if_pos h3, if_neg (by omega)]
      exact (List.getElem?_eq_none (by omega)).symm
    · rw [if_neg h3]
      by_cases h5 : j < i
      · rw [if_pos h5]
      · rw [if_neg h5]
        show xs[_]? = xs[_]?
        rw [List.getElem?_eq_none (by omega), List.getElem?_eq_none (by omega)]
theorem ll_rem {xs : List Nat} (hr : gGet h r = some (cAL md e xs.length)) (hrow : lRow h e c xs) (hxc : xs.length ≤ c) (hc : c ≤ 60000) (hx : xs[i]? = some x) (ho : ∀ q, q ∈ xs → gObj h (some q) = true) :
    Wm sc 2 172 [.ref r, .int (nI i)] h (fun o h' => o = .inl (some (.ref x)) ∧ lRes h h' r e c (xs.eraseIdx i) 0 0) := by
  show Wq sc 2 172 0 [some (.ref r), some (.int (nI i)), none, none] [] h _
  have hi := (List.getElem?_eq_some_iff.mp hx).1
  rcases hrow with ⟨rfl, rfl, rfl⟩ | ⟨hc10, b, rfl, hb⟩
  · exact absurd hi (Nat.not_lt_zero _)
  · refine wq_s f172_0 rfl rfl ?_
    refine wq_s f172_1 rfl rfl ?_
    refine wq_getfield f172_2 hr rfl ?_
    refine wq_valS f172_5 (by decide) (by simp) (by simp) (by decide +kernel) (ll_chk hi (by omega)) (Nat.le_refl _) ?_
    refine wq_s f172_8 rfl rfl ?_
    refine wq_s f172_9 rfl rfl ?_
    refine wq_getfield f172_10 hr rfl ?_
    refine wq_st2 f172_13 rfl (fun _ => rfl) ?_
    refine wq_s f172_14 rfl rfl ?_
    refine wq_s f172_15 rfl rfl ?_
    refine wq_aaload f172_16 hb rfl (nI_in (by omega) (by omega)) ?_
    rw [nI_clamp (by omega), hx]
    refine wq_st3 f172_17 rfl (fun _ => rfl) ?_
    refine wq_s f172_18 rfl rfl ?_
    refine wq_s f172_19 rfl rfl ?_
    refine wq_s f172_20 rfl rfl ?_
    refine wq_invV f172_21 (by decide) (by simp) (by simp) (by decide +kernel) (gRecv_of hr (by decide +kernel)) (ll_fr hr hb hxc hc hi ho) (by omega) (fun o h9 hq => ?_)
    obtain ⟨rfl, hq, h3, h4⟩ := hq
    refine wq_s f172_24 rfl rfl ?_
    have hel : (xs.eraseIdx i).length = xs.length - 1 := List.length_eraseIdx_of_lt hi
    refine wq_aret f172_25 rfl ⟨rfl, md + Int32.ofInt 1, .ref b, .inl rfl, by omega, .inr ⟨hc10, b, rfl⟩, fun q => ?_, h3, h4⟩
    rw [hq, hel]
    by_cases h1 : q = r
    · rw [if_pos h1, if_pos h1]
    · rw [if_neg h1, if_neg h1]
      by_cases h2 : b = q
      · rw [if_pos h2, if_pos (by rw [h2])]
      · rw [if_neg h2, if_neg (fun w => h2 (by cases w; rfl))]
theorem ll_clrL {n : Nat} {md : Int32} (hc : c ≤ 60000) (hnc : n ≤ c) : ∀ (k i : Nat) (h : gH) (f : Nat → Option Nat), i + k = n → gGet h r = some (cAL md (.ref b) 0) → gGet h b = some (cAr c f) → (∀ j, f j = none ∨ (i ≤ j ∧ j < n)) →
    Wq sc d 164 27 [some (.ref r), some (.ref b), some (.int (nI n)), some (.int (nI i))] [] h (fun o h' => o = .inl none ∧ (∀ q, gGet h' q = if b = q then some (cAr c (fun _ => none)) else gGet h q) ∧ h'.1 = h.1 ∧ h'.2.1 = h.2.1)
  | 0, i, h, f, hik, hr, hb, hf => by
    refine wq_s f164_27 rfl rfl ?_
    refine wq_s f164_28 rfl rfl ?_
    refine wq_ict f164_29 (by simp only [gTest]; exact decide_eq_true (nI_le (by omega) (by omega))) ?_
    refine wq_vret f164_42 rfl ⟨rfl, fun q => ?_, rfl, rfl⟩
    by_cases h2 : b = q
    · subst h2
      rw [if_pos rfl, hb]
      congr 2
      funext j
      rcases hf j with h3 | h3
      · exact h3
      · omega
    · rw [if_neg h2]
  | k + 1, i, h, f, hik, hr, hb, hf => by
    refine wq_s f164_27 rfl rfl ?_
    refine wq_s f164_28 rfl rfl ?_
    refine wq_icf f164_29 (by simp only [gTest]; exact decide_eq_false (nI_ge (by omega) (by omega))) ?_
    refine wq_s f164_32 rfl rfl ?_
    refine wq_s f164_33 rfl rfl ?_
    refine wq_s f164_34 rfl rfl ?_
    have hk : ¬ (nI i < 0 ∨ c ≤ (nI i).toNatClampNeg) := nI_in (by omega) (by omega)
    refine wq_aastoreN f164_35 hb hk ?_
    rw [nI_clamp (by omega)]
    refine wq_s f164_36 rfl rfl ?_
    have e2 : nI i + Int32.ofInt 1 = nI (i + 1) := nI_add _ 1
    rw [e2]
    refine wq_s (pc' := 27) f164_39 rfl rfl ?_
    have hrb : r ≠ b := by
      rintro rfl
      rw [hr] at hb
      cases hb
    refine (ll_clrL hc hnc k (i + 1) (gPut h b (cAr c (va_up f i none))) (va_up f i none) (by omega) (by rw [gGet_ne (Ne.symm hrb)]; exact hr) (gGet_self hb) (fun j => ?_)).up (Nat.le_refl _) (fun o h' hq => ?_)
    · unfold va_up
      by_cases h3 : j = i
      · rw [if_pos h3]
        exact .inl rfl
      · rw [if_neg h3]
        rcases hf j with h4 | h4
        · exact .inl h4
        · exact .inr (by omega)
    · obtain ⟨rfl, hq, h3, h4⟩ := hq
      refine ⟨rfl, fun q => ?_, h3, h4⟩
      rw [hq]
      by_cases h2 : b = q
      · rw [if_pos h2, if_pos h2]
      · rw [if_neg h2, if_neg h2, gGet_ne h2]
theorem ll_clear {xs : List Nat} (hr : gGet h r = some (cAL md e xs.length)) (hrow : lRow h e c xs) (hxc : xs.length ≤ c) (hc : c ≤ 60000) :
    Wm sc 0 164 [.ref r] h (fun o h' => o = .inl none ∧ lRes h h' r e c [] 0 0) := by
  show Wq sc 0 164 0 [some (.ref r), none, none, none] [] h _
  have hr2 : gGet (gPut h r (cAL (md + Int32.ofInt 1) e xs.length)) r = some (cAL (md + Int32.ofInt 1) e xs.length) := gGet_self hr
  refine wq_s f164_0 rfl rfl ?_
  refine wq_s f164_1 rfl rfl ?_
  refine wq_getfield f164_2 hr rfl ?_
  refine wq_s f164_5 rfl rfl ?_
  refine wq_s f164_6 rfl rfl ?_
  refine wq_putfield f164_7 hr (by simp) rfl ?_
  refine wq_s f164_10 rfl rfl ?_
  refine wq_getfield (h := gPut h r (cAL (md + Int32.ofInt 1) e xs.length)) f164_11 hr2 rfl ?_
  have go : ∀ e1 : Value, e1 = e → Wq sc 0 164 20 [some (.ref r), some e1, some (.int (nI xs.length)), none] [] (gPut h r (cAL (md + Int32.ofInt 1) e xs.length)) (fun o h' => o = .inl none ∧ lRes h h' r e c [] 0 0) := by
    rintro e1 rfl
    refine wq_s f164_20 rfl rfl ?_
    refine wq_s f164_21 rfl rfl ?_
    refine wq_s f164_22 rfl rfl ?_
    refine wq_putfield (h := gPut h r (cAL (md + Int32.ofInt 1) e1 xs.length)) f164_23 hr2 (by simp) rfl ?_
    have hr3 : gGet (gPut (gPut h r (cAL (md + Int32.ofInt 1) e1 xs.length)) r (cAL (md + Int32.ofInt 1) e1 0)) r = some (cAL (md + Int32.ofInt 1) e1 0) := gGet_self hr2
    refine wq_st3 f164_26 rfl (fun _ => rfl) ?_
    have hother : ∀ q, q ≠ r → gGet (gPut (gPut h r (cAL (md + Int32.ofInt 1) e1 xs.length)) r (cAL (md + Int32.ofInt 1) e1 0)) q = gGet h q := by
      intro q hq
      rw [gGet_ne (Ne.symm hq), gGet_ne (Ne.symm hq)]
    rcases hrow with ⟨rfl, rfl, rfl⟩ | ⟨hc10, b, rfl, hb⟩
    · refine wq_s f164_27 rfl rfl ?_
      refine wq_s f164_28 rfl rfl ?_
      refine wq_ict f164_29 (by decide) ?_
      refine wq_vret f164_42 rfl ⟨rfl, md + Int32.ofInt 1, .retAddr 2, .inl rfl, by simp, .inl ⟨rfl, rfl, rfl⟩, fun q => ?_, rfl, rfl⟩
      by_cases h1 : q = r
      · rw [if_pos h1, h1]
        exact hr3
      · rw [if_neg h1, if_neg (fun w => by cases w)]
        exact hother q h1
    · have hrb : r ≠ b := by
        rintro rfl
        rw [hr] at hb
        cases hb
      refine (ll_clrL (n := xs.length) hc hxc xs.length 0 _ (fun j => xs[j]?) (by omega) hr3 (by rw [hother b (Ne.symm hrb)]; exact hb) (fun j => ?_)).up (Nat.le_refl _) (fun o h' hq => ?_)
      · by_cases hj : j < xs.length
        · exact .inr ⟨Nat.zero_le _, hj⟩
        · exact .inl (List.getElem?_eq_none (by omega))
      · obtain ⟨rfl, hq, h3, h4⟩ := hq
        refine ⟨rfl, md + Int32.ofInt 1, .ref b, .inl rfl, by simp, .inr ⟨hc10, b, rfl⟩, fun q => ?_, h3, h4⟩
        rw [hq]
        by_cases h1 : q = r
        · subst h1
          rw [if_neg (Ne.symm hrb), if_pos rfl, hr3]
          rfl
        · rw [if_neg h1]
          by_cases h2 : b = q
          · rw [if_pos h2, if_pos (by rw [h2])]
            rfl
          · rw [if_neg h2, if_neg (fun w => h2 (by cases w; rfl)), hother q h1]
  rcases hrow with ⟨rfl, rfl, rfl⟩ | ⟨hc10, b, rfl, hb⟩
  · refine wq_st1 f164_14 rfl (fun _ => rfl) ?_
    refine wq_s f164_15 rfl rfl ?_
    refine wq_getfield (h := gPut h r (cAL (md + Int32.ofInt 1) (.retAddr 2) ([] : List Nat).length)) f164_16 hr2 rfl ?_
    refine wq_st2 f164_19 rfl (fun _ => rfl) ?_
    exact go _ rfl
  · refine wq_st1 f164_14 rfl (fun _ => rfl) ?_
    refine wq_s f164_15 rfl rfl ?_
    refine wq_getfield (h := gPut h r (cAL (md + Int32.ofInt 1) (.ref b) xs.length)) f164_16 hr2 rfl ?_
    refine wq_st2 f164_19 rfl (fun _ => rfl) ?_
    exact go _ rfl
/-- the new list, ahead of its constructor -/
def cAL0 : gC := .inl (0, (List.range (gN 0)).map (fun k => gZ (gTy 0 k)))
theorem ll_init (hr : gGet h r = some cAL0) : Wm sc 2 160 [.ref r] h (fun o h' => o = .inl none ∧ lRes h h' r (.retAddr 2) 0 [] 0 0) := by
  show Wq sc 2 160 0 [some (.ref r)] [] h _
  have e0 : cAL0 = cAL 0 .null 0 := rfl
  rw [e0] at hr
  have c158 : Wm sc 0 158 [.ref r] h (fun o h' => o = .inl none ∧ h' = h) := by
    show Wq sc 0 158 0 [some (.ref r)] [] h _
    refine wq_s f158_0 rfl rfl ?_
    refine wq_primI f158_1 (by decide) (st' := []) (h' := h) rfl ?_
    exact wq_vret f158_4 rfl ⟨rfl, rfl⟩
  have c159 : Wm sc 1 159 [.ref r] h (fun o h' => o = .inl none ∧ h' = gPut h r (cAL 0 .null 0)) := by
    show Wq sc 1 159 0 [some (.ref r)] [] h _
    refine wq_s f159_0 rfl rfl ?_
    refine wq_invI f159_1 (by decide) (by simp) (by simp) (by decide +kernel) rfl c158 (by omega) (fun o h9 hq => ?_)
    obtain ⟨rfl, rfl⟩ := hq
    refine wq_s f159_4 rfl rfl ?_
    refine wq_s f159_5 rfl rfl ?_
    refine wq_putfield f159_6 hr (by simp) rfl ?_
    exact wq_vret f159_9 rfl ⟨rfl, rfl⟩
  refine wq_s f160_0 rfl rfl ?_
  refine wq_invI f160_1 (by decide) (by simp) (by simp) (by decide +kernel) rfl c159 (by omega) (fun o h9 hq => ?_)
  obtain ⟨rfl, rfl⟩ := hq
  refine wq_s f160_4 rfl rfl ?_
  refine wq_s f160_5 rfl rfl ?_
  have hr2 : gGet (gPut h r (cAL 0 .null 0)) r = some (cAL 0 .null 0) := gGet_self hr
  refine wq_putfield (h := gPut h r (cAL 0 .null 0)) f160_8 hr2 (by simp) rfl ?_
  refine wq_vret f160_11 rfl ⟨rfl, 0, .retAddr 2, .inl rfl, by simp, .inl ⟨rfl, rfl, rfl⟩, fun q => ?_, rfl, rfl⟩
  rw [gGet_put ⟨_, hr2⟩]
  by_cases h1 : q = r
  · rw [if_pos h1, if_pos h1.symm]
    rfl
  · rw [if_neg h1, if_neg (fun w => h1 w.symm), if_neg (fun w => by cases w), gGet_ne (fun w => h1 w.symm)]
end LL
