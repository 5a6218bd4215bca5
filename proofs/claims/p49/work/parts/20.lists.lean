/-! THE ROWS OF THE HEAP, and what ArrayList's methods come to -/
theorem gGet_put {h : gH} {a b : Nat} {x : gC} (ha : ∃ y, gGet h a = some y) : gGet (gPut h a x) b = if a = b then some x else gGet h b := by
  obtain ⟨y, hy⟩ := ha
  have hl := (List.getElem?_eq_some_iff.mp hy).1
  unfold gGet gPut
  simp only [List.getElem?_set]
  by_cases hab : a = b
  · subst hab
    simp [hl]
  · simp [hab]
theorem gGet_self {h : gH} {a : Nat} {x y : gC} (ha : gGet h a = some y) : gGet (gPut h a x) a = some x := by rw [gGet_put ⟨y, ha⟩, if_pos rfl]
theorem gGet_ne {h : gH} {a b : Nat} {x : gC} (hab : a ≠ b) : gGet (gPut h a x) b = gGet h b := by
  unfold gGet gPut
  simp only [List.getElem?_set, if_neg hab]
theorem gGet_new {h : gH} {n b : Nat} {x : gC} : gGet (gNew h n x) b = if b = h.2.2.length then some x else gGet h b := by
  unfold gGet gNew
  by_cases hb : b < h.2.2.length
  · rw [if_neg (by omega), List.getElem?_append_left hb]
  · by_cases hb2 : b = h.2.2.length
    · rw [if_pos hb2, List.getElem?_append_right (by omega), hb2]
      simp
    · rw [if_neg hb2, List.getElem?_eq_none (by simp; omega), List.getElem?_eq_none (by omega)]
theorem gGet_lt {h : gH} {a : Nat} {y : gC} (ha : gGet h a = some y) : a < h.2.2.length := (List.getElem?_eq_some_iff.mp ha).1
theorem gPut_len (h : gH) (a : Nat) (x : gC) : (gPut h a x).2.2.length = h.2.2.length := by simp [gPut]
theorem gNew_len (h : gH) (n : Nat) (x : gC) : (gNew h n x).2.2.length = h.2.2.length + 1 := by simp [gNew]
section WH
variable {sc : gSc} {d m pc : Nat} {ls : gL} {st : List Value} {h : gH} {Q : gO → gH → Prop} {a b len i ci k r : Nat} {fs : List Value} {v : Value}
theorem wq_getfield (hf : gFetch m pc = some (.getfield i, len, ci, k)) (hg : gGet h r = some (.inl (ci, fs))) (hv : fs[k]? = some v) (hn : Wq sc d m (pc + 3) ls (v :: st) h Q) : Wq sc d m pc ls (.ref r :: st) h Q :=
  wq_s hf rfl (by simp only [gStep, hg, hv, if_true]) hn
theorem wq_putfield (hf : gFetch m pc = some (.putfield i, len, ci, k)) (hg : gGet h r = some (.inl (ci, fs))) (hk : k < fs.length) (hv : gFit (gTy ci k) v = true) (hn : Wq sc d m (pc + 3) ls st (gPut h r (.inl (ci, fs.set k v))) Q) : Wq sc d m pc ls (v :: .ref r :: st) h Q :=
  wq_s hf rfl (by simp only [gStep, hg, hk, hv, and_self, if_true]) hn
theorem wq_alenO {ty : FieldType} {n : Nat} {f : Nat → Option Nat} (hf : gFetch m pc = some (.arraylength, len, a, b)) (hg : gGet h r = some (.inr (.inr (ty, n, f)))) (hn : Wq sc d m (pc + 1) ls (.int (Int32.ofNat n) :: st) h Q) : Wq sc d m pc ls (.ref r :: st) h Q :=
  wq_s hf rfl (by simp only [gStep, hg]) hn
theorem wq_aaload {ty : FieldType} {n : Nat} {f : Nat → Option Nat} {x : Int32} (hf : gFetch m pc = some (.aaload, len, a, b)) (hg : gGet h r = some (.inr (.inr (ty, n, f)))) (ht : gRefTy ty = true) (hx : ¬ (x < 0 ∨ n ≤ x.toNatClampNeg)) (hn : Wq sc d m (pc + 1) ls (va_rf (f x.toNatClampNeg) :: st) h Q) : Wq sc d m pc ls (.int x :: .ref r :: st) h Q :=
  wq_s hf rfl (by simp only [gStep, hg, ht, hx, and_self, if_true, not_false_eq_true]) hn
theorem wq_aastore {ty : FieldType} {n y : Nat} {f : Nat → Option Nat} {x : Int32} {c9 : gC} (hf : gFetch m pc = some (.aastore, len, a, b)) (hg : gGet h r = some (.inr (.inr (ty, n, f)))) (hy : gGet h y = some c9) (hx : ¬ (x < 0 ∨ n ≤ x.toNatClampNeg)) (hm : gMay ty c9 = true) (hn : Wq sc d m (pc + 1) ls st (gPut h r (.inr (.inr (ty, n, va_up f x.toNatClampNeg (some y))))) Q) : Wq sc d m pc ls (.ref y :: .int x :: .ref r :: st) h Q :=
  wq_s hf rfl (by simp only [gStep, hg, hy, hx, hm, and_self, if_true, not_false_eq_true]) hn
theorem wq_aastoreN {n : Nat} {f : Nat → Option Nat} {x : Int32} (hf : gFetch m pc = some (.aastore, len, a, b)) (hg : gGet h r = some (.inr (.inr (.object "java/lang/Object", n, f)))) (hx : ¬ (x < 0 ∨ n ≤ x.toNatClampNeg)) (hn : Wq sc d m (pc + 1) ls st (gPut h r (.inr (.inr (.object "java/lang/Object", n, va_up f x.toNatClampNeg none)))) Q) : Wq sc d m pc ls (.null :: .int x :: .ref r :: st) h Q :=
  wq_s hf rfl (by simp only [gStep, hg, hx, and_self, if_true, not_false_eq_true]) hn
theorem wq_anew {x : Int32} (hf : gFetch m pc = some (.anewarray i, len, a, b)) (ha : ¬ 2 < a) (h0 : ¬ x < 0) (h1 : ¬ 100000 < x.toNatClampNeg) (hn : Wq sc d m (pc + 3) ls (.ref h.2.2.length :: st) (gNew h x.toNatClampNeg (.inr (.inr (gComp a, x.toNatClampNeg, fun _ => none)))) Q) : Wq sc d m pc ls (.int x :: st) h Q :=
  wq_s hf rfl (by simp only [gStep, h0, h1, ha, or_self, if_false]) hn
/-- a call of a static method that gives a value and leaves the heap -/
theorem wq_valS {dc : Nat} {v : Value} {h' : gH} (hf : gFetch m pc = some (.invokestatic i, len, a, b)) (ha : a < 900) (hb : b ≤ st.length) (h8 : (st.drop b).length ≤ 8) (hmx : b ≤ gMx a) (hc : Wm sc dc a (st.take b).reverse h (fun o h9 => o = .inl (some v) ∧ h9 = h')) (hd : dc < d)
    (hn : Wq sc d m (pc + 3) ls (v :: st.drop b) h' Q) : Wq sc d m pc ls st h Q :=
  wq_invS hf ha hb h8 hmx hc hd (fun o h9 hq => by obtain ⟨rfl, rfl⟩ := hq; exact hn)
theorem wq_valV {dc : Nat} {v : Value} {h' : gH} (hf : gFetch m pc = some (.invokevirtual i, len, a, b)) (ha : a < 900) (hb : b ≤ st.length) (h8 : (st.drop b).length ≤ 8) (hmx : b ≤ gMx a) (hrc : gRecv h a (st.take b).reverse = true) (hc : Wm sc dc a (st.take b).reverse h (fun o h9 => o = .inl (some v) ∧ h9 = h')) (hd : dc < d)
    (hn : Wq sc d m (pc + 3) ls (v :: st.drop b) h' Q) : Wq sc d m pc ls st h Q :=
  wq_invV hf ha hb h8 hmx hrc hc hd (fun o h9 hq => by obtain ⟨rfl, rfl⟩ := hq; exact hn)
theorem gRecv_of {h : gH} {a r ci : Nat} {fs l : List Value} (hg : gGet h r = some (.inl (ci, fs))) (hc : (gCn ci == (gY a).cls) = true) : gRecv h a (.ref r :: l) = true := by
  simp only [gRecv, hg, hc]
end WH
