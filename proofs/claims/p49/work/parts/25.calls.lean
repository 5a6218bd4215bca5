/-! CALLS OVER VIEWS, and ArrayList's methods over them -/
section WX
variable {sc : gSc} {d m pc dc : Nat} {ls : gL} {st : List Value} {A : gA} {Q Qc : gO → gA → Prop} {a b len i ci k r n j x c0 : Nat} {fs : List Value} {v : Value} {c : vC} {z : Int} {xs : List Nat}
theorem wv_invS (hf : gFetch m pc = some (.invokestatic i, len, a, b)) (ha : a < 900) (hb : b ≤ st.length) (h8 : (st.drop b).length ≤ 8) (hmx : b ≤ gMx a) (hc : Wc sc dc a (st.take b).reverse A Qc) (hd : dc < d)
    (hk : ∀ o A', Qc o A' → vAft sc d m pc ls (st.drop b) Q true o A') : Wv sc d m pc ls st A Q := fun h hR =>
  wq_invS hf ha hb h8 hmx (hc h hR) hd (fun o h' ⟨A', hR', hq⟩ => vAft_g hR' (hk o A' hq))
theorem wv_invV (hf : gFetch m pc = some (.invokevirtual i, len, a, b)) (ha : a < 900) (hb : b ≤ st.length) (h8 : (st.drop b).length ≤ 8) (hmx : b ≤ gMx a) (hr : A.1 r = some c) (hcl : vCls c = some ci) (hcn : (gCn ci == (gY a).cls) = true) (hl : (st.take b).reverse.head? = some (.ref r)) (hc : Wc sc dc a (st.take b).reverse A Qc) (hd : dc < d)
    (hk : ∀ o A', Qc o A' → vAft sc d m pc ls (st.drop b) Q true o A') : Wv sc d m pc ls st A Q := fun h hR =>
  wq_invV hf ha hb h8 hmx (vCl_recv hR ⟨c, hr, hcl⟩ hcn hl) (hc h hR) hd (fun o h' ⟨A', hR', hq⟩ => vAft_g hR' (hk o A' hq))
theorem wv_invI (hf : gFetch m pc = some (.invokespecial i, len, a, b)) (ha : a < 900) (hb : b ≤ st.length) (h8 : (st.drop b).length ≤ 8) (hmx : b ≤ gMx a) (hl : gIsRef (st.take b).reverse = true) (hc : Wc sc dc a (st.take b).reverse A Qc) (hd : dc < d)
    (hk : ∀ o A', Qc o A' → vAft sc d m pc ls (st.drop b) Q false o A') : Wv sc d m pc ls st A Q := fun h hR =>
  wq_invI hf ha hb h8 hmx hl (hc h hR) hd (fun o h' ⟨A', hR', hq⟩ => vAft_g hR' (hk o A' hq))
/-- calls that give a value and leave the view -/
theorem wv_valS (hf : gFetch m pc = some (.invokestatic i, len, a, b)) (ha : a < 900) (hb : b ≤ st.length) (h8 : (st.drop b).length ≤ 8) (hmx : b ≤ gMx a) (hc : Wc sc dc a (st.take b).reverse A (fun o A' => o = .inl (some v) ∧ A' = A)) (hd : dc < d)
    (hn : Wv sc d m (pc + 3) ls (v :: st.drop b) A Q) : Wv sc d m pc ls st A Q := wv_invS hf ha hb h8 hmx hc hd (fun o A' hq => by obtain ⟨rfl, rfl⟩ := hq; exact hn)
theorem wv_valV (hf : gFetch m pc = some (.invokevirtual i, len, a, b)) (ha : a < 900) (hb : b ≤ st.length) (h8 : (st.drop b).length ≤ 8) (hmx : b ≤ gMx a) (hr : A.1 r = some c) (hcl : vCls c = some ci) (hcn : (gCn ci == (gY a).cls) = true) (hl : (st.take b).reverse.head? = some (.ref r)) (hc : Wc sc dc a (st.take b).reverse A (fun o A' => o = .inl (some v) ∧ A' = A)) (hd : dc < d)
    (hn : Wv sc d m (pc + 3) ls (v :: st.drop b) A Q) : Wv sc d m pc ls st A Q := wv_invV hf ha hb h8 hmx hr hcl hcn hl hc hd (fun o A' hq => by obtain ⟨rfl, rfl⟩ := hq; exact hn)
/-- calls that give a value and change the view -/
theorem wv_resS {P : Value → gA → Prop} (hf : gFetch m pc = some (.invokestatic i, len, a, b)) (ha : a < 900) (hb : b ≤ st.length) (h8 : (st.drop b).length ≤ 8) (hmx : b ≤ gMx a) (hc : Wc sc dc a (st.take b).reverse A (fun o A' => ∃ v, o = .inl (some v) ∧ P v A')) (hd : dc < d)
    (hn : ∀ v A', P v A' → Wv sc d m (pc + 3) ls (v :: st.drop b) A' Q) : Wv sc d m pc ls st A Q := wv_invS hf ha hb h8 hmx hc hd (fun o A' hq => by obtain ⟨v, rfl, hp⟩ := hq; exact hn v A' hp)
theorem wv_resV {P : Value → gA → Prop} (hf : gFetch m pc = some (.invokevirtual i, len, a, b)) (ha : a < 900) (hb : b ≤ st.length) (h8 : (st.drop b).length ≤ 8) (hmx : b ≤ gMx a) (hr : A.1 r = some c) (hcl : vCls c = some ci) (hcn : (gCn ci == (gY a).cls) = true) (hl : (st.take b).reverse.head? = some (.ref r)) (hc : Wc sc dc a (st.take b).reverse A (fun o A' => ∃ v, o = .inl (some v) ∧ P v A')) (hd : dc < d)
    (hn : ∀ v A', P v A' → Wv sc d m (pc + 3) ls (v :: st.drop b) A' Q) : Wv sc d m pc ls st A Q := wv_invV hf ha hb h8 hmx hr hcl hcn hl hc hd (fun o A' hq => by obtain ⟨v, rfl, hp⟩ := hq; exact hn v A' hp)
/-- calls that give nothing -/
theorem wv_effS {P : gA → Prop} (hf : gFetch m pc = some (.invokestatic i, len, a, b)) (ha : a < 900) (hb : b ≤ st.length) (h8 : (st.drop b).length ≤ 8) (hmx : b ≤ gMx a) (hc : Wc sc dc a (st.take b).reverse A (fun o A' => o = .inl none ∧ P A')) (hd : dc < d)
    (hn : ∀ A', P A' → Wv sc d m (pc + 3) ls (st.drop b) A' Q) : Wv sc d m pc ls st A Q := wv_invS hf ha hb h8 hmx hc hd (fun o A' hq => by obtain ⟨rfl, hp⟩ := hq; exact hn A' hp)
theorem wv_effV {P : gA → Prop} (hf : gFetch m pc = some (.invokevirtual i, len, a, b)) (ha : a < 900) (hb : b ≤ st.length) (h8 : (st.drop b).length ≤ 8) (hmx : b ≤ gMx a) (hr : A.1 r = some c) (hcl : vCls c = some ci) (hcn : (gCn ci == (gY a).cls) = true) (hl : (st.take b).reverse.head? = some (.ref r)) (hc : Wc sc dc a (st.take b).reverse A (fun o A' => o = .inl none ∧ P A')) (hd : dc < d)
    (hn : ∀ A', P A' → Wv sc d m (pc + 3) ls (st.drop b) A' Q) : Wv sc d m pc ls st A Q := wv_invV hf ha hb h8 hmx hr hcl hcn hl hc hd (fun o A' hq => by obtain ⟨rfl, hp⟩ := hq; exact hn A' hp)
theorem wv_effI {P : gA → Prop} (hf : gFetch m pc = some (.invokespecial i, len, a, b)) (ha : a < 900) (hb : b ≤ st.length) (h8 : (st.drop b).length ≤ 8) (hmx : b ≤ gMx a) (hl : gIsRef (st.take b).reverse = true) (hc : Wc sc dc a (st.take b).reverse A (fun o A' => o = .inl none ∧ P A')) (hd : dc < d)
    (hn : ∀ A', P A' → Wv sc d m (pc + 3) ls (st.drop b) A' Q) : Wv sc d m pc ls st A Q := wv_invI hf ha hb h8 hmx hl hc hd (fun o A' hq => by obtain ⟨rfl, hp⟩ := hq; exact hn A' hp)
theorem gEl_obj {h : gH} {q : Nat} (he : gEl h q) : gObj h (some q) = true := by
  obtain ⟨z, hz, -⟩ := he
  unfold gObj
  simp only
  rw [hz]
theorem lRow_arr {h : gH} {e : Value} {c : Nat} {xs : List Nat} (hr : lRow h e c xs) (b : Nat) (hb : e = .ref b) : ∃ f, gGet h b = some (cAr c f) := by
  rcases hr with ⟨rfl, -, -⟩ | ⟨-, b', rfl, h1⟩
  · cases hb
  · cases hb
    exact ⟨_, h1⟩
theorem Rp.own1 {h : gH} {r c : Nat} {xs : List Nat} {md : Int32} {e : Value} (hR : Rp h A) (h0 : A.1 r = some (vL c xs)) (hg : gGet h r = some (cAL md e xs.length)) (hrow : lRow h e c xs) (hv : ∀ b, e = .ref b → A.1 b = none) :
    ∀ b, e = .ref b → A.1 b = none ∧ (∀ z, gGet h b ≠ some (.inl z)) ∧ ∀ q c xs md k, A.1 q = some (vL c xs) → gGet h q = some (cAL md (.ref b) k) → q = r := by
  intro b hb
  obtain ⟨f, hf⟩ := lRow_arr hrow b hb
  refine ⟨hv b hb, fun z hz => ?_, fun q c' xs' md' k' h1 h2 => ?_⟩
  · rw [hf] at hz
    cases hz
  · subst hb
    exact hR.2.2.1 q r c' c xs' xs md' md b _ _ h1 h0 h2 hg
theorem lg_grow {c n : Nat} (hc : c ≤ 4000) (h10 : c = 0 ∨ 10 ≤ c) (hn : n ≤ c) (hn2 : n < 2600) : lg c n (if n < c then c else gw c) (if n < c then 0 else 1) (if n < c then 0 else gw c) ∧ (if n < c then c else gw c) ≤ 4000 := by
  by_cases hf : n < c
  · simp only [if_pos hf, lg]
    omega
  · simp only [if_neg hf, lg, gw]
    by_cases h0 : c = 0
    · simp only [if_pos h0]
      omega
    · simp only [if_neg h0]
      omega
theorem lRow_cap {h : gH} {e : Value} {c : Nat} {xs : List Nat} (hr : lRow h e c xs) : c = 0 ∨ 10 ≤ c := by
  rcases hr with ⟨-, h1, -⟩ | ⟨h1, -⟩
  · exact .inl h1
  · exact .inr h1
theorem el_new {h : gH} (hR : Rp h A) (hx : A.1 x = some (vO ci fs)) (hci : gMay (.object "java/lang/Object") (.inl (ci, [])) = true) : gMay (.object "java/lang/Object") (.inl (ci, fs)) = true ∧ gEl h x :=
  have h1 := gMay_cls (ty := .object "java/lang/Object") (z := (ci, [])) (z' := (ci, fs)) rfl hci
  ⟨h1, (ci, fs), hR.real hx rfl, h1⟩
theorem cAL_may {md : Int32} {e : Value} {n : Nat} : ¬ gMay (.object "java/lang/Object") (cAL md e n) = true := by simp only [cAL, gMay]; decide
theorem wv_cap (hl : A.1 r = some (vL c0 xs)) (hn : c0 ≤ 4000 → xs.length ≤ c0 → Wv sc d m pc ls st A Q) : Wv sc d m pc ls st A Q := fun h hR => by
  obtain ⟨v1, v2, -⟩ := hR.lis hl
  exact hn v1 v2 h hR
theorem cc_size (hl : A.1 r = some (vL c0 xs)) : Wc sc 0 173 [.ref r] A (fun o A' => xs.length ≤ 4000 ∧ o = .inl (some (.int (zI xs.length))) ∧ A' = A) := fun h hR => by
  obtain ⟨v1, v2, v3, md, e, v4, v5, v6⟩ := hR.lis hl
  exact (ll_size v4).up (Nat.le_refl _) (fun o h' hq => ⟨A, by rw [hq.2]; exact hR, by omega, by rw [hq.1, zI_nat], rfl⟩)
theorem wv_lsize (hf : gFetch m pc = some (.invokevirtual i, len, 173, 1)) (hl : A.1 r = some (vL c0 xs)) (hd : 0 < d) (h8 : st.length ≤ 8) (hn : xs.length ≤ 4000 → Wv sc d m (pc + 3) ls (.int (zI xs.length) :: st) A Q) : Wv sc d m pc ls (.ref r :: st) A Q :=
  wv_invV hf (by decide) (by simp) (by simpa using h8) (by decide +kernel) hl rfl (by decide +kernel) rfl (cc_size hl) hd (fun o A' hq => by obtain ⟨hl9, rfl, rfl⟩ := hq; exact hn hl9)
theorem cc_empty (hl : A.1 r = some (vL c0 xs)) : Wc sc 0 170 [.ref r] A (fun o A' => o = .inl (some (.int (bI xs.isEmpty))) ∧ A' = A) := fun h hR => by
  obtain ⟨v1, v2, v3, md, e, v4, v5, v6⟩ := hR.lis hl
  refine (ll_empty v4 (by omega)).up (Nat.le_refl _) (fun o h' hq => ⟨A, by rw [hq.2]; exact hR, ?_, rfl⟩)
  rw [hq.1]
  cases xs <;> rfl
theorem wv_lempty (hf : gFetch m pc = some (.invokevirtual i, len, 170, 1)) (hl : A.1 r = some (vL c0 xs)) (hd : 0 < d) (h8 : st.length ≤ 8) (hn : Wv sc d m (pc + 3) ls (.int (bI xs.isEmpty) :: st) A Q) : Wv sc d m pc ls (.ref r :: st) A Q :=
  wv_valV hf (by decide) (by simp) (by simpa using h8) (by decide +kernel) hl rfl (by decide +kernel) rfl (cc_empty hl) hd hn
theorem cc_get (hl : A.1 r = some (vL c0 xs)) (hz : z = (j : Int)) (hx : xs[j]? = some x) : Wc sc 2 167 [.ref r, .int (zI z)] A (fun o A' => o = .inl (some (.ref x)) ∧ A' = A) := fun h hR => by
  obtain ⟨v1, v2, v3, md, e, v4, v5, v6⟩ := hR.lis hl
  have hj := (List.getElem?_eq_some_iff.mp hx).1
  rcases v5 with ⟨rfl, rfl, rfl⟩ | ⟨hc10, b, rfl, hb⟩
  · exact absurd hj (Nat.not_lt_zero _)
  · subst hz
    rw [zI_nat]
    exact (ll_get v4 hb hj v2 (by omega)).up (Nat.le_refl _) (fun o h' hq => ⟨A, by rw [hq.2]; exact hR, by rw [hq.1, hx]; rfl, rfl⟩)
theorem wv_lget (hf : gFetch m pc = some (.invokevirtual i, len, 167, 2)) (hl : A.1 r = some (vL c0 xs)) (hz : z = (j : Int)) (hx : xs[j]? = some x) (hd : 2 < d) (h8 : st.length ≤ 8) (hn : Wv sc d m (pc + 3) ls (.ref x :: st) A Q) : Wv sc d m pc ls (.int (zI z) :: .ref r :: st) A Q :=
  wv_valV hf (by decide) (by simp) (by simpa using h8) (by decide +kernel) hl rfl (by decide +kernel) rfl (cc_get hl hz hx) hd hn
theorem cc_add (hl : A.1 r = some (vL c0 xs)) (hx : A.1 x = some (vO ci fs)) (hci : gMay (.object "java/lang/Object") (.inl (ci, [])) = true) (hn2 : xs.length < 2600) : Wc sc 6 162 [.ref r, .ref x] A (fun o A' => o = .inl (some (.int (zI 1))) ∧ ∃ c' kc ks, lg c0 xs.length c' kc ks ∧ A' = aLst A r (vL c' (xs ++ [x])) kc ks) := fun h hR => by
  obtain ⟨v1, v2, v3, md, e, v4, v5, v6⟩ := hR.lis hl
  obtain ⟨e1, e2⟩ := el_new hR hx hci
  have hlg := lg_grow v1 (lRow_cap v5) v2 hn2
  refine (ll_add v4 v5 v2 (by omega) (hR.real hx rfl) e1 (fun q hq => gEl_obj (v3 q hq))).up (Nat.le_refl _) (fun o h' hq => ⟨_, hR.lst hl v4 cAL_may (hR.own1 hl v4 v5 v6) hlg.2 (fun y hy => ?_) hq.2, hq.1, _, _, _, hlg.1, rfl⟩)
  rcases List.mem_append.mp hy with hy | hy
  · exact v3 y hy
  · rw [List.mem_singleton.mp hy]
    exact e2
theorem wv_ladd (hf : gFetch m pc = some (.invokevirtual i, len, 162, 2)) (hl : A.1 r = some (vL c0 xs)) (hx : A.1 x = some (vO ci fs)) (hci : gMay (.object "java/lang/Object") (.inl (ci, [])) = true) (hn2 : xs.length < 2600) (hd : 6 < d) (h8 : st.length ≤ 8) (hn : ∀ c' kc ks, lg c0 xs.length c' kc ks → Wv sc d m (pc + 3) ls (.int (zI 1) :: st) (aLst A r (vL c' (xs ++ [x])) kc ks) Q) : Wv sc d m pc ls (.ref x :: .ref r :: st) A Q :=
  wv_invV hf (by decide) (by simp) (by simpa using h8) (by decide +kernel) hl rfl (by decide +kernel) rfl (cc_add hl hx hci hn2) hd (fun o A' hq => by obtain ⟨rfl, c', kc, ks, h1, rfl⟩ := hq; exact hn c' kc ks h1)
theorem cc_ins (hl : A.1 r = some (vL c0 xs)) (hz : z = (j : Int)) (hj : j ≤ xs.length) (hx : A.1 x = some (vO ci fs)) (hci : gMay (.object "java/lang/Object") (.inl (ci, [])) = true) (hn2 : xs.length < 2600) : Wc sc 5 161 [.ref r, .int (zI z), .ref x] A (fun o A' => o = .inl none ∧ ∃ c' kc ks, lg c0 xs.length c' kc ks ∧ A' = aLst A r (vL c' (xs.take j ++ x :: xs.drop j)) kc ks) := fun h hR => by
  obtain ⟨v1, v2, v3, md, e, v4, v5, v6⟩ := hR.lis hl
  obtain ⟨e1, e2⟩ := el_new hR hx hci
  have hlg := lg_grow v1 (lRow_cap v5) v2 hn2
  subst hz
  rw [zI_nat]
  refine (ll_ins v4 v5 v2 (by omega) hj (hR.real hx rfl) e1 (fun q hq => gEl_obj (v3 q hq))).up (Nat.le_refl _) (fun o h' hq => ⟨_, hR.lst hl v4 cAL_may (hR.own1 hl v4 v5 v6) hlg.2 (fun y hy => ?_) hq.2, hq.1, _, _, _, hlg.1, rfl⟩)
  rcases List.mem_append.mp hy with hy | hy
  · exact v3 y (List.mem_of_mem_take hy)
  · rcases List.mem_cons.mp hy with rfl | hy
    · exact e2
    · exact v3 y (List.mem_of_mem_drop hy)
theorem wv_lins (hf : gFetch m pc = some (.invokevirtual i, len, 161, 3)) (hl : A.1 r = some (vL c0 xs)) (hz : z = (j : Int)) (hj : j ≤ xs.length) (hx : A.1 x = some (vO ci fs)) (hci : gMay (.object "java/lang/Object") (.inl (ci, [])) = true) (hn2 : xs.length < 2600) (hd : 5 < d) (h8 : st.length ≤ 8) (hn : ∀ c' kc ks, lg c0 xs.length c' kc ks → Wv sc d m (pc + 3) ls st (aLst A r (vL c' (xs.take j ++ x :: xs.drop j)) kc ks) Q) : Wv sc d m pc ls (.ref x :: .int (zI z) :: .ref r :: st) A Q :=
  wv_invV hf (by decide) (by simp) (by simpa using h8) (by decide +kernel) hl rfl (by decide +kernel) rfl (cc_ins hl hz hj hx hci hn2) hd (fun o A' hq => by obtain ⟨rfl, c', kc, ks, h1, rfl⟩ := hq; exact hn c' kc ks h1)
theorem aLst_00 {r : Nat} {c : vC} : aLst A r c 0 0 = aPut A r c := rfl
theorem cc_rem (hl : A.1 r = some (vL c0 xs)) (hz : z = (j : Int)) (hx : xs[j]? = some x) : Wc sc 2 172 [.ref r, .int (zI z)] A (fun o A' => o = .inl (some (.ref x)) ∧ A' = aPut A r (vL c0 (xs.eraseIdx j))) := fun h hR => by
  obtain ⟨v1, v2, v3, md, e, v4, v5, v6⟩ := hR.lis hl
  subst hz
  rw [zI_nat]
  refine (ll_rem v4 v5 v2 (by omega) hx (fun q hq => gEl_obj (v3 q hq))).up (Nat.le_refl _) (fun o h' hq => ⟨_, hR.lst hl v4 cAL_may (hR.own1 hl v4 v5 v6) v1 (fun y hy => v3 y (List.mem_of_mem_eraseIdx hy)) hq.2, hq.1, rfl⟩)
theorem wv_lrem (hf : gFetch m pc = some (.invokevirtual i, len, 172, 2)) (hl : A.1 r = some (vL c0 xs)) (hz : z = (j : Int)) (hx : xs[j]? = some x) (hd : 2 < d) (h8 : st.length ≤ 8) (hn : Wv sc d m (pc + 3) ls (.ref x :: st) (aPut A r (vL c0 (xs.eraseIdx j))) Q) : Wv sc d m pc ls (.int (zI z) :: .ref r :: st) A Q :=
  wv_invV hf (by decide) (by simp) (by simpa using h8) (by decide +kernel) hl rfl (by decide +kernel) rfl (cc_rem hl hz hx) hd (fun o A' hq => by obtain ⟨rfl, rfl⟩ := hq; exact hn)
theorem cc_clear (hl : A.1 r = some (vL c0 xs)) : Wc sc 0 164 [.ref r] A (fun o A' => o = .inl none ∧ A' = aPut A r (vL c0 [])) := fun h hR => by
  obtain ⟨v1, v2, v3, md, e, v4, v5, v6⟩ := hR.lis hl
  refine (ll_clear v4 v5 v2 (by omega)).up (Nat.le_refl _) (fun o h' hq => ⟨_, hR.lst hl v4 cAL_may (hR.own1 hl v4 v5 v6) v1 (fun y hy => by cases hy) hq.2, hq.1, rfl⟩)
theorem wv_lclear (hf : gFetch m pc = some (.invokevirtual i, len, 164, 1)) (hl : A.1 r = some (vL c0 xs)) (hd : 0 < d) (h8 : st.length ≤ 8) (hn : Wv sc d m (pc + 3) ls st (aPut A r (vL c0 [])) Q) : Wv sc d m pc ls (.ref r :: st) A Q :=
  wv_invV hf (by decide) (by simp) (by simpa using h8) (by decide +kernel) hl rfl (by decide +kernel) rfl (cc_clear hl) hd (fun o A' hq => by obtain ⟨rfl, rfl⟩ := hq; exact hn)
theorem cc_init (hl : A.1 r = some vW) : Wc sc 2 160 [.ref r] A (fun o A' => o = .inl none ∧ A' = aPut A r (vL 0 [])) := fun h hR => by
  have hg := hR.real hl rfl
  refine (ll_init hg).up (Nat.le_refl _) (fun o h' hq => ⟨_, hR.lst hl hg (cAL_may (md := 0) (e := .null) (n := 0)) (fun b hb => by cases hb) (by omega) (fun y hy => by cases hy) hq.2, hq.1, rfl⟩)
theorem wv_linit (hf : gFetch m pc = some (.invokespecial i, len, 160, 1)) (hl : A.1 r = some vW) (hd : 2 < d) (h8 : st.length ≤ 8) (hn : Wv sc d m (pc + 3) ls st (aPut A r (vL 0 [])) Q) : Wv sc d m pc ls (.ref r :: st) A Q :=
  wv_invI hf (by decide) (by simp) (by simpa using h8) (by decide +kernel) rfl (cc_init hl) hd (fun o A' hq => by obtain ⟨rfl, rfl⟩ := hq; exact hn)
theorem wv_iretB {p : Bool} (hf : gFetch m pc = some (.ireturn, len, a, b)) (hok : gRt m = some .boolean) (hq : Q (.inl (some (.int (bI p)))) A) : Wv sc d m pc ls [.int (bI p)] A Q := wv_iret hf (by unfold gRetOk; rw [hok]; cases p <;> decide) hq
theorem wv_ldcI {k : Int} {n : Nat} (hf : gFetch m pc = some (.ldc i, len, 0, n)) (hz : Int32.ofNat n = zI k) (hn : Wv sc d m (pc + 2) ls (.int (zI k) :: st) A Q) : Wv sc d m pc ls st A Q := wv_s hf rfl (fun h => by simp only [gStep, hz]) hn
theorem wv_ldcW {k : Int} {n : Nat} (hf : gFetch m pc = some (.ldc_w i, len, 0, n)) (hz : Int32.ofNat n = zI k) (hn : Wv sc d m (pc + 3) ls (.int (zI k) :: st) A Q) : Wv sc d m pc ls st A Q := wv_s hf rfl (fun h => by simp only [gStep, hz]) hn
theorem bI_1 : bI true = zI 1 := rfl
theorem bI_0 : bI false = zI 0 := rfl
/-- Math's two -/
theorem cc_max {x y : Int} (hx : i32 x) (hy : i32 y) : Wc sc 0 156 [.int (zI x), .int (zI y)] A (fun o A' => o = .inl (some (.int (zI (max x y)))) ∧ A' = A) := fun h hR => by
  refine (ll_max).up (Nat.le_refl _) (fun o h' hq => ⟨A, by rw [hq.2]; exact hR, ?_, rfl⟩)
  rw [hq.1]
  by_cases hc : y ≤ x
  · rw [if_pos ((zI_le hy hx).mpr hc), Int.max_eq_left hc]
  · rw [if_neg (fun w => hc ((zI_le hy hx).mp w)), Int.max_eq_right (by omega)]
theorem cc_min {x y : Int} (hx : i32 x) (hy : i32 y) : Wc sc 0 157 [.int (zI x), .int (zI y)] A (fun o A' => o = .inl (some (.int (zI (min x y)))) ∧ A' = A) := fun h hR => by
  refine (ll_min).up (Nat.le_refl _) (fun o h' hq => ⟨A, by rw [hq.2]; exact hR, ?_, rfl⟩)
  rw [hq.1]
  by_cases hc : x ≤ y
  · rw [if_pos ((zI_le hx hy).mpr hc), Int.min_eq_left hc]
  · rw [if_neg (fun w => hc ((zI_le hx hy).mp w)), Int.min_eq_right (by omega)]
end WX
