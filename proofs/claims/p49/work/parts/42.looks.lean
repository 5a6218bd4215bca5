/-! THE OBJECT'S METHODS THAT ONLY LOOK -/
section TH
variable {sc : gSc} {d m pc dc : Nat} {ls : gL} {st : List Value} {A : gA} {Q : gO → gA → Prop} {a b len i ci k r n j x c0 E : Nat} {fs : List Value} {v : Value} {c : vC}
/-- calls that throw, and it passes here -/
theorem wv_thrS {P : gA → Prop} (hf : gFetch m pc = some (.invokestatic i, len, a, b)) (ha : a < 900) (hb : b ≤ st.length) (h8 : (st.drop b).length ≤ 8) (hmx : b ≤ gMx a) (hc : Wc sc dc a (st.take b).reverse A (fun o A' => o = .inr E ∧ P A')) (hd : dc < d)
    (hh : gHand m pc E = none) (hp : gPass m = true) (hq : ∀ A', P A' → Q (.inr E) A') : Wv sc d m pc ls st A Q := wv_invS hf ha hb h8 hmx hc hd (fun o A' h9 => by obtain ⟨rfl, h9⟩ := h9; exact ⟨rfl, .inr ⟨hh, hp, hq A' h9⟩⟩)
theorem wv_thrV {P : gA → Prop} (hf : gFetch m pc = some (.invokevirtual i, len, a, b)) (ha : a < 900) (hb : b ≤ st.length) (h8 : (st.drop b).length ≤ 8) (hmx : b ≤ gMx a) (hr : A.1 r = some c) (hcl : vCls c = some ci) (hcn : (gCn ci == (gY a).cls) = true) (hl : (st.take b).reverse.head? = some (.ref r)) (hc : Wc sc dc a (st.take b).reverse A (fun o A' => o = .inr E ∧ P A')) (hd : dc < d)
    (hh : gHand m pc E = none) (hp : gPass m = true) (hq : ∀ A', P A' → Q (.inr E) A') : Wv sc d m pc ls st A Q := wv_invV hf ha hb h8 hmx hr hcl hcn hl hc hd (fun o A' h9 => by obtain ⟨rfl, h9⟩ := h9; exact ⟨rfl, .inr ⟨hh, hp, hq A' h9⟩⟩)
end TH
/-- the view behind a throw -/
def aThr (A : gA) : gA := (A.1, A.2.1 + 1, A.2.2 + 6)
def cntM (g : Nat) (l : List WrD) : Nat := (l.filter (fun x => x.memOf g)).length
theorem cntM_le {g : Nat} {l : List WrD} : cntM g l ≤ l.length := List.length_filter_le _ _
def logN : Bool → List WrD → Nat
  | _, [] => 0
  | b, w :: t => (if (b || w.mem) = true ∧ w.z ≠ 0 ∧ w.s = 0 then 1 else 0) + logN (b || w.mem) t
theorem logN_le : ∀ {l : List WrD} {b : Bool}, logN b l ≤ l.length
  | [], _ => Nat.le_refl _
  | w :: t, b => by
    have := @logN_le t (b || w.mem)
    simp only [logN, List.length_cons]
    split <;> omega
def plI (id : Int) : Nat → List Nat → Int
  | _, [] => -1
  | i, a :: t => if (a : Int) = id then i else plI id (i + 1) t
section OL
variable {sc : gSc} {d : Nat} {A : gA} {F : Nat → Option vC} {L : List (Nat × vC)} {o : Nat} {f : Ls FamD} {w : Ls WrD} {s : Ls SnD} {c : Ls CuD} {b : Ls BkD} {fi : Nat × FiD} {y : Ls ChD} {me : Option MeD} {ct : CtD} {g : FamD} {l : LvD} {r : RunD} {i j : Nat} {x z : Int}
theorem c47 (hO : okO A F L o f w s c b fi y me ct) (hg : f.2.2[i]? = some g) : Wc sc 3 47 [.ref o, .int (zI i)] A (fun r A' => r = .inl (some (.ref g.a)) ∧ A' = A) := by
  show Wv sc 3 47 0 [some (.ref o), some (.int (zI i))] [] A _
  have hi := (List.getElem?_eq_some_iff.mp hg).1
  have h1 := hO.ob
  have h2 := hO.fl
  have h3 := (hO.fm (List.mem_of_getElem? hg)).1
  refine wv_cap h2 (fun n1 n2 => ?_)
  rw [List.length_map] at n2
  refine wv_s f47_0 rfl (fun _ => rfl) ?_
  refine wv_zF_lt f47_1 (by omega) (by omega) ?_
  refine wv_s f47_4 rfl (fun _ => rfl) ?_
  refine wv_s f47_5 rfl (fun _ => rfl) ?_
  refine wv_getfield f47_6 (by assumption) (by rfl) ?_
  refine wv_lsize f47_9 (by assumption) (by omega) (by simp) (fun hs => ?_)
  rw [List.length_map] at hs ⊢
  refine wv_cT_lt f47_12 (by omega) (by omega) (by omega) ?_
  refine wv_s f47_26 rfl (fun _ => rfl) ?_
  refine wv_getfield f47_27 (by assumption) (by rfl) ?_
  refine wv_s f47_30 rfl (fun _ => rfl) ?_
  refine wv_lget f47_31 (by assumption) (by first | rfl | omega) ((by rw [List.getElem?_map, hg]; rfl)) (by omega) (by simp) ?_
  refine wv_cast f47_34 (by assumption) ?_
  exact wv_aret f47_37 (by rfl) (⟨rfl, rfl⟩)
theorem c24 {bk : BkD} (hO : okO A F L o f w s c b fi y me ct) (hg : b.2.2[i]? = some bk) : Wc sc 3 24 [.ref o, .int (zI i)] A (fun r A' => r = .inl (some (.ref bk.a)) ∧ A' = A) := by
  show Wv sc 3 24 0 [some (.ref o), some (.int (zI i))] [] A _
  have hi := (List.getElem?_eq_some_iff.mp hg).1
  have h1 := hO.ob
  have h2 := hO.bl
  have h3 := (hO.bk (List.mem_of_getElem? hg)).1
  refine wv_cap h2 (fun n1 n2 => ?_)
  rw [List.length_map] at n2
  refine wv_s f24_0 rfl (fun _ => rfl) ?_
  refine wv_zF_lt f24_1 (by omega) (by omega) ?_
  refine wv_s f24_4 rfl (fun _ => rfl) ?_
  refine wv_s f24_5 rfl (fun _ => rfl) ?_
  refine wv_getfield f24_6 (by assumption) (by rfl) ?_
  refine wv_lsize f24_9 (by assumption) (by omega) (by simp) (fun hs => ?_)
  rw [List.length_map] at hs ⊢
  refine wv_cT_lt f24_12 (by omega) (by omega) (by omega) ?_
  refine wv_s f24_26 rfl (fun _ => rfl) ?_
  refine wv_getfield f24_27 (by assumption) (by rfl) ?_
  refine wv_s f24_30 rfl (fun _ => rfl) ?_
  refine wv_lget f24_31 (by assumption) (by first | rfl | omega) ((by rw [List.getElem?_map, hg]; rfl)) (by omega) (by simp) ?_
  refine wv_cast f24_34 (by assumption) ?_
  exact wv_aret f24_37 (by rfl) (⟨rfl, rfl⟩)
theorem c24_t (hO : okO A F L o f w s c b fi y me ct) (hi : i = b.2.2.length) : Wc sc 3 24 [.ref o, .int (zI i)] A (fun r A' => r = .inr 0 ∧ A' = aThr A) := by
  show Wv sc 3 24 0 [some (.ref o), some (.int (zI i))] [] A _
  have h1 := hO.ob
  have h2 := hO.bl
  refine wv_cap h2 (fun n1 n2 => ?_)
  rw [List.length_map] at n2
  refine wv_s f24_0 rfl (fun _ => rfl) ?_
  refine wv_zF_lt f24_1 (by omega) (by omega) ?_
  refine wv_s f24_4 rfl (fun _ => rfl) ?_
  refine wv_s f24_5 rfl (fun _ => rfl) ?_
  refine wv_getfield f24_6 (by assumption) (by rfl) ?_
  refine wv_lsize f24_9 (by assumption) (by omega) (by simp) (fun hs => ?_)
  rw [List.length_map] at hs ⊢
  refine wv_cF_lt f24_12 (by omega) (by omega) (by omega) ?_
  exact wv_throw f24_15 (by decide) (by simp) (by decide +kernel) (⟨rfl, rfl⟩)
theorem c60 (hx : i32 x) : Wc sc 0 60 [.int (zI x)] A (fun r A' => r = .inl (some (.int (bI (decide (0 ≤ x ∧ x < 100))))) ∧ A' = A) := by
  show Wv sc 0 60 0 [some (.int (zI x))] [] A _
  refine wv_s f60_0 rfl (fun _ => rfl) ?_
  refine wv_zX_lt f60_1 (by omega) (fun hb => ?_) (fun hb => ?_)
  · refine wv_icon f60_14 ?_
    exact wv_iretB (p := false) f60_15 (by decide +kernel) ( ⟨bIf (by omega), rfl⟩)
  · refine wv_s f60_4 rfl (fun _ => rfl) ?_
    refine wv_bip f60_5 (by decide) ?_
    refine wv_cX_ge f60_7 (by omega) (by omega) (fun hb2 => ?_) (fun hb2 => ?_)
    · refine wv_icon f60_14 ?_
      exact wv_iretB (p := false) f60_15 (by decide +kernel) ( ⟨bIf (by omega), rfl⟩)
    · refine wv_icon f60_10 ?_
      refine wv_s (pc' := 15) f60_11 rfl (fun _ => rfl) ?_
      exact wv_iretB (p := true) f60_15 (by decide +kernel) ( ⟨bIt (by omega), rfl⟩)
theorem c29 (hx : 0 ≤ x) (hz : x ≤ z) (hz2 : z < 100) : Wc sc 1 29 [.int (zI x), .int (zI z)] A (fun r A' => r = .inl none ∧ A' = A) := by
  show Wv sc 1 29 0 [some (.int (zI x)), some (.int (zI z))] [] A _
  refine wv_s f29_0 rfl (fun _ => rfl) ?_
  refine wv_valS f29_1 (by decide) (by simp) (by simp) (by decide +kernel) (c60 (by omega)) (by omega) ?_
  refine wv_bF f29_4 (decide_eq_true (by omega)) ?_
  refine wv_s f29_7 rfl (fun _ => rfl) ?_
  refine wv_valS f29_8 (by decide) (by simp) (by simp) (by decide +kernel) (c60 (by omega)) (by omega) ?_
  refine wv_bF f29_11 (decide_eq_true (by omega)) ?_
  refine wv_s f29_14 rfl (fun _ => rfl) ?_
  refine wv_s f29_15 rfl (fun _ => rfl) ?_
  refine wv_cT_ge f29_16 (by omega) (by omega) (by omega) ?_
  exact wv_vret f29_30 (by decide +kernel) (⟨rfl, rfl⟩)
theorem c32_l (hO : okO A F L o f w s c b fi y me ct) (hg : g ∈ f.2.2) : ∀ (k i n : Nat), i + k = w.2.2.length → n ≤ i →
    Wv sc 3 32 4 [some (.ref o), some (.ref g.a), some (.int (zI n)), some (.int (zI i))] [] A (fun r A' => r = .inl (some (.int (zI (n + cntM g.g (w.2.2.drop i) : Nat)))) ∧ A' = A)
  | 0, i, n, hik, hn => by
    have h1 := hO.ob
    have h2 := hO.wl
    have e : w.2.2.drop i = [] := List.drop_of_length_le (by omega)
    rw [e]
    refine wv_s f32_4 rfl (fun _ => rfl) ?_
    refine wv_s f32_5 rfl (fun _ => rfl) ?_
    refine wv_getfield f32_6 (by assumption) (by rfl) ?_
    refine wv_lsize f32_9 (by assumption) (by omega) (by simp) (fun hs => ?_)
    rw [List.length_map] at hs ⊢
    refine wv_cT_ge f32_12 (by omega) (by omega) (by omega) ?_
    refine wv_s f32_42 rfl (fun _ => rfl) ?_
    exact wv_iret f32_43 (by rfl) (⟨rfl, rfl⟩)
  | k + 1, i, n, hik, hn => by
    have h1 := hO.ob
    have h2 := hO.wl
    have hf := hO.fm hg
    obtain ⟨v, hvm, hv0, hv1, hvd, -⟩ := at_i (show i < w.2.2.length by omega)
    have hv := hO.wr hvm
    have hv2 := hv.1
    rw [hvd]
    refine wv_s f32_4 rfl (fun _ => rfl) ?_
    refine wv_s f32_5 rfl (fun _ => rfl) ?_
    refine wv_getfield f32_6 (by assumption) (by rfl) ?_
    refine wv_lsize f32_9 (by assumption) (by omega) (by simp) (fun hs => ?_)
    rw [List.length_map] at hs ⊢
    refine wv_cF_ge f32_12 (by omega) (by omega) (by omega) ?_
    refine wv_s f32_15 rfl (fun _ => rfl) ?_
    refine wv_getfield f32_16 (by assumption) (by rfl) ?_
    refine wv_s f32_19 rfl (fun _ => rfl) ?_
    refine wv_lget f32_20 (by assumption) (by first | rfl | omega) (hv1 _) (by omega) (by simp) ?_
    refine wv_cast f32_23 (by assumption) ?_
    refine wv_s f32_26 rfl (fun _ => rfl) ?_
    refine wv_valV f32_27 (by decide) (by simp) (by simp) (by decide +kernel) (by assumption) (by rfl) (by decide +kernel) rfl (c153 hv hf.1 hf.2.2.2.1) (by omega) ?_
    by_cases hb : v.memOf g.g = true
    · refine wv_bF f32_30 (hb) ?_
      refine wv_inc2 f32_33 ?_
      refine wv_inc3 f32_36 ?_
      refine wv_s (pc' := 4) f32_39 rfl (fun _ => rfl) ?_
      refine (c32_l hO hg k (i + 1) (n + 1) (by omega) (by omega)).up (Nat.le_refl _) (fun o A' h => ?_)
      rw [show n + cntM g.g (v :: w.2.2.drop (i + 1)) = n + 1 + cntM g.g (w.2.2.drop (i + 1)) by unfold cntM; rw [List.filter_cons_of_pos (p := fun x : WrD => x.memOf g.g) hb]; simp only [List.length_cons]; omega]
      exact h
    · have hb : v.memOf g.g = false := by simpa using hb
      refine wv_bT f32_30 (hb) ?_
      refine wv_inc3 f32_36 ?_
      refine wv_s (pc' := 4) f32_39 rfl (fun _ => rfl) ?_
      refine (c32_l hO hg k (i + 1) n (by omega) (by omega)).up (Nat.le_refl _) (fun o A' h => ?_)
      rw [show n + cntM g.g (v :: w.2.2.drop (i + 1)) = n + cntM g.g (w.2.2.drop (i + 1)) by unfold cntM; rw [List.filter_cons_of_neg (p := fun x : WrD => x.memOf g.g) (by simp [hb])]]
      exact h
theorem c32 (hO : okO A F L o f w s c b fi y me ct) (hg : g ∈ f.2.2) : Wc sc 3 32 [.ref o, .ref g.a] A (fun r A' => r = .inl (some (.int (zI (cntM g.g w.2.2 : Nat)))) ∧ A' = A) := by
  show Wv sc 3 32 0 [some (.ref o), some (.ref g.a), none, none] [] A _
  refine wv_icon f32_0 ?_
  refine wv_st2 f32_1 rfl (fun _ _ => rfl) ?_
  refine wv_icon f32_2 ?_
  refine wv_st3 f32_3 rfl (fun _ _ => rfl) ?_
  refine (c32_l hO hg w.2.2.length 0 0 (by omega) (by omega)).up (Nat.le_refl _) (fun o A' h => ?_)
  rw [Nat.zero_add] at h
  exact h
theorem c58 (hO : okO A F L o f w s c b fi y me ct) (hg : f.2.2[i]? = some g) : Wc sc 4 58 [.ref o, .int (zI i)] A (fun r A' => r = .inl (some (.int (zI (cntM g.g w.2.2 : Nat)))) ∧ A' = A) := by
  show Wv sc 4 58 0 [some (.ref o), some (.int (zI i))] [] A _
  have h1 := hO.ob
  refine wv_s f58_0 rfl (fun _ => rfl) ?_
  refine wv_s f58_1 rfl (fun _ => rfl) ?_
  refine wv_s f58_2 rfl (fun _ => rfl) ?_
  refine wv_valV f58_3 (by decide) (by simp) (by simp) (by decide +kernel) (by assumption) (by rfl) (by decide +kernel) rfl (c47 hO hg) (by omega) ?_
  refine wv_valV f58_6 (by decide) (by simp) (by simp) (by decide +kernel) (by assumption) (by rfl) (by decide +kernel) rfl (c32 hO (List.mem_of_getElem? hg)) (by omega) ?_
  exact wv_iret f58_9 (by rfl) (⟨rfl, rfl⟩)
theorem c68 (hO : okO A F L o f w s c b fi y me ct) (hg : f.2.2[i]? = some g) (hl : g.lv[j]? = some l) : Wc sc 4 68 [.ref o, .int (zI i), .int (zI j)] A (fun r A' => r = .inl (some (.ref l.a)) ∧ A' = A) := by
  show Wv sc 4 68 0 [some (.ref o), some (.int (zI i)), some (.int (zI j)), none] [] A _
  have h1 := hO.ob
  have hgm := List.mem_of_getElem? hg
  have hf := hO.fm hgm
  have hf1 := hf.1
  have hj := (List.getElem?_eq_some_iff.mp hl).1
  have h4 := hf.2.2.1
  refine wv_s f68_0 rfl (fun _ => rfl) ?_
  refine wv_s f68_1 rfl (fun _ => rfl) ?_
  refine wv_valV f68_2 (by decide) (by simp) (by simp) (by decide +kernel) (by assumption) (by rfl) (by decide +kernel) rfl (c47 hO hg) (by omega) ?_
  refine wv_st3 f68_5 rfl (fun _ _ => rfl) ?_
  refine wv_s f68_6 rfl (fun _ => rfl) ?_
  refine wv_zF_lt f68_7 (by omega) (by omega) ?_
  refine wv_s f68_10 rfl (fun _ => rfl) ?_
  refine wv_icon f68_11 ?_
  refine wv_cT_lt f68_12 (by omega) (by omega) (by omega) ?_
  refine wv_s f68_26 rfl (fun _ => rfl) ?_
  refine wv_s f68_27 rfl (fun _ => rfl) ?_
  refine wv_valV f68_28 (by decide) (by simp) (by simp) (by decide +kernel) (by assumption) (by rfl) (by decide +kernel) rfl (c108 hf rfl hl) (by omega) ?_
  exact wv_aret f68_31 (by rfl) (⟨rfl, rfl⟩)
theorem c68_t (hO : okO A F L o f w s c b fi y me ct) (hg : f.2.2[i]? = some g) : Wc sc 4 68 [.ref o, .int (zI i), .int (zI 4)] A (fun r A' => r = .inr 0 ∧ A' = aThr A) := by
  show Wv sc 4 68 0 [some (.ref o), some (.int (zI i)), some (.int (zI 4)), none] [] A _
  have h1 := hO.ob
  refine wv_s f68_0 rfl (fun _ => rfl) ?_
  refine wv_s f68_1 rfl (fun _ => rfl) ?_
  refine wv_valV f68_2 (by decide) (by simp) (by simp) (by decide +kernel) (by assumption) (by rfl) (by decide +kernel) rfl (c47 hO hg) (by omega) ?_
  refine wv_st3 f68_5 rfl (fun _ _ => rfl) ?_
  refine wv_s f68_6 rfl (fun _ => rfl) ?_
  refine wv_zF_lt f68_7 (by omega) (by omega) ?_
  refine wv_s f68_10 rfl (fun _ => rfl) ?_
  refine wv_icon f68_11 ?_
  refine wv_cF_lt f68_12 (by omega) (by omega) (by omega) ?_
  exact wv_throw f68_15 (by decide) (by simp) (by decide +kernel) (⟨rfl, rfl⟩)
theorem c90 (hO : okO A F L o f w s c b fi y me ct) (hg : f.2.2[i]? = some g) (hl : g.lv[j]? = some l) : Wc sc 5 90 [.ref o, .int (zI i), .int (zI j)] A (fun r A' => r = .inl (some (.int (zI l.rs.length))) ∧ A' = A) := by
  show Wv sc 5 90 0 [some (.ref o), some (.int (zI i)), some (.int (zI j))] [] A _
  have h1 := hO.ob
  have hll := hO.lv (List.mem_of_getElem? hg) (List.mem_of_getElem? hl)
  have hl1 := hll.1
  refine wv_s f90_0 rfl (fun _ => rfl) ?_
  refine wv_s f90_1 rfl (fun _ => rfl) ?_
  refine wv_s f90_2 rfl (fun _ => rfl) ?_
  refine wv_valV f90_3 (by decide) (by simp) (by simp) (by decide +kernel) (by assumption) (by rfl) (by decide +kernel) rfl (c68 hO hg hl) (by omega) ?_
  refine wv_valV f90_6 (by decide) (by simp) (by simp) (by decide +kernel) (by assumption) (by rfl) (by decide +kernel) rfl (c119 hll) (by omega) ?_
  exact wv_iret f90_9 (by rfl) (⟨rfl, rfl⟩)
theorem c90_t (hO : okO A F L o f w s c b fi y me ct) (hg : f.2.2[i]? = some g) : Wc sc 5 90 [.ref o, .int (zI i), .int (zI 4)] A (fun r A' => r = .inr 0 ∧ A' = aThr A) := by
  show Wv sc 5 90 0 [some (.ref o), some (.int (zI i)), some (.int (zI 4))] [] A _
  have h1 := hO.ob
  refine wv_s f90_0 rfl (fun _ => rfl) ?_
  refine wv_s f90_1 rfl (fun _ => rfl) ?_
  refine wv_s f90_2 rfl (fun _ => rfl) ?_
  exact wv_thrV f90_3 (by decide) (by simp) (by simp) (by decide +kernel) h1 (by rfl) (by decide +kernel) rfl (c68_t hO hg) (by omega) (by decide +kernel) (by decide +kernel) (fun A' h => ⟨rfl, h⟩)
theorem c89 (hO : okO A F L o f w s c b fi y me ct) (hg : f.2.2[i]? = some g) (hl : g.lv[j]? = some l) {k : Nat} (hr : l.rs[k]? = some r) : Wc sc 5 89 [.ref o, .int (zI i), .int (zI j), .int (zI k)] A (fun v A' => v = .inl (some (.ref r.a)) ∧ A' = A) := by
  show Wv sc 5 89 0 [some (.ref o), some (.int (zI i)), some (.int (zI j)), some (.int (zI k)), none] [] A _
  have h1 := hO.ob
  have hll := hO.lv (List.mem_of_getElem? hg) (List.mem_of_getElem? hl)
  have hl1 := hll.1
  have hl2 := hll.2.1
  have hrr := (hll.2.2.2 r (List.mem_of_getElem? hr)).1
  have hk := (List.getElem?_eq_some_iff.mp hr).1
  refine hll.len (fun n1 n2 => ?_)
  have hl3 : A.1 l.la = some (vL l.lc (l.rs.map RunD.a)) := hl2
  refine wv_s f89_0 rfl (fun _ => rfl) ?_
  refine wv_s f89_1 rfl (fun _ => rfl) ?_
  refine wv_s f89_2 rfl (fun _ => rfl) ?_
  refine wv_valV f89_3 (by decide) (by simp) (by simp) (by decide +kernel) (by assumption) (by rfl) (by decide +kernel) rfl (c68 hO hg hl) (by omega) ?_
  refine wv_st4 f89_6 rfl (fun _ _ => rfl) ?_
  refine wv_s f89_8 rfl (fun _ => rfl) ?_
  refine wv_zF_lt f89_9 (by omega) (by omega) ?_
  refine wv_s f89_12 rfl (fun _ => rfl) ?_
  refine wv_s f89_13 rfl (fun _ => rfl) ?_
  refine wv_valV f89_15 (by decide) (by simp) (by simp) (by decide +kernel) (by assumption) (by rfl) (by decide +kernel) rfl (c119 hll) (by omega) ?_
  refine wv_cT_lt f89_18 (by omega) (by omega) (by omega) ?_
  refine wv_s f89_32 rfl (fun _ => rfl) ?_
  refine wv_getfield f89_34 (by assumption) (by rfl) ?_
  refine wv_s f89_37 rfl (fun _ => rfl) ?_
  refine wv_lget f89_38 (by assumption) (by first | rfl | omega) ((by rw [List.getElem?_map, hr]; rfl)) (by omega) (by simp) ?_
  refine wv_cast f89_41 (by assumption) ?_
  exact wv_aret f89_44 (by rfl) (⟨rfl, rfl⟩)
theorem c89_t (hO : okO A F L o f w s c b fi y me ct) (hg : f.2.2[i]? = some g) (hl : g.lv[j]? = some l) : Wc sc 5 89 [.ref o, .int (zI i), .int (zI j), .int (zI l.rs.length)] A (fun v A' => v = .inr 0 ∧ A' = aThr A) := by
  show Wv sc 5 89 0 [some (.ref o), some (.int (zI i)), some (.int (zI j)), some (.int (zI l.rs.length)), none] [] A _
  have h1 := hO.ob
  have hll := hO.lv (List.mem_of_getElem? hg) (List.mem_of_getElem? hl)
  have hl1 := hll.1
  refine hll.len (fun n1 n2 => ?_)
  refine wv_s f89_0 rfl (fun _ => rfl) ?_
  refine wv_s f89_1 rfl (fun _ => rfl) ?_
  refine wv_s f89_2 rfl (fun _ => rfl) ?_
  refine wv_valV f89_3 (by decide) (by simp) (by simp) (by decide +kernel) (by assumption) (by rfl) (by decide +kernel) rfl (c68 hO hg hl) (by omega) ?_
  refine wv_st4 f89_6 rfl (fun _ _ => rfl) ?_
  refine wv_s f89_8 rfl (fun _ => rfl) ?_
  refine wv_zF_lt f89_9 (by omega) (by omega) ?_
  refine wv_s f89_12 rfl (fun _ => rfl) ?_
  refine wv_s f89_13 rfl (fun _ => rfl) ?_
  refine wv_valV f89_15 (by decide) (by simp) (by simp) (by decide +kernel) (by assumption) (by rfl) (by decide +kernel) rfl (c119 hll) (by omega) ?_
  refine wv_cF_lt f89_18 (by omega) (by omega) (by omega) ?_
  exact wv_throw f89_21 (by decide) (by simp) (by decide +kernel) (⟨rfl, rfl⟩)
theorem c48 (hO : okO A F L o f w s c b fi y me ct) (hg : f.2.2[i]? = some g) (hl : g.lv[j]? = some l) {k : Nat} (hr : l.rs[k]? = some r) : Wc sc 6 48 [.ref o, .int (zI i), .int (zI j), .int (zI k)] A (fun v A' => v = .inl (some (.int (zI r.id))) ∧ A' = A) := by
  show Wv sc 6 48 0 [some (.ref o), some (.int (zI i)), some (.int (zI j)), some (.int (zI k))] [] A _
  have h1 := hO.ob
  have hrr := ((hO.lv (List.mem_of_getElem? hg) (List.mem_of_getElem? hl)).2.2.2 r (List.mem_of_getElem? hr)).1
  refine wv_s f48_0 rfl (fun _ => rfl) ?_
  refine wv_s f48_1 rfl (fun _ => rfl) ?_
  refine wv_s f48_2 rfl (fun _ => rfl) ?_
  refine wv_s f48_3 rfl (fun _ => rfl) ?_
  refine wv_valV f48_4 (by decide) (by simp) (by simp) (by decide +kernel) (by assumption) (by rfl) (by decide +kernel) rfl (c89 hO hg hl hr) (by omega) ?_
  refine wv_getfield f48_7 (by assumption) (by rfl) ?_
  exact wv_iret f48_10 (by rfl) (⟨rfl, rfl⟩)
theorem c48_t (hO : okO A F L o f w s c b fi y me ct) (hg : f.2.2[i]? = some g) (hl : g.lv[j]? = some l) : Wc sc 6 48 [.ref o, .int (zI i), .int (zI j), .int (zI l.rs.length)] A (fun v A' => v = .inr 0 ∧ A' = aThr A) := by
  show Wv sc 6 48 0 [some (.ref o), some (.int (zI i)), some (.int (zI j)), some (.int (zI l.rs.length))] [] A _
  have h1 := hO.ob
  refine wv_s f48_0 rfl (fun _ => rfl) ?_
  refine wv_s f48_1 rfl (fun _ => rfl) ?_
  refine wv_s f48_2 rfl (fun _ => rfl) ?_
  refine wv_s f48_3 rfl (fun _ => rfl) ?_
  exact wv_thrV f48_4 (by decide) (by simp) (by simp) (by decide +kernel) h1 (by rfl) (by decide +kernel) rfl (c89_t hO hg hl) (by omega) (by decide +kernel) (by decide +kernel) (fun A' h => ⟨rfl, h⟩)
theorem c45 (hO : okO A F L o f w s c b fi y me ct) (hg : f.2.2[i]? = some g) (hl : g.lv[j]? = some l) {k : Nat} (hr : l.rs[k]? = some r) : Wc sc 6 45 [.ref o, .int (zI i), .int (zI j), .int (zI k)] A (fun v A' => v = .inl (some (.int (zI r.rows.length))) ∧ A' = A) := by
  show Wv sc 6 45 0 [some (.ref o), some (.int (zI i)), some (.int (zI j)), some (.int (zI k))] [] A _
  have h1 := hO.ob
  have hr0 := ((hO.lv (List.mem_of_getElem? hg) (List.mem_of_getElem? hl)).2.2.2 r (List.mem_of_getElem? hr))
  have hrr := hr0.1
  have hrl := hr0.2.1
  refine wv_s f45_0 rfl (fun _ => rfl) ?_
  refine wv_s f45_1 rfl (fun _ => rfl) ?_
  refine wv_s f45_2 rfl (fun _ => rfl) ?_
  refine wv_s f45_3 rfl (fun _ => rfl) ?_
  refine wv_valV f45_4 (by decide) (by simp) (by simp) (by decide +kernel) (by assumption) (by rfl) (by decide +kernel) rfl (c89 hO hg hl hr) (by omega) ?_
  refine wv_getfield f45_7 (by assumption) (by rfl) ?_
  refine wv_lsize f45_10 (by assumption) (by omega) (by simp) (fun hs => ?_)
  rw [List.length_map] at hs ⊢
  exact wv_iret f45_13 (by rfl) (⟨rfl, rfl⟩)
theorem c86 (hO : okO A F L o f w s c b fi y me ct) (hg : f.2.2[i]? = some g) (hl : g.lv[j]? = some l) {k : Nat} (hr : l.rs[k]? = some r) : Wc sc 6 86 [.ref o, .int (zI i), .int (zI j), .int (zI k)] A (fun v A' => v = .inl (some (.int (zI r.spans.length))) ∧ A' = A) := by
  show Wv sc 6 86 0 [some (.ref o), some (.int (zI i)), some (.int (zI j)), some (.int (zI k))] [] A _
  have h1 := hO.ob
  have hr0 := ((hO.lv (List.mem_of_getElem? hg) (List.mem_of_getElem? hl)).2.2.2 r (List.mem_of_getElem? hr))
  have hrr := hr0.1
  have hrl := hr0.2.2.1
  refine wv_s f86_0 rfl (fun _ => rfl) ?_
  refine wv_s f86_1 rfl (fun _ => rfl) ?_
  refine wv_s f86_2 rfl (fun _ => rfl) ?_
  refine wv_s f86_3 rfl (fun _ => rfl) ?_
  refine wv_valV f86_4 (by decide) (by simp) (by simp) (by decide +kernel) (by assumption) (by rfl) (by decide +kernel) rfl (c89 hO hg hl hr) (by omega) ?_
  refine wv_getfield f86_7 (by assumption) (by rfl) ?_
  refine wv_lsize f86_10 (by assumption) (by omega) (by simp) (fun hs => ?_)
  rw [List.length_map] at hs ⊢
  exact wv_iret f86_13 (by rfl) (⟨rfl, rfl⟩)
theorem c27 {p : Bool} (hO : okO A F L o f w s c b fi y me ct) (hg : f.2.2[i]? = some g) (hl : g.lv[j]? = some l) {k : Nat} (hr : l.rs[k]? = some r) : Wc sc 6 27 [.ref o, .int (zI i), .int (zI j), .int (zI k), .int (bI p)] A (fun v A' => v = .inl (some (.int (zI (if p then r.great else r.least)))) ∧ A' = A) := by
  show Wv sc 6 27 0 [some (.ref o), some (.int (zI i)), some (.int (zI j)), some (.int (zI k)), some (.int (bI p)), none] [] A _
  have h1 := hO.ob
  have hr0 := ((hO.lv (List.mem_of_getElem? hg) (List.mem_of_getElem? hl)).2.2.2 r (List.mem_of_getElem? hr))
  have hrr := hr0.1
  cases p
  · refine wv_s f27_0 rfl (fun _ => rfl) ?_
    refine wv_s f27_1 rfl (fun _ => rfl) ?_
    refine wv_s f27_2 rfl (fun _ => rfl) ?_
    refine wv_s f27_3 rfl (fun _ => rfl) ?_
    refine wv_valV f27_4 (by decide) (by simp) (by simp) (by decide +kernel) (by assumption) (by rfl) (by decide +kernel) rfl (c89 hO hg hl hr) (by omega) ?_
    refine wv_st5 f27_7 rfl (fun _ _ => rfl) ?_
    refine wv_s f27_9 rfl (fun _ => rfl) ?_
    refine wv_bT f27_11 (rfl) ?_
    refine wv_s f27_22 rfl (fun _ => rfl) ?_
    refine wv_getfield f27_24 (by assumption) (by rfl) ?_
    exact wv_iret f27_27 (by rfl) (⟨rfl, rfl⟩)
  · refine wv_s f27_0 rfl (fun _ => rfl) ?_
    refine wv_s f27_1 rfl (fun _ => rfl) ?_
    refine wv_s f27_2 rfl (fun _ => rfl) ?_
    refine wv_s f27_3 rfl (fun _ => rfl) ?_
    refine wv_valV f27_4 (by decide) (by simp) (by simp) (by decide +kernel) (by assumption) (by rfl) (by decide +kernel) rfl (c89 hO hg hl hr) (by omega) ?_
    refine wv_st5 f27_7 rfl (fun _ _ => rfl) ?_
    refine wv_s f27_9 rfl (fun _ => rfl) ?_
    refine wv_bF f27_11 (rfl) ?_
    refine wv_s f27_14 rfl (fun _ => rfl) ?_
    refine wv_getfield f27_16 (by assumption) (by rfl) ?_
    refine wv_s (pc' := 27) f27_19 rfl (fun _ => rfl) ?_
    exact wv_iret f27_27 (by rfl) (⟨rfl, rfl⟩)
theorem c64_l (hO : okO A F L o f w s c b fi y me ct) (hg : g ∈ f.2.2) (hx : i32 x) (hz : i32 z) : ∀ (k i : Nat) (x5 : Option Value), i + k = w.2.2.length →
    Wv sc 3 64 3 [some (.ref o), some (.ref g.a), some (.int (zI x)), some (.int (zI z)), some (.int (zI i)), x5] [] A (fun r A' => r = .inl (some (.int (bI ((w.2.2.drop i).any (fun v => v.memOf g.g && v.c.ov x z))))) ∧ A' = A)
  | 0, i, x5, hik => by
    have h1 := hO.ob
    have h2 := hO.wl
    have e : w.2.2.drop i = [] := List.drop_of_length_le (by omega)
    rw [e]
    refine wv_s f64_3 rfl (fun _ => rfl) ?_
    refine wv_s f64_5 rfl (fun _ => rfl) ?_
    refine wv_getfield f64_6 (by assumption) (by rfl) ?_
    refine wv_lsize f64_9 (by assumption) (by omega) (by simp) (fun hs => ?_)
    rw [List.length_map] at hs ⊢
    refine wv_cT_ge f64_12 (by omega) (by omega) (by omega) ?_
    refine wv_icon f64_59 ?_
    exact wv_iretB (p := false) f64_60 (by decide +kernel) ( ⟨rfl, rfl⟩)
  | k + 1, i, x5, hik => by
    have h1 := hO.ob
    have h2 := hO.wl
    have hf := hO.fm hg
    obtain ⟨v, hvm, hv0, hv1, hvd, -⟩ := at_i (show i < w.2.2.length by omega)
    have hv := hO.wr hvm
    have hv2 := hv.1
    have hvc := hv.2.1.1
    have nxt : ∀ x5, (v.memOf g.g && v.c.ov x z) = false → Wv sc 3 64 53 [some (.ref o), some (.ref g.a), some (.int (zI x)), some (.int (zI z)), some (.int (zI i)), x5] [] A (fun r A' => r = .inl (some (.int (bI ((w.2.2.drop i).any (fun v => v.memOf g.g && v.c.ov x z))))) ∧ A' = A) := by
      intro x5 e
      refine wv_inc4 f64_53 ?_
      refine wv_s (pc' := 3) f64_56 rfl (fun _ => rfl) ?_
      rw [hvd, List.any_cons, e, Bool.false_or]
      exact c64_l hO hg hx hz k (i + 1) x5 (by omega)
    refine wv_s f64_3 rfl (fun _ => rfl) ?_
    refine wv_s f64_5 rfl (fun _ => rfl) ?_
    refine wv_getfield f64_6 (by assumption) (by rfl) ?_
    refine wv_lsize f64_9 (by assumption) (by omega) (by simp) (fun hs => ?_)
    rw [List.length_map] at hs ⊢
    refine wv_cF_ge f64_12 (by omega) (by omega) (by omega) ?_
    refine wv_s f64_15 rfl (fun _ => rfl) ?_
    refine wv_getfield f64_16 (by assumption) (by rfl) ?_
    refine wv_s f64_19 rfl (fun _ => rfl) ?_
    refine wv_lget f64_21 (by assumption) (by first | rfl | omega) (hv1 _) (by omega) (by simp) ?_
    refine wv_cast f64_24 (by assumption) ?_
    refine wv_st5 f64_27 rfl (fun _ _ => rfl) ?_
    refine wv_s f64_29 rfl (fun _ => rfl) ?_
    refine wv_s f64_31 rfl (fun _ => rfl) ?_
    refine wv_valV f64_32 (by decide) (by simp) (by simp) (by decide +kernel) (by assumption) (by rfl) (by decide +kernel) rfl (c153 hv hf.1 hf.2.2.2.1) (by omega) ?_
    refine wv_bX f64_35 (fun hb => ?_) (fun hb => ?_)
    · exact nxt _ (by rw [hb]; rfl)
    · refine wv_s f64_38 rfl (fun _ => rfl) ?_
      refine wv_getfield f64_40 (by assumption) (by rfl) ?_
      refine wv_s f64_43 rfl (fun _ => rfl) ?_
      refine wv_s f64_44 rfl (fun _ => rfl) ?_
      refine wv_valV f64_45 (by decide) (by simp) (by simp) (by decide +kernel) (by assumption) (by rfl) (by decide +kernel) rfl (c102 hv.2.1 hx hz) (by omega) ?_
      refine wv_bX f64_48 (fun hb2 => ?_) (fun hb2 => ?_)
      · exact nxt _ (by rw [hb2, Bool.and_false])
      · refine wv_icon f64_51 ?_
        exact wv_iretB (p := true) f64_52 (by decide +kernel) ( ⟨by rw [hvd, List.any_cons, hb, hb2]; rfl, rfl⟩)
theorem c64 (hO : okO A F L o f w s c b fi y me ct) (hg : g ∈ f.2.2) (hx : i32 x) (hz : i32 z) : Wc sc 3 64 [.ref o, .ref g.a, .int (zI x), .int (zI z)] A (fun r A' => r = .inl (some (.int (bI (w.2.2.any (fun v => v.memOf g.g && v.c.ov x z))))) ∧ A' = A) := by
  show Wv sc 3 64 0 [some (.ref o), some (.ref g.a), some (.int (zI x)), some (.int (zI z)), none, none] [] A _
  refine wv_icon f64_0 ?_
  refine wv_st4 f64_1 rfl (fun _ _ => rfl) ?_
  exact c64_l hO hg hx hz w.2.2.length 0 _ (by omega)
theorem c70_l (hO : okO A F L o f w s c b fi y me ct) : ∀ (k i n : Nat) (p : Bool) (x4 : Option Value), i + k = w.2.2.length → n ≤ i →
    Wv sc 3 70 6 [some (.ref o), some (.int (zI n)), some (.int (bI p)), some (.int (zI i)), x4] [] A (fun r A' => r = .inl (some (.int (zI (n + logN p (w.2.2.drop i) : Nat)))) ∧ A' = A)
  | 0, i, n, p, x4, hik, hn => by
    have h1 := hO.ob
    have h2 := hO.wl
    have e : w.2.2.drop i = [] := List.drop_of_length_le (by omega)
    rw [e]
    refine wv_s f70_6 rfl (fun _ => rfl) ?_
    refine wv_s f70_7 rfl (fun _ => rfl) ?_
    refine wv_getfield f70_8 (by assumption) (by rfl) ?_
    refine wv_lsize f70_11 (by assumption) (by omega) (by simp) (fun hs => ?_)
    rw [List.length_map] at hs ⊢
    refine wv_cT_ge f70_14 (by omega) (by omega) (by omega) ?_
    refine wv_s f70_77 rfl (fun _ => rfl) ?_
    exact wv_iret f70_78 (by rfl) (⟨rfl, rfl⟩)
  | k + 1, i, n, p, x4, hik, hn => by
    have h1 := hO.ob
    have h2 := hO.wl
    obtain ⟨v, hvm, hv0, hv1, hvd, -⟩ := at_i (show i < w.2.2.length by omega)
    have hv := hO.wr hvm
    have hv2 := hv.1
    have hz3 := hv.2.2.2.2
    have h20 := hv.2.2.2.1
    have nxt : ∀ n2, n2 = n + (if (p || v.mem) = true ∧ v.z ≠ 0 ∧ v.s = 0 then 1 else 0) → Wv sc 3 70 71 [some (.ref o), some (.int (zI n2)), some (.int (bI (p || v.mem))), some (.int (zI i)), some (.ref v.a)] [] A (fun r A' => r = .inl (some (.int (zI (n + logN p (w.2.2.drop i) : Nat)))) ∧ A' = A) := by
      intro n2 e
      refine wv_inc3 f70_71 ?_
      refine wv_s (pc' := 6) f70_74 rfl (fun _ => rfl) ?_
      refine (c70_l hO k (i + 1) n2 (p || v.mem) _ (by omega) (by split at e <;> omega)).up (Nat.le_refl _) (fun r A' h => ?_)
      rw [hvd, show n + logN p (v :: w.2.2.drop (i + 1)) = n2 + logN (p || v.mem) (w.2.2.drop (i + 1)) by rw [e]; simp only [logN]; omega]
      exact h
    have rest : Wv sc 3 70 48 [some (.ref o), some (.int (zI n)), some (.int (bI (p || v.mem))), some (.int (zI i)), some (.ref v.a)] [] A (fun r A' => r = .inl (some (.int (zI (n + logN p (w.2.2.drop i) : Nat)))) ∧ A' = A) := by
      refine wv_s f70_48 rfl (fun _ => rfl) ?_
      refine wv_bX f70_49 (fun hb => ?_) (fun hb => ?_)
      · exact nxt n (by rw [if_neg (by rw [hb]; intro w; cases w.1)]; omega)
      · refine wv_s f70_52 rfl (fun _ => rfl) ?_
        refine wv_getfield f70_54 (by assumption) (by rfl) ?_
        refine wv_zX_eq f70_57 (by omega) (fun hb2 => ?_) (fun hb2 => ?_)
        · exact nxt n (by rw [if_neg (by intro w; omega)]; omega)
        · refine wv_s f70_60 rfl (fun _ => rfl) ?_
          refine wv_valV f70_62 (by decide) (by simp) (by simp) (by decide +kernel) (by assumption) (by rfl) (by decide +kernel) rfl (c151 hv) (by omega) ?_
          by_cases hs0 : 0 < v.s
          · refine wv_nT f70_65 (decide_eq_true hs0) ?_
            exact nxt n (by rw [if_neg (by intro w; omega)]; omega)
          · refine wv_nF f70_65 (decide_eq_false hs0) ?_
            refine wv_inc1 f70_68 ?_
            exact nxt (n + 1) (by rw [if_pos ⟨hb, by omega, by omega⟩])
    refine wv_s f70_6 rfl (fun _ => rfl) ?_
    refine wv_s f70_7 rfl (fun _ => rfl) ?_
    refine wv_getfield f70_8 (by assumption) (by rfl) ?_
    refine wv_lsize f70_11 (by assumption) (by omega) (by simp) (fun hs => ?_)
    rw [List.length_map] at hs ⊢
    refine wv_cF_ge f70_14 (by omega) (by omega) (by omega) ?_
    refine wv_s f70_17 rfl (fun _ => rfl) ?_
    refine wv_getfield f70_18 (by assumption) (by rfl) ?_
    refine wv_s f70_21 rfl (fun _ => rfl) ?_
    refine wv_lget f70_22 (by assumption) (by first | rfl | omega) (hv1 _) (by omega) (by simp) ?_
    refine wv_cast f70_25 (by assumption) ?_
    refine wv_st4 f70_28 rfl (fun _ _ => rfl) ?_
    refine wv_s f70_30 rfl (fun _ => rfl) ?_
    refine wv_nX f70_31 (fun hp => ?_) (fun hp => ?_)
    · refine wv_icon f70_42 ?_
      refine wv_s (pc' := 47) f70_43 rfl (fun _ => rfl) ?_
      refine wv_st2 f70_47 rfl (fun _ _ => rfl) ?_
      rw [hp] at rest
      rw [show p = true from hp]
      exact rest
    · refine wv_s f70_34 rfl (fun _ => rfl) ?_
      refine wv_valV f70_36 (by decide) (by simp) (by simp) (by decide +kernel) (by assumption) (by rfl) (by decide +kernel) rfl (c152 hv) (by omega) ?_
      refine wv_bX f70_39 (fun hb => ?_) (fun hb => ?_)
      · refine wv_icon f70_46 ?_
        refine wv_st2 f70_47 rfl (fun _ _ => rfl) ?_
        rw [hp, hb] at rest
        rw [show p = false from hp]
        exact rest
      · refine wv_icon f70_42 ?_
        refine wv_s (pc' := 47) f70_43 rfl (fun _ => rfl) ?_
        refine wv_st2 f70_47 rfl (fun _ _ => rfl) ?_
        rw [hp, hb] at rest
        rw [show p = false from hp]
        exact rest
theorem c70 (hO : okO A F L o f w s c b fi y me ct) : Wc sc 3 70 [.ref o] A (fun r A' => r = .inl (some (.int (zI (logN false w.2.2 : Nat)))) ∧ A' = A) := by
  show Wv sc 3 70 0 [some (.ref o), none, none, none, none] [] A _
  refine wv_icon f70_0 ?_
  refine wv_st1 f70_1 rfl (fun _ _ => rfl) ?_
  refine wv_icon f70_2 ?_
  refine wv_st2 f70_3 rfl (fun _ _ => rfl) ?_
  refine wv_icon f70_4 ?_
  refine wv_st3 f70_5 rfl (fun _ _ => rfl) ?_
  refine (c70_l hO w.2.2.length 0 0 false none (by omega) (by omega)).up (Nat.le_refl _) (fun r A' h => ?_)
  rw [Nat.zero_add] at h
  exact h
theorem c67 (hO : okO A F L o f w s c b fi y me ct) : Wc sc 1 67 [.ref o] A (fun r A' => r = .inl (some (.int (zI w.2.2.length))) ∧ A' = A) := by
  show Wv sc 1 67 0 [some (.ref o)] [] A _
  have h1 := hO.ob
  have h2 := hO.wl
  refine wv_s f67_0 rfl (fun _ => rfl) ?_
  refine wv_getfield f67_1 (by assumption) (by rfl) ?_
  refine wv_lsize f67_4 (by assumption) (by omega) (by simp) (fun hs => ?_)
  rw [List.length_map] at hs ⊢
  exact wv_iret f67_7 (by rfl) (⟨rfl, rfl⟩)
theorem c97 (hO : okO A F L o f w s c b fi y me ct) : Wc sc 0 97 [.ref o] A (fun r A' => r = .inl (some (.int (zI ct.2.2.2.2.1))) ∧ A' = A) := by
  show Wv sc 0 97 0 [some (.ref o)] [] A _
  have h1 := hO.ob
  refine wv_s f97_0 rfl (fun _ => rfl) ?_
  refine wv_getfield f97_1 (by assumption) (by rfl) ?_
  exact wv_iret f97_4 (by rfl) (⟨rfl, rfl⟩)
theorem c46 (hO : okO A F L o f w s c b fi y me ct) : Wc sc 0 46 [.ref o] A (fun r A' => r = .inl (some (.int (zI ct.2.2.2.2.2.2.2.1))) ∧ A' = A) := by
  show Wv sc 0 46 0 [some (.ref o)] [] A _
  have h1 := hO.ob
  refine wv_s f46_0 rfl (fun _ => rfl) ?_
  refine wv_getfield f46_1 (by assumption) (by rfl) ?_
  exact wv_iret f46_4 (by rfl) (⟨rfl, rfl⟩)
theorem c22 (hO : okO A F L o f w s c b fi y me ct) : Wc sc 0 22 [.ref o] A (fun r A' => r = .inl (some (.int (zI ct.2.2.2.2.2.2.1))) ∧ A' = A) := by
  show Wv sc 0 22 0 [some (.ref o)] [] A _
  have h1 := hO.ob
  refine wv_s f22_0 rfl (fun _ => rfl) ?_
  refine wv_getfield f22_1 (by assumption) (by rfl) ?_
  exact wv_iret f22_4 (by rfl) (⟨rfl, rfl⟩)
theorem c26 (hO : okO A F L o f w s c b fi y me ct) : Wc sc 0 26 [.ref o] A (fun r A' => r = .inl (some (.int (zI ct.2.2.2.2.2.1))) ∧ A' = A) := by
  show Wv sc 0 26 0 [some (.ref o)] [] A _
  have h1 := hO.ob
  refine wv_s f26_0 rfl (fun _ => rfl) ?_
  refine wv_getfield f26_1 (by assumption) (by rfl) ?_
  exact wv_iret f26_4 (by rfl) (⟨rfl, rfl⟩)
theorem c61 (hO : okO A F L o f w s c b fi y me ct) : Wc sc 0 61 [.ref o] A (fun r A' => r = .inl (some (.int (bI me.isSome))) ∧ A' = A) := by
  show Wv sc 0 61 0 [some (.ref o)] [] A _
  have h1 := hO.ob
  cases me with
  | none =>
    refine wv_s f61_0 rfl (fun _ => rfl) ?_
    refine wv_getfield f61_1 (by assumption) (by rfl) ?_
    refine wv_s (pc' := 11) f61_4 rfl (fun _ => rfl) ?_
    refine wv_icon f61_11 ?_
    exact wv_iretB (p := false) f61_12 (by decide +kernel) ( ⟨rfl, rfl⟩)
  | some m =>
    refine wv_s f61_0 rfl (fun _ => rfl) ?_
    refine wv_getfield f61_1 (by assumption) (by rfl) ?_
    refine wv_s (pc' := 7) f61_4 rfl (fun _ => rfl) ?_
    refine wv_icon f61_7 ?_
    refine wv_s (pc' := 12) f61_8 rfl (fun _ => rfl) ?_
    exact wv_iretB (p := true) f61_12 (by decide +kernel) ( ⟨rfl, rfl⟩)
theorem c54 (hO : okO A F L o f w s c b fi y me ct) (ht : fi.2.1 = true) : Wc sc 0 54 [.ref o] A (fun r A' => r = .inl (some (.int fi.2.2.2)) ∧ A' = A) := by
  show Wv sc 0 54 0 [some (.ref o)] [] A _
  have h1 := hO.ob
  have h2 := hO.fic
  refine wv_s f54_0 rfl (fun _ => rfl) ?_
  refine wv_getfield f54_1 (by assumption) (by rfl) ?_
  refine wv_getfield f54_4 (by assumption) (by rfl) ?_
  refine wv_nT f54_7 (ht) ?_
  refine wv_s f54_20 rfl (fun _ => rfl) ?_
  refine wv_getfield f54_21 (by assumption) (by rfl) ?_
  refine wv_getfield f54_24 (by assumption) (by rfl) ?_
  exact wv_iret f54_27 (by rfl) (⟨rfl, rfl⟩)
theorem c54_t (hO : okO A F L o f w s c b fi y me ct) (ht : fi.2.1 = false) : Wc sc 0 54 [.ref o] A (fun r A' => r = .inr 3 ∧ A' = aThr A) := by
  show Wv sc 0 54 0 [some (.ref o)] [] A _
  have h1 := hO.ob
  have h2 := hO.fic
  refine wv_s f54_0 rfl (fun _ => rfl) ?_
  refine wv_getfield f54_1 (by assumption) (by rfl) ?_
  refine wv_getfield f54_4 (by assumption) (by rfl) ?_
  refine wv_nF f54_7 (ht) ?_
  exact wv_throw f54_10 (by decide) (by simp) (by decide +kernel) (⟨rfl, rfl⟩)
theorem c83_l (hO : okO A F L o f w s c b fi y me ct) (hx : i32 x) : ∀ (k i : Nat), i + k = s.2.2.length →
    Wv sc 3 83 2 [some (.ref o), some (.int (zI x)), some (.int (zI i))] [] A (fun r A' => r = .inl (some (.int (zI (plI x i ((s.2.2.drop i).map SnD.i))))) ∧ A' = A)
  | 0, i, hik => by
    have h1 := hO.ob
    have h2 := hO.sl
    have e : s.2.2.drop i = [] := List.drop_of_length_le (by omega)
    rw [e]
    refine wv_s f83_2 rfl (fun _ => rfl) ?_
    refine wv_s f83_3 rfl (fun _ => rfl) ?_
    refine wv_getfield f83_4 (by assumption) (by rfl) ?_
    refine wv_lsize f83_7 (by assumption) (by omega) (by simp) (fun hs => ?_)
    rw [List.length_map] at hs ⊢
    refine wv_cT_ge f83_10 (by omega) (by omega) (by omega) ?_
    refine wv_icon f83_39 ?_
    exact wv_iret f83_40 (by rfl) (⟨rfl, rfl⟩)
  | k + 1, i, hik => by
    have h1 := hO.ob
    have h2 := hO.sl
    obtain ⟨v, hvm, hv0, hv1, hvd, -⟩ := at_i (show i < s.2.2.length by omega)
    obtain ⟨hv, hvi, hvm2⟩ := hO.sn hvm
    rw [hvd, List.map_cons]
    refine wv_s f83_2 rfl (fun _ => rfl) ?_
    refine wv_s f83_3 rfl (fun _ => rfl) ?_
    refine wv_getfield f83_4 (by assumption) (by rfl) ?_
    refine wv_lsize f83_7 (by assumption) (by omega) (by simp) (fun hs => ?_)
    rw [List.length_map] at hs ⊢
    refine wv_cF_ge f83_10 (by omega) (by omega) (by omega) ?_
    refine wv_s f83_13 rfl (fun _ => rfl) ?_
    refine wv_getfield f83_14 (by assumption) (by rfl) ?_
    refine wv_s f83_17 rfl (fun _ => rfl) ?_
    refine wv_lget f83_18 (by assumption) (by first | rfl | omega) (hv1 _) (by omega) (by simp) ?_
    refine wv_cast f83_21 (by assumption) ?_
    refine wv_getfield f83_24 (by assumption) (by rfl) ?_
    refine wv_s f83_27 rfl (fun _ => rfl) ?_
    refine wv_cX_ne f83_28 (by omega) (by omega) (fun hb => ?_) (fun hb => ?_)
    · refine wv_inc2 f83_33 ?_
      refine wv_s (pc' := 2) f83_36 rfl (fun _ => rfl) ?_
      rw [show plI x i (v.i :: (s.2.2.drop (i + 1)).map SnD.i) = plI x (i + 1) ((s.2.2.drop (i + 1)).map SnD.i) by simp only [plI]; rw [if_neg hb]]
      exact c83_l hO hx k (i + 1) (by omega)
    · refine wv_s f83_31 rfl (fun _ => rfl) ?_
      exact wv_iret f83_32 (by rfl) (⟨by simp only [plI]; rw [if_pos hb], rfl⟩)
theorem c83 (hO : okO A F L o f w s c b fi y me ct) (hx : i32 x) : Wc sc 3 83 [.ref o, .int (zI x)] A (fun r A' => r = .inl (some (.int (zI (plI x 0 (s.2.2.map SnD.i))))) ∧ A' = A) := by
  show Wv sc 3 83 0 [some (.ref o), some (.int (zI x)), none] [] A _
  refine wv_icon f83_0 ?_
  refine wv_st2 f83_1 rfl (fun _ _ => rfl) ?_
  exact c83_l hO hx s.2.2.length 0 (by omega)
theorem c82_l (hO : okO A F L o f w s c b fi y me ct) (hx : i32 x) : ∀ (k i : Nat), i + k = c.2.2.length →
    Wv sc 3 82 2 [some (.ref o), some (.int (zI x)), some (.int (zI i))] [] A (fun r A' => r = .inl (some (.int (zI (plI x i ((c.2.2.drop i).map CuD.i))))) ∧ A' = A)
  | 0, i, hik => by
    have h1 := hO.ob
    have h2 := hO.cl
    have e : c.2.2.drop i = [] := List.drop_of_length_le (by omega)
    rw [e]
    refine wv_s f82_2 rfl (fun _ => rfl) ?_
    refine wv_s f82_3 rfl (fun _ => rfl) ?_
    refine wv_getfield f82_4 (by assumption) (by rfl) ?_
    refine wv_lsize f82_7 (by assumption) (by omega) (by simp) (fun hs => ?_)
    rw [List.length_map] at hs ⊢
    refine wv_cT_ge f82_10 (by omega) (by omega) (by omega) ?_
    refine wv_icon f82_39 ?_
    exact wv_iret f82_40 (by rfl) (⟨rfl, rfl⟩)
  | k + 1, i, hik => by
    have h1 := hO.ob
    have h2 := hO.cl
    obtain ⟨v, hvm, hv0, hv1, hvd, -⟩ := at_i (show i < c.2.2.length by omega)
    have hv := hO.cu hvm
    have hvi := (hO.2.2.2.2.1 v hvm).1
    rw [hvd, List.map_cons]
    refine wv_s f82_2 rfl (fun _ => rfl) ?_
    refine wv_s f82_3 rfl (fun _ => rfl) ?_
    refine wv_getfield f82_4 (by assumption) (by rfl) ?_
    refine wv_lsize f82_7 (by assumption) (by omega) (by simp) (fun hs => ?_)
    rw [List.length_map] at hs ⊢
    refine wv_cF_ge f82_10 (by omega) (by omega) (by omega) ?_
    refine wv_s f82_13 rfl (fun _ => rfl) ?_
    refine wv_getfield f82_14 (by assumption) (by rfl) ?_
    refine wv_s f82_17 rfl (fun _ => rfl) ?_
    refine wv_lget f82_18 (by assumption) (by first | rfl | omega) (hv1 _) (by omega) (by simp) ?_
    refine wv_cast f82_21 (by assumption) ?_
    refine wv_getfield f82_24 (by assumption) (by rfl) ?_
    refine wv_s f82_27 rfl (fun _ => rfl) ?_
    refine wv_cX_ne f82_28 (by omega) (by omega) (fun hb => ?_) (fun hb => ?_)
    · refine wv_inc2 f82_33 ?_
      refine wv_s (pc' := 2) f82_36 rfl (fun _ => rfl) ?_
      rw [show plI x i (v.i :: (c.2.2.drop (i + 1)).map CuD.i) = plI x (i + 1) ((c.2.2.drop (i + 1)).map CuD.i) by simp only [plI]; rw [if_neg hb]]
      exact c82_l hO hx k (i + 1) (by omega)
    · refine wv_s f82_31 rfl (fun _ => rfl) ?_
      exact wv_iret f82_32 (by rfl) (⟨by simp only [plI]; rw [if_pos hb], rfl⟩)
theorem c82 (hO : okO A F L o f w s c b fi y me ct) (hx : i32 x) : Wc sc 3 82 [.ref o, .int (zI x)] A (fun r A' => r = .inl (some (.int (zI (plI x 0 (c.2.2.map CuD.i))))) ∧ A' = A) := by
  show Wv sc 3 82 0 [some (.ref o), some (.int (zI x)), none] [] A _
  refine wv_icon f82_0 ?_
  refine wv_st2 f82_1 rfl (fun _ _ => rfl) ?_
  exact c82_l hO hx c.2.2.length 0 (by omega)
theorem plI_at {x : Int} : ∀ {l : List Nat} {i : Nat}, (plI x i l = -1 ∧ ∀ a, a ∈ l → (a : Int) ≠ x) ∨ ∃ j a, plI x i l = (i + j : Nat) ∧ l[j]? = some a ∧ (a : Int) = x
  | [], i => .inl ⟨rfl, fun a ha => by cases ha⟩
  | b :: t, i => by
    simp only [plI]
    split
    · rename_i h
      exact .inr ⟨0, b, rfl, rfl, h⟩
    · rename_i h
      rcases @plI_at x t (i + 1) with ⟨h1, h2⟩ | ⟨j, a, h1, h2, h3⟩
      · refine .inl ⟨h1, fun a ha => ?_⟩
        rcases List.mem_cons.mp ha with rfl | ha
        · exact h
        · exact h2 a ha
      · exact .inr ⟨j + 1, a, by rw [h1]; congr 1; omega, h2, h3⟩
theorem c76_n (hO : okO A F L o f w s c b fi y me ct) : Wc sc 4 76 [.ref o, .int (zI (-1))] A (fun r A' => r = .inl (some (.int (zI w.2.2.length))) ∧ A' = A) := by
  show Wv sc 4 76 0 [some (.ref o), some (.int (zI (-1))), none] [] A _
  have h1 := hO.ob
  have h2 := hO.wl
  refine wv_s f76_0 rfl (fun _ => rfl) ?_
  refine wv_icon f76_1 ?_
  refine wv_cF_ne f76_2 (by omega) (by omega) (by omega) ?_
  refine wv_s f76_5 rfl (fun _ => rfl) ?_
  refine wv_getfield f76_6 (by assumption) (by rfl) ?_
  refine wv_lsize f76_9 (by assumption) (by omega) (by simp) (fun hs => ?_)
  rw [List.length_map] at hs ⊢
  exact wv_iret f76_12 (by rfl) (⟨rfl, rfl⟩)
theorem c76_s (hO : okO A F L o f w s c b fi y me ct) (hx : 0 ≤ x) (hx2 : x ≤ 1000000) {k : Nat} {v : SnD} (hk : plI x 0 (s.2.2.map SnD.i) = k) (hv : s.2.2[k]? = some v) : Wc sc 4 76 [.ref o, .int (zI x)] A (fun r A' => r = .inl (some (.int (zI v.m))) ∧ A' = A) := by
  show Wv sc 4 76 0 [some (.ref o), some (.int (zI x)), none] [] A _
  have h1 := hO.ob
  have h2 := hO.sl
  have hkl := (List.getElem?_eq_some_iff.mp hv).1
  have h3 := (hO.sn (List.mem_of_getElem? hv)).1
  refine wv_cap h2 (fun n1 n2 => ?_)
  rw [List.length_map] at n2
  refine wv_s f76_0 rfl (fun _ => rfl) ?_
  refine wv_icon f76_1 ?_
  refine wv_cT_ne f76_2 (by omega) (by omega) (by omega) ?_
  refine wv_s f76_13 rfl (fun _ => rfl) ?_
  refine wv_s f76_14 rfl (fun _ => rfl) ?_
  refine wv_valV f76_15 (by decide) (by simp) (by simp) (by decide +kernel) (by assumption) (by rfl) (by decide +kernel) rfl (c83 hO (by omega)) (by omega) ?_
  refine wv_st2 f76_18 rfl (fun _ _ => rfl) ?_
  rw [hk]
  refine wv_s f76_19 rfl (fun _ => rfl) ?_
  refine wv_zF_lt f76_20 (by omega) (by omega) ?_
  refine wv_s f76_23 rfl (fun _ => rfl) ?_
  refine wv_s f76_24 rfl (fun _ => rfl) ?_
  refine wv_getfield f76_25 (by assumption) (by rfl) ?_
  refine wv_lsize f76_28 (by assumption) (by omega) (by simp) (fun hs => ?_)
  rw [List.length_map] at hs ⊢
  refine wv_cT_lt f76_31 (by omega) (by omega) (by omega) ?_
  refine wv_s f76_44 rfl (fun _ => rfl) ?_
  refine wv_getfield f76_45 (by assumption) (by rfl) ?_
  refine wv_s f76_48 rfl (fun _ => rfl) ?_
  refine wv_lget f76_49 (by assumption) (by first | rfl | omega) ((by rw [List.getElem?_map, hv]; rfl)) (by omega) (by simp) ?_
  refine wv_cast f76_52 (by assumption) ?_
  refine wv_getfield f76_55 (by assumption) (by rfl) ?_
  exact wv_iret f76_58 (by rfl) (⟨rfl, rfl⟩)
theorem c76_t (hO : okO A F L o f w s c b fi y me ct) (hx : 0 ≤ x) (hx2 : x ≤ 1000000) (hk : plI x 0 (s.2.2.map SnD.i) = -1) : Wc sc 4 76 [.ref o, .int (zI x)] A (fun r A' => r = .inr 0 ∧ A' = aThr A) := by
  show Wv sc 4 76 0 [some (.ref o), some (.int (zI x)), none] [] A _
  have h1 := hO.ob
  refine wv_s f76_0 rfl (fun _ => rfl) ?_
  refine wv_icon f76_1 ?_
  refine wv_cT_ne f76_2 (by omega) (by omega) (by omega) ?_
  refine wv_s f76_13 rfl (fun _ => rfl) ?_
  refine wv_s f76_14 rfl (fun _ => rfl) ?_
  refine wv_valV f76_15 (by decide) (by simp) (by simp) (by decide +kernel) (by assumption) (by rfl) (by decide +kernel) rfl (c83 hO (by omega)) (by omega) ?_
  refine wv_st2 f76_18 rfl (fun _ _ => rfl) ?_
  rw [hk]
  refine wv_s f76_19 rfl (fun _ => rfl) ?_
  refine wv_zT_lt f76_20 (by omega) (by omega) ?_
  exact wv_throw f76_34 (by decide) (by simp) (by decide +kernel) (⟨rfl, rfl⟩)
theorem c35 (hO : okO A F L o f w s c b fi y me ct) (hx : 0 ≤ x) (hx2 : x ≤ 1000000) {k : Nat} {v : CuD} (hk : plI x 0 (c.2.2.map CuD.i) = k) (hv : c.2.2[k]? = some v) : Wc sc 4 35 [.ref o, .int (zI x)] A (fun r A' => r = .inl (some (.ref v.a)) ∧ A' = A) := by
  show Wv sc 4 35 0 [some (.ref o), some (.int (zI x)), none] [] A _
  have h1 := hO.ob
  have h2 := hO.cl
  have hkl := (List.getElem?_eq_some_iff.mp hv).1
  have h3 := hO.cu (List.mem_of_getElem? hv)
  refine wv_cap h2 (fun n1 n2 => ?_)
  rw [List.length_map] at n2
  refine wv_s f35_0 rfl (fun _ => rfl) ?_
  refine wv_s f35_1 rfl (fun _ => rfl) ?_
  refine wv_valV f35_2 (by decide) (by simp) (by simp) (by decide +kernel) (by assumption) (by rfl) (by decide +kernel) rfl (c82 hO (by omega)) (by omega) ?_
  refine wv_st2 f35_5 rfl (fun _ _ => rfl) ?_
  rw [hk]
  refine wv_s f35_6 rfl (fun _ => rfl) ?_
  refine wv_zF_lt f35_7 (by omega) (by omega) ?_
  refine wv_s f35_10 rfl (fun _ => rfl) ?_
  refine wv_s f35_11 rfl (fun _ => rfl) ?_
  refine wv_getfield f35_12 (by assumption) (by rfl) ?_
  refine wv_lsize f35_15 (by assumption) (by omega) (by simp) (fun hs => ?_)
  rw [List.length_map] at hs ⊢
  refine wv_cT_lt f35_18 (by omega) (by omega) (by omega) ?_
  refine wv_s f35_31 rfl (fun _ => rfl) ?_
  refine wv_getfield f35_32 (by assumption) (by rfl) ?_
  refine wv_s f35_35 rfl (fun _ => rfl) ?_
  refine wv_lget f35_36 (by assumption) (by first | rfl | omega) ((by rw [List.getElem?_map, hv]; rfl)) (by omega) (by simp) ?_
  refine wv_cast f35_39 (by assumption) ?_
  exact wv_aret f35_42 (by rfl) (⟨rfl, rfl⟩)
end OL
