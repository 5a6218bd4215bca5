/-! NEW FAMILIES, and one that becomes another -/
theorem gMay_lv {fs : List Value} : gMay (gComp 1) (.inl (6, fs)) = true := gMay_cls (z := (6, [])) rfl (by decide +kernel)
theorem perm4 {a b c d : Nat × vC} {D L : List (Nat × vC)} : (a :: b :: c :: d :: (D ++ L)).Perm (c :: d :: ((D ++ [a, b]) ++ L)) := List.Perm.append_right L (List.perm_append_comm (l₁ := [a, b]) (l₂ := c :: d :: D))
theorem fCells_app {l t : List LvD} : fCells (l ++ t) = fCells l ++ fCells t := List.flatMap_append
def nilLv (l : LvD) : Prop := l.mu = -1 ∧ l.rs = [] ∧ l.lc = 0
def capL : List LvD → Nat
  | [] => 0
  | l :: t => l.lc + capL t
def bec1 (l m l' : LvD) : Prop := l'.a = l.a ∧ l'.la = l.la ∧ l'.mu = m.mu ∧ l'.rs = m.rs ∧ l.lc ≤ l'.lc ∧ (l'.lc ≤ l.lc ∨ l'.lc ≤ 10 + 2 * m.rs.length)
def Bec : List LvD → List LvD → List LvD → Prop
  | [], [], [] => True
  | l :: t, m :: s, l' :: t' => bec1 l m l' ∧ Bec t s t'
  | _, _, _ => False
def inFL (F : Nat → Option vC) (L : List (Nat × vC)) (q : Nat) (c : vC) : Prop := F q = some c ∨ (q, c) ∈ L
theorem Own.fl {A : gA} {F : Nat → Option vC} {X L : List (Nat × vC)} {q : Nat} {c : vC} (h : Own A F (X ++ L)) (hi : inFL F L q c) : A.1 q = some c ∧ q ∉ X.map Prod.fst := by
  rcases hi with hi | hi
  · refine ⟨h.1 _ _ hi, fun hm => ?_⟩
    obtain ⟨p, hp, rfl⟩ := List.mem_map.mp hm
    rw [(h.2.1 p (List.mem_append_left _ hp)).2] at hi
    cases hi
  · refine ⟨h.at (List.mem_append_right _ hi), fun hm => ?_⟩
    have hn := h.2.2
    rw [List.map_append, List.nodup_append] at hn
    exact hn.2.2 q hm q (List.mem_map_of_mem (f := Prod.fst) hi) rfl
section C10
variable {sc : gSc} {d : Nat} {x y z : Int} {r : RunD} {l : LvD} {f h : FamD} {F : Nat → Option vC} {q j : Nat} {v0 v1 v2 v3 v4 v5 v6 : Value} {L : List (Nat × vC)}
theorem c104_l {g o va : Nat} : ∀ (k i : Nat) (A : gA) (dn : List LvD), i + k = 4 → dn.length = i → (∀ l, l ∈ dn → nilLv l) → Own A F ((va, vR (gComp 1) 4 (fun j => (dn.map LvD.a)[j]?)) :: (q, vO 4 [.int (zI g), .int (zI o), .ref va]) :: (fCells dn ++ L)) →
    Wv sc 4 104 24 [some (.ref q), some (.int (zI g)), some (.int (zI o)), some (.int (zI i))] [] A (fun r A' => r = .inl none ∧ ∃ dn : List LvD, dn.length = 4 ∧ (∀ l, l ∈ dn → nilLv l) ∧ Own A' F ((va, vR (gComp 1) 4 (fun j => (dn.map LvD.a)[j]?)) :: (q, vO 4 [.int (zI g), .int (zI o), .ref va]) :: (fCells dn ++ L)) ∧ A'.2.1 = A.2.1 + 2 * k ∧ A'.2.2 = A.2.2 + 5 * k)
  | 0, i, A, dn, hik, hdn, hnil, hO => by
    have f1 := hO.at (List.mem_cons_of_mem _ (List.mem_cons_self ..))
    have f2 := hO.at (List.mem_cons_self ..)
    refine wv_s f104_24 rfl (fun _ => rfl) ?_
    refine wv_s f104_25 rfl (fun _ => rfl) ?_
    refine wv_getfield f104_26 (by assumption) (by rfl) ?_
    refine wv_alenR f104_29 (by assumption) ?_
    refine wv_cT_ge f104_30 (by omega) (by omega) (by omega) ?_
    exact wv_vret f104_52 (by decide +kernel) (⟨rfl, dn, by omega, hnil, hO, by omega, by omega⟩)
  | k + 1, i, A, dn, hik, hdn, hnil, hO => by
    have f1 := hO.at (List.mem_cons_of_mem _ (List.mem_cons_self ..))
    have f2 := hO.at (List.mem_cons_self ..)
    refine wv_s f104_24 rfl (fun _ => rfl) ?_
    refine wv_s f104_25 rfl (fun _ => rfl) ?_
    refine wv_getfield f104_26 (by assumption) (by rfl) ?_
    refine wv_alenR f104_29 (by assumption) ?_
    refine wv_cF_ge f104_30 (by omega) (by omega) (by omega) ?_
    refine wv_s f104_33 rfl (fun _ => rfl) ?_
    refine wv_getfield f104_34 (by assumption) (by rfl) ?_
    refine wv_s f104_37 rfl (fun _ => rfl) ?_
    refine wv_newZ f104_38 (by decide) (by decide) (zs := [.null, .int 0]) (by rfl) (fun la hla => ?_)
    refine wv_s f104_41 rfl (fun _ => rfl) ?_
    have hO1 := hO.new (n := gN 6) (c := vO 6 [.null, .int 0]) hla
    refine wv_effI f104_42 (by decide) (by simp) (by simp) (by decide +kernel) (by rfl) (c117 hO1) (by omega) (fun A1 hA1 => ?_)
    obtain ⟨l, rfl, h1, h2, h3, hO2, h4, h5⟩ := hA1
    have f3 := hO2.at (List.mem_cons_self ..)
    have f4 := hO2.at (q := va) (List.mem_cons_of_mem _ (List.mem_cons_of_mem _ (List.mem_cons_self ..)))
    refine wv_aastore (j := i) f104_45 f4 f3 (by rfl) gMay_lv rfl (by omega) (by omega) ?_
    have hO3 := Own.put (L1 := [(l.a, cLv l), (l.la, cLl l)]) (c := vR (gComp 1) 4 (va_up (fun j => (dn.map LvD.a)[j]?) i (some l.a))) hO2
    have ev : va_up (fun j => (dn.map LvD.a)[j]?) i (some l.a) = (fun j => ((dn ++ [l]).map LvD.a)[j]?) := by
      funext j
      rw [List.map_append, show List.map LvD.a [l] = [l.a] from rfl, get_snoc, List.length_map, hdn]
      rfl
    rw [ev] at hO3 ⊢
    have hO4 := Own.perm hO3 perm4
    refine wv_inc3 f104_46 ?_
    refine wv_s (pc' := 24) f104_49 rfl (fun _ => rfl) ?_
    have hn5 : ∀ m, m ∈ dn ++ [l] → nilLv m := by
      intro m hm
      rcases List.mem_append.mp hm with hm | hm
      · exact hnil m hm
      · rw [List.mem_singleton.mp hm]
        exact ⟨h1, h2, h3⟩
    rw [show fCells dn ++ [(l.a, cLv l), (l.la, cLl l)] = fCells (dn ++ [l]) by rw [fCells_app]; rfl] at hO4
    refine (c104_l k (i + 1) _ (dn ++ [l]) (by omega) (by simp; omega) hn5 hO4).up (Nat.le_refl _) (fun r A' hq => ?_)
    · obtain ⟨g1, dn', g2, g3, g4, g5, g6⟩ := hq
      refine ⟨g1, dn', g2, g3, g4, ?_, ?_⟩
      · rw [g5]
        show A1.2.1 + 2 * k = _
        rw [h4]
        show A.2.1 + 1 + 1 + 2 * k = _
        omega
      · rw [g6]
        show A1.2.2 + 5 * k = _
        rw [h5]
        show A.2.2 + gN 6 + 3 + 5 * k = _
        rw [show gN 6 = 2 from by decide +kernel]
        omega
theorem c104 {A : gA} {g o : Nat} (hO : Own A F ((q, vO 4 [v0, v1, v2]) :: L)) (hg : g ≤ 3) (ho : o = 43 ∨ o = 62 ∨ o = 60) : Wc sc 4 104 [.ref q, .int (zI g), .int (zI o)] A (fun r A' => r = .inl none ∧ ∃ f F', f.a = q ∧ f.g = g ∧ f.o = o ∧ (∀ l, l ∈ f.lv → nilLv l) ∧ Ext F F' ∧ okFm F' f ∧ Own A' F' (fCells f.lv ++ L) ∧ A'.2.1 = A.2.1 + 9 ∧ A'.2.2 = A.2.2 + 24) := by
  show Wv sc 4 104 0 [some (.ref q), some (.int (zI g)), some (.int (zI o)), none] [] A _
  have hq := hO.at (List.mem_cons_self ..)
  refine wv_s f104_0 rfl (fun _ => rfl) ?_
  refine wv_objI f104_1 (by simp) ?_
  refine wv_s f104_4 rfl (fun _ => rfl) ?_
  refine wv_icon f104_5 ?_
  refine wv_anew (n := 4) f104_6 (by decide) (by first | rfl | omega) (by omega) (fun va hva => ?_)
  have hO1 := hO.new (n := 4) (c := vR (gComp 1) 4 (fun _ => none)) hva
  have f1 := hO1.at (List.mem_cons_of_mem _ (List.mem_cons_self ..))
  refine wv_putfield f104_9 (f1) (by simp) (by rfl) ?_
  refine wv_s f104_12 rfl (fun _ => rfl) ?_
  refine wv_s f104_13 rfl (fun _ => rfl) ?_
  refine wv_putfield f104_14 (aPut_self) (by simp) (by rfl) ?_
  refine wv_s f104_17 rfl (fun _ => rfl) ?_
  refine wv_s f104_18 rfl (fun _ => rfl) ?_
  refine wv_putfield f104_19 (aPut_self) (by simp) (by rcases ho with rfl | rfl | rfl <;> decide) ?_
  have hO2 := hO1.put (L1 := [(va, vR (gComp 1) 4 (fun _ => none))]) (c := vO 4 [.int (zI g), .int (zI o), .ref va])
  simp only [aPut_put]
  show Wv sc 4 104 22 _ _ (aPut (aNew A va (vR (gComp 1) 4 (fun _ => none)) 4) q (vO 4 [.int (zI g), .int (zI o), .ref va])) _
  refine wv_icon f104_22 ?_
  refine wv_st3 f104_23 rfl (fun _ _ => rfl) ?_
  refine (c104_l (L := L) 4 0 _ [] (by omega) rfl (fun l hl => by cases hl) hO2).up (Nat.le_refl _) (fun r A' hq => ?_)
  · obtain ⟨g1, dn, g2, g3, g4, g5, g6⟩ := hq
    have g7 := g4.frz
    have g8 := Own.frz g7
    have e1 := Own.ext_fz g4
    have e2 := Own.ext_fz g7
    refine ⟨g1, (q, g, o, va, dn), _, rfl, rfl, rfl, g3, fun x y h => e2 x y (e1 x y h), ⟨fz_self, e2 _ _ fz_self, g2, hg, ho⟩, g8, ?_, ?_⟩
    · rw [g5]
      show A.2.1 + 1 + 2 * 4 = _
      omega
    · rw [g6]
      show A.2.2 + 4 + 5 * 4 = _
      omega
theorem c105_l (hf : okFm F f) (hh : okFm F h) (hmm : ∀ m, m ∈ h.lv → inFL F L m.a (cLv m) ∧ inFL F L m.la (cLl m) ∧ (-1 ≤ m.mu ∧ m.mu ≤ 100) ∧ (∀ r, r ∈ m.rs → okRun F r) ∧ m.rs.length < 2600) : ∀ (t s dn : List LvD) (i : Nat) (A : gA), f.lv.drop i = t → h.lv.drop i = s → i ≤ 4 → Own A F ((fCells dn ++ fCells t) ++ L) →
    Wv sc 8 105 2 [some (.ref f.a), some (.ref h.a), some (.int (zI i))] [] A (fun o A' => o = .inl none ∧ ∃ t', Bec t s t' ∧ Own A' F ((fCells dn ++ fCells t') ++ L) ∧ 5 * A'.2.1 + capL t ≤ 5 * A.2.1 + capL t' ∧ A'.2.2 + 4 * capL t ≤ A.2.2 + 4 * capL t')
  | [], s, dn, i, A, ht, hs, hi, hO => by
    have hi4 : i = 4 := by
      have := congrArg List.length ht
      rw [List.length_drop, hf.2.2.1] at this
      simp at this
      omega
    have hs0 : s = [] := by
      rw [← hs]
      exact List.drop_of_length_le (by rw [hh.2.2.1]; omega)
    subst hs0
    obtain ⟨h1, h2, h3, h4, h5⟩ := hf.ext hO.1
    refine wv_s f105_2 rfl (fun _ => rfl) ?_
    refine wv_s f105_3 rfl (fun _ => rfl) ?_
    refine wv_getfield f105_4 (by assumption) (by rfl) ?_
    refine wv_alenR f105_7 (by assumption) ?_
    refine wv_cT_ge f105_8 (by omega) (by omega) (by omega) ?_
    exact wv_vret f105_31 (by decide +kernel) (⟨rfl, [], trivial, hO, by omega, by omega⟩)
  | l :: t, s, dn, i, A, ht, hs, hi, hO => by
    have hi4 : i < 4 := by
      have := congrArg List.length ht
      rw [List.length_drop, hf.2.2.1] at this
      simp at this
      omega
    have hfA := hf.ext hO.1
    have hhA := hh.ext hO.1
    obtain ⟨l', hlm, hl0, hl1, hld, -⟩ := at_lv hfA hi4
    obtain ⟨m, hm, hm0, hm1, hmd, -⟩ := at_lv hhA hi4
    rw [ht] at hld
    cases hld
    rw [hs] at hmd
    obtain ⟨m1, m2, m3, m4, m5⟩ := hmm m hm
    subst hmd
    obtain ⟨h1, h2, h3, h4, h5⟩ := id hfA
    have el : (fCells dn ++ fCells (l :: f.lv.drop (i + 1))) ++ L = (fCells dn ++ [(l.a, cLv l)]) ++ (l.la, cLl l) :: (fCells (f.lv.drop (i + 1)) ++ L) := by simp [fCells, lvCells]
    have n1 := (hO.fl m1)
    have n2 := (hO.fl m2)
    have f1 := hO.at (q := l.a) (c := cLv l) (by simp [fCells, lvCells])
    have f2 := hO.at (q := l.la) (c := cLl l) (by simp [fCells, lvCells])
    have n2' : m.la ≠ l.la := by
      rintro hx
      rw [hx] at n2
      exact n2.2 (by simp [fCells, lvCells])
    have n1' : m.a ≠ l.a := by
      rintro hx
      rw [hx] at n1
      exact n1.2 (by simp [fCells, lvCells])
    refine wv_s f105_2 rfl (fun _ => rfl) ?_
    refine wv_s f105_3 rfl (fun _ => rfl) ?_
    refine wv_getfield f105_4 (by assumption) (by rfl) ?_
    refine wv_alenR f105_7 (by assumption) ?_
    refine wv_cF_ge f105_8 (by omega) (by omega) (by omega) ?_
    refine wv_s f105_11 rfl (fun _ => rfl) ?_
    refine wv_getfield f105_12 (by assumption) (by rfl) ?_
    refine wv_s f105_15 rfl (fun _ => rfl) ?_
    refine wv_aaload (j := i) f105_16 (by assumption) (by rfl) (by first | rfl | omega) (by omega) (by omega) (hl1) ?_
    refine wv_s f105_17 rfl (fun _ => rfl) ?_
    refine wv_s f105_18 rfl (fun _ => rfl) ?_
    refine wv_valV f105_19 (by decide) (by simp) (by simp) (by decide +kernel) hhA.1 (by rfl) (by decide +kernel) rfl (c108 hhA rfl hm0) (by omega) ?_
    refine wv_effV f105_22 (by decide) (by simp) (by simp) (by decide +kernel) (f1) (by rfl) (by decide +kernel) rfl (c118 f1 f2 (m := m) ⟨n1.1, n2.1, m3, fun r hr => (m4 r hr).ext hO.1⟩ n2' m5) (by omega) (fun A1 hA1 => ?_)
    obtain ⟨A2, lc', kc, ks, hlg, rfl, rfl⟩ := hA1
    rw [el] at hO
    have hO1 := hO.lst (c := vL lc' (m.rs.map RunD.a)) (kc := kc) (ks := ks)
    rw [List.append_assoc] at hO1
    have hO2 := Own.put (c := vO 6 [.ref l.la, .int (zI m.mu)]) hO1
    refine wv_inc2 f105_25 ?_
    refine wv_s (pc' := 2) f105_28 rfl (fun _ => rfl) ?_
    have e5 : (fCells (dn ++ [(l.a, m.mu, l.la, lc', m.rs)]) ++ fCells (f.lv.drop (i + 1))) ++ L = fCells dn ++ (l.a, vO 6 [.ref l.la, .int (zI m.mu)]) :: ([] ++ (l.la, vL lc' (m.rs.map RunD.a)) :: (fCells (f.lv.drop (i + 1)) ++ L)) := by
      rw [fCells_app, List.append_assoc, List.append_assoc]
      rfl
    have hO3 : Own (aPut (aLst A l.la (vL lc' (m.rs.map RunD.a)) kc ks) l.a (vO 6 [.ref l.la, .int (zI m.mu)])) F ((fCells (dn ++ [(l.a, m.mu, l.la, lc', m.rs)]) ++ fCells (f.lv.drop (i + 1))) ++ L) := by
      rw [e5]
      exact hO2
    refine (c105_l hf hh hmm (f.lv.drop (i + 1)) (h.lv.drop (i + 1)) (dn ++ [(l.a, m.mu, l.la, lc', m.rs)]) (i + 1) _ rfl rfl (by omega) hO3).up (Nat.le_refl _) (fun o A' hq => ?_)
    · obtain ⟨g1, t', g2, g3, g4, g5⟩ := hq
      refine ⟨g1, (l.a, m.mu, l.la, lc', m.rs) :: t', ⟨⟨rfl, rfl, rfl, rfl, hlg.1, hlg.2.2.2⟩, g2⟩, ?_, ?_, ?_⟩
      · rw [fCells_app, List.append_assoc (fCells dn)] at g3
        exact g3
      · have a1 : 5 * A'.2.1 + capL (f.lv.drop (i + 1)) ≤ 5 * (A.2.1 + kc) + capL t' := g4
        have a2 := hlg.2.1
        show 5 * A'.2.1 + (l.lc + capL (f.lv.drop (i + 1))) ≤ 5 * A.2.1 + (lc' + capL t')
        omega
      · have a1 : A'.2.2 + 4 * capL (f.lv.drop (i + 1)) ≤ A.2.2 + ks + 4 * capL t' := g5
        have a2 := hlg.2.2.1
        show A'.2.2 + 4 * (l.lc + capL (f.lv.drop (i + 1))) ≤ A.2.2 + 4 * (lc' + capL t')
        omega
theorem c105 {A : gA} (hf : okFm F f) (hh : okFm F h) (hmm : ∀ m, m ∈ h.lv → inFL F L m.a (cLv m) ∧ inFL F L m.la (cLl m) ∧ (-1 ≤ m.mu ∧ m.mu ≤ 100) ∧ (∀ r, r ∈ m.rs → okRun F r) ∧ m.rs.length < 2600) (hO : Own A F (fCells f.lv ++ L)) :
    Wc sc 8 105 [.ref f.a, .ref h.a] A (fun o A' => o = .inl none ∧ ∃ t', Bec f.lv h.lv t' ∧ Own A' F (fCells t' ++ L) ∧ 5 * A'.2.1 + capL f.lv ≤ 5 * A.2.1 + capL t' ∧ A'.2.2 + 4 * capL f.lv ≤ A.2.2 + 4 * capL t') := by
  show Wv sc 8 105 0 [some (.ref f.a), some (.ref h.a), none] [] A _
  refine wv_icon f105_0 ?_
  refine wv_st2 f105_1 rfl (fun _ _ => rfl) ?_
  exact c105_l hf hh hmm f.lv h.lv [] 0 A rfl rfl (by omega) hO
end C10
