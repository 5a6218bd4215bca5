/-! MERGINGS: cell, home's cell, level, inputs, kept (cell, room, elements), greatest of the source, key, steps -/
abbrev MeD : Type := Nat × Nat × Nat × (Nat × Nat × List RunD) × (Nat × Nat × List ChD) × Int × Int × Nat
def MeD.a (m : MeD) : Nat := m.1
def MeD.h (m : MeD) : Nat := m.2.1
def MeD.lv (m : MeD) : Nat := m.2.2.1
def MeD.ia (m : MeD) : Nat := m.2.2.2.1.1
def MeD.ic (m : MeD) : Nat := m.2.2.2.1.2.1
def MeD.ins (m : MeD) : List RunD := m.2.2.2.1.2.2
def MeD.ka (m : MeD) : Nat := m.2.2.2.2.1.1
def MeD.kc (m : MeD) : Nat := m.2.2.2.2.1.2.1
def MeD.kept (m : MeD) : List ChD := m.2.2.2.2.1.2.2
def MeD.sg (m : MeD) : Int := m.2.2.2.2.2.1
def MeD.key (m : MeD) : Int := m.2.2.2.2.2.2.1
def MeD.dn (m : MeD) : Nat := m.2.2.2.2.2.2.2
def cMe (m : MeD) : vC := vO 7 [.ref m.h, .int (zI m.lv), .ref m.ia, .ref m.ka, .int (zI m.sg), .int (zI m.key), .int (zI m.dn)]
def lstR (m : Int) (l : List RunD) : Int := l.foldl (fun m r => min m r.least) m
def grtR (m : Int) (l : List RunD) : Int := l.foldl (fun m r => max m r.great) m
def nxK (key m : Int) (l : List RunD) : Int := l.foldl (fun m r => min m (kbh key r.rows)) m
def keepU (kept : List ChD) (rg : ChD) : Bool := kept.any (fun c => decide (c.n < rg.n) && rg.ov (c.f : Int) (c.f : Int))
def chI (mu : Int) : Nat → List RunD → Nat
  | _, [] => 0
  | i, r :: t => if mu < r.least then i else chI mu (i + 1) t
def pick (lv ch : Nat) : Nat → List RunD → List RunD
  | _, [] => []
  | i, r :: t => if lv = 0 ∨ i = ch then r :: pick lv ch (i + 1) t else pick lv ch (i + 1) t
theorem chI_le {mu : Int} : ∀ {l : List RunD} {i : Nat}, chI mu i l = 0 ∨ chI mu i l < i + l.length
  | [], i => .inl rfl
  | r :: t, i => by
    have := @chI_le mu t (i + 1)
    unfold chI
    simp only [List.length_cons]
    split <;> omega
theorem lstR_rg {V : Nat → Option vC} {l : List RunD} : ∀ {m : Int}, (0 ≤ m ∧ m ≤ 100) → (∀ r, r ∈ l → okRun V r) → 0 ≤ lstR m l ∧ lstR m l ≤ m := by
  induction l with
  | nil => intro m hm _; exact ⟨hm.1, Int.le_refl _⟩
  | cons c l ih =>
    intro m hm hl
    have h4 := (hl c (List.mem_cons_self ..)).rg
    have := @ih (min m c.least) (by omega) (fun c hc => hl c (List.mem_cons_of_mem _ hc))
    show 0 ≤ lstR (min m c.least) l ∧ lstR (min m c.least) l ≤ m
    omega
theorem grtR_rg {V : Nat → Option vC} {l : List RunD} : ∀ {m : Int}, (-1 ≤ m ∧ m ≤ 99) → (∀ r, r ∈ l → okRun V r) → m ≤ grtR m l ∧ grtR m l ≤ 99 := by
  induction l with
  | nil => intro m hm _; exact ⟨Int.le_refl _, hm.2⟩
  | cons c l ih =>
    intro m hm hl
    have h4 := (hl c (List.mem_cons_self ..)).rg
    have := @ih (max m c.great) (by omega) (fun c hc => hl c (List.mem_cons_of_mem _ hc))
    show m ≤ grtR (max m c.great) l ∧ grtR (max m c.great) l ≤ 99
    omega
theorem kbh_rg {V : Nat → Option vC} {x : Int} : ∀ {l : List ChD}, (∀ c, c ∈ l → okCh V c) → 0 ≤ kbh x l ∧ kbh x l ≤ 100
  | [], _ => ⟨show (0 : Int) ≤ 100 by decide, show (100 : Int) ≤ 100 by decide⟩
  | c :: l, h => by
    have h1 := (h c (List.mem_cons_self ..)).2.2.2.1
    have h2 := @kbh_rg V x l (fun c hc => h c (List.mem_cons_of_mem _ hc))
    unfold kbh
    split <;> omega
section C11
variable {sc : gSc} {d : Nat} {A : gA} {x y z : Int} {r : RunD} {l : LvD} {f h : FamD} {F : Nat → Option vC} {q j ia ic ka kc : Nat} {v0 v1 v2 v3 v4 v5 v6 : Value} {L : List (Nat × vC)} {ins : List RunD} {kept : List ChD} {rg : ChD}
theorem c134_l (hm : A.1 q = some (vO 7 [v0, v1, .ref ia, v3, v4, v5, v6])) (hl : A.1 ia = some (vL ic (ins.map RunD.a))) (hk : ∀ r, r ∈ ins → okRun A.1 r) : ∀ (k i : Nat) (mn : Int), i + k = ins.length → 0 ≤ mn → mn ≤ 100 →
    Wv sc 3 134 5 [some (.ref q), some (.int (zI mn)), some (.int (zI i))] [] A (fun o A' => o = .inl (some (.int (zI (lstR mn (ins.drop i))))) ∧ A' = A)
  | 0, i, mn, hik, h0, h1 => by
    refine wv_s f134_5 rfl (fun _ => rfl) ?_
    refine wv_s f134_6 rfl (fun _ => rfl) ?_
    refine wv_getfield f134_7 (by assumption) (by rfl) ?_
    refine wv_lsize f134_10 (by assumption) (by omega) (by simp) (fun hs => ?_)
    rw [List.length_map] at hs ⊢
    have e : ins.drop i = [] := List.drop_of_length_le (by omega)
    rw [e]
    refine wv_cT_ge f134_13 (by omega) (by omega) (by omega) ?_
    refine wv_s f134_41 rfl (fun _ => rfl) ?_
    exact wv_iret f134_42 (by rfl) (⟨rfl, rfl⟩)
  | k + 1, i, mn, hik, h0, h1 => by
    have hi : i < ins.length := by omega
    obtain ⟨c, hcm, hc0, hc1, hcd, -⟩ := at_i hi
    have hc := (hk c hcm).1
    have hf := (hk c hcm).rg
    refine wv_s f134_5 rfl (fun _ => rfl) ?_
    refine wv_s f134_6 rfl (fun _ => rfl) ?_
    refine wv_getfield f134_7 (by assumption) (by rfl) ?_
    refine wv_lsize f134_10 (by assumption) (by omega) (by simp) (fun hs => ?_)
    rw [List.length_map] at hs ⊢
    rw [hcd]
    refine wv_cF_ge f134_13 (by omega) (by omega) (by omega) ?_
    refine wv_s f134_16 rfl (fun _ => rfl) ?_
    refine wv_s f134_17 rfl (fun _ => rfl) ?_
    refine wv_getfield f134_18 (by assumption) (by rfl) ?_
    refine wv_s f134_21 rfl (fun _ => rfl) ?_
    refine wv_lget f134_22 (by assumption) (by first | rfl | omega) (hc1 _) (by omega) (by simp) ?_
    refine wv_cast f134_25 (by assumption) ?_
    refine wv_getfield f134_28 (by assumption) (by rfl) ?_
    refine wv_valS f134_31 (by decide) (by simp) (by simp) (by decide +kernel) (cc_min (by omega) (by omega)) (by omega) ?_
    refine wv_st1 f134_34 rfl (fun _ _ => rfl) ?_
    refine wv_inc2 f134_35 ?_
    refine wv_s (pc' := 5) f134_38 rfl (fun _ => rfl) ?_
    exact c134_l hm hl hk k (i + 1) (min mn c.least) (by omega) (by omega) (by omega)
theorem c134 (hm : A.1 q = some (vO 7 [v0, v1, .ref ia, v3, v4, v5, v6])) (hl : A.1 ia = some (vL ic (ins.map RunD.a))) (hk : ∀ r, r ∈ ins → okRun A.1 r) : Wc sc 3 134 [.ref q] A (fun o A' => o = .inl (some (.int (zI (lstR 100 ins)))) ∧ A' = A) := by
  show Wv sc 3 134 0 [some (.ref q), none, none] [] A _
  refine wv_bip f134_0 (by decide) ?_
  refine wv_st1 f134_2 rfl (fun _ _ => rfl) ?_
  refine wv_icon f134_3 ?_
  refine wv_st2 f134_4 rfl (fun _ _ => rfl) ?_
  exact c134_l hm hl hk ins.length 0 100 (by omega) (by omega) (by omega)
theorem c132_l (hm : A.1 q = some (vO 7 [v0, v1, .ref ia, v3, v4, v5, v6])) (hl : A.1 ia = some (vL ic (ins.map RunD.a))) (hk : ∀ r, r ∈ ins → okRun A.1 r) : ∀ (k i : Nat) (mn : Int), i + k = ins.length → -1 ≤ mn → mn ≤ 99 →
    Wv sc 3 132 4 [some (.ref q), some (.int (zI mn)), some (.int (zI i))] [] A (fun o A' => o = .inl (some (.int (zI (grtR mn (ins.drop i))))) ∧ A' = A)
  | 0, i, mn, hik, h0, h1 => by
    refine wv_s f132_4 rfl (fun _ => rfl) ?_
    refine wv_s f132_5 rfl (fun _ => rfl) ?_
    refine wv_getfield f132_6 (by assumption) (by rfl) ?_
    refine wv_lsize f132_9 (by assumption) (by omega) (by simp) (fun hs => ?_)
    rw [List.length_map] at hs ⊢
    have e : ins.drop i = [] := List.drop_of_length_le (by omega)
    rw [e]
    refine wv_cT_ge f132_12 (by omega) (by omega) (by omega) ?_
    refine wv_s f132_40 rfl (fun _ => rfl) ?_
    exact wv_iret f132_41 (by rfl) (⟨rfl, rfl⟩)
  | k + 1, i, mn, hik, h0, h1 => by
    have hi : i < ins.length := by omega
    obtain ⟨c, hcm, hc0, hc1, hcd, -⟩ := at_i hi
    have hc := (hk c hcm).1
    have hf := (hk c hcm).rg
    refine wv_s f132_4 rfl (fun _ => rfl) ?_
    refine wv_s f132_5 rfl (fun _ => rfl) ?_
    refine wv_getfield f132_6 (by assumption) (by rfl) ?_
    refine wv_lsize f132_9 (by assumption) (by omega) (by simp) (fun hs => ?_)
    rw [List.length_map] at hs ⊢
    rw [hcd]
    refine wv_cF_ge f132_12 (by omega) (by omega) (by omega) ?_
    refine wv_s f132_15 rfl (fun _ => rfl) ?_
    refine wv_s f132_16 rfl (fun _ => rfl) ?_
    refine wv_getfield f132_17 (by assumption) (by rfl) ?_
    refine wv_s f132_20 rfl (fun _ => rfl) ?_
    refine wv_lget f132_21 (by assumption) (by first | rfl | omega) (hc1 _) (by omega) (by simp) ?_
    refine wv_cast f132_24 (by assumption) ?_
    refine wv_getfield f132_27 (by assumption) (by rfl) ?_
    refine wv_valS f132_30 (by decide) (by simp) (by simp) (by decide +kernel) (cc_max (by omega) (by omega)) (by omega) ?_
    refine wv_st1 f132_33 rfl (fun _ _ => rfl) ?_
    refine wv_inc2 f132_34 ?_
    refine wv_s (pc' := 4) f132_37 rfl (fun _ => rfl) ?_
    exact c132_l hm hl hk k (i + 1) (max mn c.great) (by omega) (by omega) (by omega)
theorem c132 (hm : A.1 q = some (vO 7 [v0, v1, .ref ia, v3, v4, v5, v6])) (hl : A.1 ia = some (vL ic (ins.map RunD.a))) (hk : ∀ r, r ∈ ins → okRun A.1 r) : Wc sc 3 132 [.ref q] A (fun o A' => o = .inl (some (.int (zI (grtR (-1) ins)))) ∧ A' = A) := by
  show Wv sc 3 132 0 [some (.ref q), none, none] [] A _
  refine wv_icon f132_0 ?_
  refine wv_st1 f132_1 rfl (fun _ _ => rfl) ?_
  refine wv_icon f132_2 ?_
  refine wv_st2 f132_3 rfl (fun _ _ => rfl) ?_
  exact c132_l hm hl hk ins.length 0 (-1) (by omega) (by omega) (by omega)
theorem c135_l {key : Int} (hm : A.1 q = some (vO 7 [v0, v1, .ref ia, v3, v4, .int (zI key), v6])) (hkey : i32 key) (hl : A.1 ia = some (vL ic (ins.map RunD.a))) (hk : ∀ r, r ∈ ins → okRun A.1 r) : ∀ (k i : Nat) (mn : Int), i + k = ins.length → 0 ≤ mn → mn ≤ 100 →
    Wv sc 4 135 5 [some (.ref q), some (.int (zI mn)), some (.int (zI i))] [] A (fun o A' => o = .inl (some (.int (zI (nxK key mn (ins.drop i))))) ∧ A' = A)
  | 0, i, mn, hik, h0, h1 => by
    refine wv_s f135_5 rfl (fun _ => rfl) ?_
    refine wv_s f135_6 rfl (fun _ => rfl) ?_
    refine wv_getfield f135_7 (by assumption) (by rfl) ?_
    refine wv_lsize f135_10 (by assumption) (by omega) (by simp) (fun hs => ?_)
    rw [List.length_map] at hs ⊢
    have e : ins.drop i = [] := List.drop_of_length_le (by omega)
    rw [e]
    refine wv_cT_ge f135_13 (by omega) (by omega) (by omega) ?_
    refine wv_s f135_45 rfl (fun _ => rfl) ?_
    exact wv_iret f135_46 (by rfl) (⟨rfl, rfl⟩)
  | k + 1, i, mn, hik, h0, h1 => by
    have hi : i < ins.length := by omega
    obtain ⟨c, hcm, hc0, hc1, hcd, -⟩ := at_i hi
    have hc0 := hk c hcm
    have hc := hc0.1
    have hf := @kbh_rg A.1 key c.rows hc0.2.2.2.1
    refine wv_s f135_5 rfl (fun _ => rfl) ?_
    refine wv_s f135_6 rfl (fun _ => rfl) ?_
    refine wv_getfield f135_7 (by assumption) (by rfl) ?_
    refine wv_lsize f135_10 (by assumption) (by omega) (by simp) (fun hs => ?_)
    rw [List.length_map] at hs ⊢
    rw [hcd]
    refine wv_cF_ge f135_13 (by omega) (by omega) (by omega) ?_
    refine wv_s f135_16 rfl (fun _ => rfl) ?_
    refine wv_s f135_17 rfl (fun _ => rfl) ?_
    refine wv_getfield f135_18 (by assumption) (by rfl) ?_
    refine wv_s f135_21 rfl (fun _ => rfl) ?_
    refine wv_lget f135_22 (by assumption) (by first | rfl | omega) (hc1 _) (by omega) (by simp) ?_
    refine wv_cast f135_25 (by assumption) ?_
    refine wv_s f135_28 rfl (fun _ => rfl) ?_
    refine wv_getfield f135_29 (by assumption) (by rfl) ?_
    refine wv_valV f135_32 (by decide) (by simp) (by simp) (by decide +kernel) (by assumption) (by rfl) (by decide +kernel) rfl (c145 hc0 hkey) (by omega) ?_
    refine wv_valS f135_35 (by decide) (by simp) (by simp) (by decide +kernel) (cc_min (by omega) (by omega)) (by omega) ?_
    refine wv_st1 f135_38 rfl (fun _ _ => rfl) ?_
    refine wv_inc2 f135_39 ?_
    refine wv_s (pc' := 5) f135_42 rfl (fun _ => rfl) ?_
    exact c135_l hm hkey hl hk k (i + 1) (min mn (kbh key c.rows)) (by omega) (by omega) (by omega)
theorem c135 {key : Int} (hm : A.1 q = some (vO 7 [v0, v1, .ref ia, v3, v4, .int (zI key), v6])) (hkey : i32 key) (hl : A.1 ia = some (vL ic (ins.map RunD.a))) (hk : ∀ r, r ∈ ins → okRun A.1 r) : Wc sc 4 135 [.ref q] A (fun o A' => o = .inl (some (.int (zI (nxK key 100 ins)))) ∧ A' = A) := by
  show Wv sc 4 135 0 [some (.ref q), none, none] [] A _
  refine wv_bip f135_0 (by decide) ?_
  refine wv_st1 f135_2 rfl (fun _ _ => rfl) ?_
  refine wv_icon f135_3 ?_
  refine wv_st2 f135_4 rfl (fun _ _ => rfl) ?_
  exact c135_l hm hkey hl hk ins.length 0 100 (by omega) (by omega) (by omega)
theorem c131 {ho oth : Nat} {lv fl x y : Int} (hm : A.1 q = some (vO 7 [.ref ho, .int (zI lv), .ref ia, v3, v4, v5, v6])) (hl : A.1 ia = some (vL ic (ins.map RunD.a))) (hk : ∀ r, r ∈ ins → okRun A.1 r) (hlv : 0 ≤ lv ∧ lv ≤ 10) (hfl : i32 fl) (hx : i32 x) (hy : i32 y) :
    Wc sc 4 131 [.ref q, .ref oth, .int (zI fl), .int (zI x), .int (zI y)] A (fun o A' => o = .inl (some (.int (bI (decide (ho = oth ∧ (fl = lv ∨ fl = lv + 1) ∧ lstR 100 ins ≤ y ∧ x ≤ grtR (-1) ins))))) ∧ A' = A) := by
  show Wv sc 4 131 0 [some (.ref q), some (.ref oth), some (.int (zI fl)), some (.int (zI x)), some (.int (zI y))] [] A _
  have g1 := @lstR_rg A.1 ins 100 (by omega) hk
  have g2 := @grtR_rg A.1 ins (-1) (by omega) hk
  have go : ho = oth → (fl = lv ∨ fl = lv + 1) → Wv sc 4 131 26 [some (.ref q), some (.ref oth), some (.int (zI fl)), some (.int (zI x)), some (.int (zI y))] [] A (fun o A' => o = .inl (some (.int (bI (decide (ho = oth ∧ (fl = lv ∨ fl = lv + 1) ∧ lstR 100 ins ≤ y ∧ x ≤ grtR (-1) ins))))) ∧ A' = A) := by
    intro e1 e2
    refine wv_s f131_26 rfl (fun _ => rfl) ?_
    refine wv_valV f131_27 (by decide) (by simp) (by simp) (by decide +kernel) (by assumption) (by rfl) (by decide +kernel) rfl (c134 hm hl hk) (by omega) ?_
    refine wv_s f131_30 rfl (fun _ => rfl) ?_
    refine wv_cX_gt f131_32 (by omega) (by omega) (fun hb => ?_) (fun hb => ?_)
    · refine wv_icon f131_47 ?_
      exact wv_iretB (p := false) f131_48 (by decide +kernel) ( ⟨bIf (fun w => by omega), rfl⟩)
    · refine wv_s f131_35 rfl (fun _ => rfl) ?_
      refine wv_s f131_36 rfl (fun _ => rfl) ?_
      refine wv_valV f131_37 (by decide) (by simp) (by simp) (by decide +kernel) (by assumption) (by rfl) (by decide +kernel) rfl (c132 hm hl hk) (by omega) ?_
      refine wv_cX_gt f131_40 (by omega) (by omega) (fun hb2 => ?_) (fun hb2 => ?_)
      · refine wv_icon f131_47 ?_
        exact wv_iretB (p := false) f131_48 (by decide +kernel) ( ⟨bIf (fun w => by omega), rfl⟩)
      · refine wv_icon f131_43 ?_
        refine wv_s (pc' := 48) f131_44 rfl (fun _ => rfl) ?_
        exact wv_iretB (p := true) f131_48 (by decide +kernel) ( ⟨bIt ⟨e1, e2, hb, hb2⟩, rfl⟩)
  refine wv_s f131_0 rfl (fun _ => rfl) ?_
  refine wv_getfield f131_1 (by assumption) (by rfl) ?_
  refine wv_s f131_4 rfl (fun _ => rfl) ?_
  refine wv_aX f131_5 (fun hb => ?_) (fun hb => ?_)
  · refine wv_icon f131_47 ?_
    exact wv_iretB (p := false) f131_48 (by decide +kernel) ( ⟨bIf (fun w => hb w.1), rfl⟩)
  · refine wv_s f131_8 rfl (fun _ => rfl) ?_
    refine wv_s f131_9 rfl (fun _ => rfl) ?_
    refine wv_getfield f131_10 (by assumption) (by rfl) ?_
    refine wv_cX_eq f131_13 (by omega) (by omega) (fun hb2 => ?_) (fun hb2 => ?_)
    · exact go hb (.inl hb2)
    · refine wv_s f131_16 rfl (fun _ => rfl) ?_
      refine wv_s f131_17 rfl (fun _ => rfl) ?_
      refine wv_getfield f131_18 (by assumption) (by rfl) ?_
      refine wv_icon f131_21 ?_
      refine wv_iadd f131_22 ?_
      refine wv_cX_ne f131_23 (by omega) (by omega) (fun hb3 => ?_) (fun hb3 => ?_)
      · refine wv_icon f131_47 ?_
        exact wv_iretB (p := false) f131_48 (by decide +kernel) ( ⟨bIf (fun w => w.2.1.elim hb2 hb3), rfl⟩)
      · exact go hb (.inr hb3)
theorem c133_l (hm : A.1 q = some (vO 7 [v0, v1, v2, .ref ka, v4, v5, v6])) (hl : A.1 ka = some (vL kc (kept.map ChD.a))) (hk : ∀ r, r ∈ kept → okCh A.1 r) (hr : okCh A.1 rg) : ∀ (k i : Nat) (x3 : Option Value), i + k = kept.length →
    Wv sc 3 133 2 [some (.ref q), some (.ref rg.a), some (.int (zI i)), x3] [] A (fun o A' => o = .inl (some (.int (bI (keepU (kept.drop i) rg)))) ∧ A' = A)
  | 0, i, x3, hik => by
    refine wv_s f133_2 rfl (fun _ => rfl) ?_
    refine wv_s f133_3 rfl (fun _ => rfl) ?_
    refine wv_getfield f133_4 (by assumption) (by rfl) ?_
    refine wv_lsize f133_7 (by assumption) (by omega) (by simp) (fun hs => ?_)
    rw [List.length_map] at hs ⊢
    have e : kept.drop i = [] := List.drop_of_length_le (by omega)
    rw [e]
    refine wv_cT_ge f133_10 (by omega) (by omega) (by omega) ?_
    refine wv_icon f133_59 ?_
    exact wv_iretB (p := false) f133_60 (by decide +kernel) ( ⟨rfl, rfl⟩)
  | k + 1, i, x3, hik => by
    have hi : i < kept.length := by omega
    obtain ⟨c, hcm, hc0, hc1, hcd, -⟩ := at_i hi
    have hc0 := hk c hcm
    have hc := hc0.1
    have hcn := hc0.2.2.1
    have hcf := hc0.2.2.2.1
    have hr0 := hr
    have hr2 := hr.1
    have hrn := hr.2.2.1
    have nxt : ∀ x3, (decide (c.n < rg.n) && rg.ov (c.f : Int) (c.f : Int)) = false → Wv sc 3 133 53 [some (.ref q), some (.ref rg.a), some (.int (zI i)), x3] [] A (fun o A' => o = .inl (some (.int (bI (keepU (kept.drop i) rg)))) ∧ A' = A) := by
      intro x3 e1
      refine wv_inc2 f133_53 ?_
      refine wv_s (pc' := 2) f133_56 rfl (fun _ => rfl) ?_
      refine (c133_l hm hl hk hr k (i + 1) x3 (by omega)).up (Nat.le_refl _) (fun o A' h => ?_)
      rw [hcd, show keepU (c :: kept.drop (i + 1)) rg = keepU (kept.drop (i + 1)) rg by simp only [keepU, List.any_cons, e1, Bool.false_or]]
      exact h
    refine wv_s f133_2 rfl (fun _ => rfl) ?_
    refine wv_s f133_3 rfl (fun _ => rfl) ?_
    refine wv_getfield f133_4 (by assumption) (by rfl) ?_
    refine wv_lsize f133_7 (by assumption) (by omega) (by simp) (fun hs => ?_)
    rw [List.length_map] at hs ⊢
    refine wv_cF_ge f133_10 (by omega) (by omega) (by omega) ?_
    refine wv_s f133_13 rfl (fun _ => rfl) ?_
    refine wv_getfield f133_14 (by assumption) (by rfl) ?_
    refine wv_s f133_17 rfl (fun _ => rfl) ?_
    refine wv_lget f133_18 (by assumption) (by first | rfl | omega) (hc1 _) (by omega) (by simp) ?_
    refine wv_cast f133_21 (by assumption) ?_
    refine wv_st3 f133_24 rfl (fun _ _ => rfl) ?_
    refine wv_s f133_25 rfl (fun _ => rfl) ?_
    refine wv_getfield f133_26 (by assumption) (by rfl) ?_
    refine wv_s f133_29 rfl (fun _ => rfl) ?_
    refine wv_getfield f133_30 (by assumption) (by rfl) ?_
    refine wv_cX_ge f133_33 (by omega) (by omega) (fun hb => ?_) (fun hb => ?_)
    · exact nxt _ (by rw [decide_eq_false (by omega)]; rfl)
    · refine wv_s f133_36 rfl (fun _ => rfl) ?_
      refine wv_s f133_37 rfl (fun _ => rfl) ?_
      refine wv_getfield f133_38 (by assumption) (by rfl) ?_
      refine wv_s f133_41 rfl (fun _ => rfl) ?_
      refine wv_getfield f133_42 (by assumption) (by rfl) ?_
      refine wv_valV f133_45 (by decide) (by simp) (by simp) (by decide +kernel) (by assumption) (by rfl) (by decide +kernel) rfl (c102 hr0 (by omega) (by omega)) (by omega) ?_
      refine wv_bX f133_48 (fun hb2 => ?_) (fun hb2 => ?_)
      · exact nxt _ (by rw [hb2, Bool.and_false])
      · refine wv_icon f133_51 ?_
        exact wv_iretB (p := true) f133_52 (by decide +kernel) ( ⟨by rw [hcd]; simp only [keepU, List.any_cons, hb2, decide_eq_true (show c.n < rg.n by omega), Bool.and_self, Bool.true_or], rfl⟩)
theorem c133 (hm : A.1 q = some (vO 7 [v0, v1, v2, .ref ka, v4, v5, v6])) (hl : A.1 ka = some (vL kc (kept.map ChD.a))) (hk : ∀ r, r ∈ kept → okCh A.1 r) (hr : okCh A.1 rg) : Wc sc 3 133 [.ref q, .ref rg.a] A (fun o A' => o = .inl (some (.int (bI (keepU kept rg)))) ∧ A' = A) := by
  show Wv sc 3 133 0 [some (.ref q), some (.ref rg.a), none, none] [] A _
  refine wv_icon f133_0 ?_
  refine wv_st2 f133_1 rfl (fun _ _ => rfl) ?_
  exact c133_l hm hl hk hr kept.length 0 none (by omega)
end C11
