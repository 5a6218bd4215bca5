/-! RUN'S CONSTRUCTOR, partsOf, endOfKey, endOfRun -/
theorem runLen_le {k : Nat} : ∀ {l : List ChD}, runLen k l ≤ l.length
  | [] => Nat.le_refl _
  | c :: l => by
    have := @runLen_le k l
    unfold runLen
    simp only [List.length_cons]
    split <;> omega
theorem runLen_at {k : Nat} : ∀ {l : List ChD} {i : Nat} {c : ChD}, l[i]? = some c → (i < runLen k l → c.f = k) ∧ (i = runLen k l → c.f ≠ k)
  | [], i, c, h => by cases h
  | x :: l, 0, c, h => by
    cases h
    unfold runLen
    split
    · rename_i hx
      exact ⟨fun _ => hx, fun h => by omega⟩
    · rename_i hx
      exact ⟨fun h => by omega, fun _ => hx⟩
  | x :: l, i + 1, c, h => by
    have h9 := @runLen_at k l i c h
    unfold runLen
    split
    · exact ⟨fun h => h9.1 (by omega), fun h => h9.2 (by omega)⟩
    · exact ⟨fun h => by omega, fun h => by omega⟩
/-- a place where the key changes, or the end -/
def bnd (l : List ChD) (e : Nat) : Prop := e = l.length ∨ ∃ x y, l[e - 1]? = some x ∧ l[e]? = some y ∧ x.f ≠ y.f
theorem eok_ge {l : List ChD} {s : Nat} (h : l.length ≤ s) : eok l s = s := by
  unfold eok
  rw [List.drop_of_length_le h]
theorem eok_lt {l : List ChD} {s : Nat} (h : s < l.length) : ∃ c, l[s]? = some c ∧ eok l s = s + runLen c.f (l.drop s) ∧ s < eok l s ∧ eok l s ≤ l.length ∧ (∀ i x, s ≤ i → i < eok l s → l[i]? = some x → x.f = c.f) ∧ bnd l (eok l s) := by
  obtain ⟨c, -, hc, -, hd, -⟩ := at_i h
  have e : eok l s = s + runLen c.f (l.drop s) := by
    unfold eok
    rw [hd]
  have hle := @runLen_le c.f (l.drop s)
  rw [List.length_drop] at hle
  have h1 : 1 ≤ runLen c.f (l.drop s) := by
    rw [hd]
    unfold runLen
    rw [if_pos rfl]
    omega
  have hin : ∀ i x, s ≤ i → i < eok l s → l[i]? = some x → x.f = c.f := by
    intro i x hi hi2 hx
    have hx2 : (l.drop s)[i - s]? = some x := by
      rw [List.getElem?_drop]
      rw [show s + (i - s) = i by omega]
      exact hx
    exact (runLen_at hx2).1 (by omega)
  refine ⟨c, hc, e, by omega, by omega, hin, ?_⟩
  by_cases hlast : eok l s = l.length
  · exact .inl hlast
  · have hlt : eok l s < l.length := by omega
    refine .inr ⟨l[eok l s - 1]'(by omega), l[eok l s], List.getElem?_eq_getElem _, List.getElem?_eq_getElem _, ?_⟩
    rw [hin (eok l s - 1) _ (by omega) (by omega) (List.getElem?_eq_getElem (by omega))]
    have hx2 : (l.drop s)[runLen c.f (l.drop s)]? = some l[eok l s] := by
      rw [List.getElem?_drop, ← e]
      exact List.getElem?_eq_getElem hlt
    exact fun w => (runLen_at hx2).2 rfl w.symm
def EndP (l : List ChD) (s e : Nat) : Prop := s < e ∧ e ≤ l.length ∧ (e - s ≤ 6 ∨ e = eok l s) ∧ bnd l e
section C6
variable {sc : gSc} {d : Nat} {A : gA} {c : ChD} {x y : Int} {r : RunD} {F : Nat → Option vC} {q : Nat} {v0 v1 v2 v3 v4 v5 v6 : Value} {L : List (Nat × vC)}
theorem c43_l {l : List ChD} {la lc s key : Nat} (hl : A.1 la = some (vL lc (l.map ChD.a))) (hk : ∀ c, c ∈ l → okCh A.1 c) (hkey : key < 100) : ∀ (k e : Nat), e + k = l.length →
    Wv sc 3 43 28 [some (.ref la), some (.int (zI s)), some (.int (zI key)), some (.int (zI e))] [] A (fun o A' => o = .inl (some (.int (zI (e + runLen key (l.drop e) : Nat)))) ∧ A' = A)
  | 0, e, hik => by
    have e1 : l.drop e = [] := List.drop_of_length_le (by omega)
    rw [e1]
    refine wv_s f43_28 rfl (fun _ => rfl) ?_
    refine wv_s f43_29 rfl (fun _ => rfl) ?_
    refine wv_lsize f43_30 (by assumption) (by omega) (by simp) (fun hs => ?_)
    rw [List.length_map] at hs ⊢
    refine wv_cT_ge f43_33 (by omega) (by omega) (by omega) ?_
    refine wv_s f43_57 rfl (fun _ => rfl) ?_
    exact wv_iret f43_58 (by rfl) (⟨rfl, rfl⟩)
  | k + 1, e, hik => by
    have hi : e < l.length := by omega
    obtain ⟨c, hcm, hc0, hc1, hcd, -⟩ := at_i hi
    have hc := (hk c hcm).1
    have hcf := (hk c hcm).2.2.2.1
    rw [hcd]
    refine wv_s f43_28 rfl (fun _ => rfl) ?_
    refine wv_s f43_29 rfl (fun _ => rfl) ?_
    refine wv_lsize f43_30 (by assumption) (by omega) (by simp) (fun hs => ?_)
    rw [List.length_map] at hs ⊢
    refine wv_cF_ge f43_33 (by omega) (by omega) (by omega) ?_
    refine wv_s f43_36 rfl (fun _ => rfl) ?_
    refine wv_s f43_37 rfl (fun _ => rfl) ?_
    refine wv_lget f43_38 (by assumption) (by first | rfl | omega) (hc1 _) (by omega) (by simp) ?_
    refine wv_cast f43_41 (by assumption) ?_
    refine wv_getfield f43_44 (by assumption) (by rfl) ?_
    refine wv_s f43_47 rfl (fun _ => rfl) ?_
    refine wv_cX_ne f43_48 (by omega) (by omega) (fun hb => ?_) (fun hb => ?_)
    · refine wv_s f43_57 rfl (fun _ => rfl) ?_
      exact wv_iret f43_58 (by rfl) (⟨by unfold runLen; rw [if_neg (by omega)]; rfl, rfl⟩)
    · refine wv_inc3 f43_51 ?_
      refine wv_s (pc' := 28) f43_54 rfl (fun _ => rfl) ?_
      refine (c43_l hl hk hkey k (e + 1) (by omega)).up (Nat.le_refl _) (fun o A' h => ?_)
      unfold runLen
      rw [if_pos (by omega), show e + (1 + runLen key (l.drop (e + 1))) = e + 1 + runLen key (l.drop (e + 1)) by omega]
      exact h
theorem c43 {l : List ChD} {la lc s : Nat} (hl : A.1 la = some (vL lc (l.map ChD.a))) (hk : ∀ c, c ∈ l → okCh A.1 c) (hs4 : s ≤ 4000) : Wc sc 3 43 [.ref la, .int (zI s)] A (fun o A' => o = .inl (some (.int (zI (eok l s : Nat)))) ∧ A' = A) := by
  show Wv sc 3 43 0 [some (.ref la), some (.int (zI s)), none, none] [] A _
  refine wv_s f43_0 rfl (fun _ => rfl) ?_
  refine wv_zF_lt f43_1 (by omega) (by omega) ?_
  refine wv_s f43_4 rfl (fun _ => rfl) ?_
  refine wv_s f43_5 rfl (fun _ => rfl) ?_
  refine wv_lsize f43_6 (by assumption) (by omega) (by simp) (fun hs => ?_)
  rw [List.length_map] at hs ⊢
  refine wv_cX_lt f43_9 (by omega) (by omega) (fun hb => ?_) (fun hb => ?_)
  · have hi : s < l.length := by omega
    obtain ⟨c, hcm, hc0, hc1, hcd, -⟩ := at_i hi
    have hc := (hk c hcm).1
    have hcf := (hk c hcm).2.2.2.1
    refine wv_s f43_14 rfl (fun _ => rfl) ?_
    refine wv_s f43_15 rfl (fun _ => rfl) ?_
    refine wv_lget f43_16 (by assumption) (by first | rfl | omega) (hc1 _) (by omega) (by simp) ?_
    refine wv_cast f43_19 (by assumption) ?_
    refine wv_getfield f43_22 (by assumption) (by rfl) ?_
    refine wv_st2 f43_25 rfl (fun _ _ => rfl) ?_
    refine wv_s f43_26 rfl (fun _ => rfl) ?_
    refine wv_st3 f43_27 rfl (fun _ _ => rfl) ?_
    refine (c43_l hl hk hcf (l.length - s) s (by omega)).up (Nat.le_refl _) (fun o A' h => ?_)
    rw [show eok l s = s + runLen c.f (l.drop s) by unfold eok; rw [hcd]]
    exact h
  · refine wv_s f43_12 rfl (fun _ => rfl) ?_
    exact wv_iret f43_13 (by rfl) (⟨by rw [eok_ge (by omega)], rfl⟩)
theorem c44_l {l : List ChD} {la lc s : Nat} {x3 : Option Value} (hl : A.1 la = some (vL lc (l.map ChD.a))) (hk : ∀ c, c ∈ l → okCh A.1 c) (hlen : l.length ≤ 4000) (hs : s < l.length) : ∀ (k e : Nat) (x3 : Option Value), e + k = l.length → s < e → (e - s ≤ 6 ∨ e = eok l s) → bnd l e →
    Wv sc 4 44 6 [some (.ref la), some (.int (zI s)), some (.int (zI e)), x3] [] A (fun o A' => ∃ v, o = .inl (some v) ∧ ∃ e, v = .int (zI (e : Nat)) ∧ EndP l s e ∧ A' = A) := by
  intro k
  induction k using Nat.strongRecOn with
  | _ k ih =>
  intro e x3 hik hse h6 hb0
  refine wv_s f44_6 rfl (fun _ => rfl) ?_
  refine wv_s f44_7 rfl (fun _ => rfl) ?_
  refine wv_lsize f44_8 (by assumption) (by omega) (by simp) (fun hs => ?_)
  rw [List.length_map] at hs ⊢
  refine wv_cX_ge f44_11 (by omega) (by omega) (fun hb => ?_) (fun hb => ?_)
  · refine wv_s f44_40 rfl (fun _ => rfl) ?_
    exact wv_iret f44_41 (by rfl) (⟨_, rfl, e, rfl, ⟨hse, by omega, h6, hb0⟩, rfl⟩)
  · obtain ⟨z, -, -, z1, z2, -, z3⟩ := eok_lt (l := l) (s := e) (by omega)
    refine wv_s f44_14 rfl (fun _ => rfl) ?_
    refine wv_s f44_15 rfl (fun _ => rfl) ?_
    refine wv_valS f44_16 (by decide) (by simp) (by simp) (by decide +kernel) (c43 hl hk (by omega)) (by omega) ?_
    refine wv_st3 f44_19 rfl (fun _ _ => rfl) ?_
    refine wv_s f44_20 rfl (fun _ => rfl) ?_
    refine wv_s f44_21 rfl (fun _ => rfl) ?_
    refine wv_isub f44_22 ?_
    refine wv_bip f44_23 (by decide) ?_
    refine wv_cX_gt f44_25 (by omega) (by omega) (fun hb2 => ?_) (fun hb2 => ?_)
    · refine wv_s f44_33 rfl (fun _ => rfl) ?_
      exact wv_iret f44_34 (by rfl) (⟨_, rfl, e, rfl, ⟨hse, by omega, h6, hb0⟩, rfl⟩)
    · refine wv_s f44_28 rfl (fun _ => rfl) ?_
      refine wv_s f44_29 rfl (fun _ => rfl) ?_
      refine wv_cT_gt f44_30 (by omega) (by omega) (by omega) ?_
      refine wv_s f44_35 rfl (fun _ => rfl) ?_
      refine wv_st2 f44_36 rfl (fun _ _ => rfl) ?_
      refine wv_s (pc' := 6) f44_37 rfl (fun _ => rfl) ?_
      exact ih (l.length - eok l e) (by omega) (eok l e) _ (by omega) (by omega) (.inl (by omega)) z3
theorem c44 {l : List ChD} {la lc s : Nat} (hl : A.1 la = some (vL lc (l.map ChD.a))) (hk : ∀ c, c ∈ l → okCh A.1 c) (hlen : l.length ≤ 4000) (hs : s ≤ l.length) : Wc sc 4 44 [.ref la, .int (zI s)] A (fun o A' => ∃ v, o = .inl (some v) ∧ ∃ e, v = .int (zI (e : Nat)) ∧ (s < l.length → EndP l s e) ∧ (s = l.length → e = s) ∧ A' = A) := by
  show Wv sc 4 44 0 [some (.ref la), some (.int (zI s)), none, none] [] A _
  by_cases h0 : s < l.length
  · obtain ⟨z, -, -, z1, z2, -, z3⟩ := eok_lt (l := l) (s := s) h0
    refine wv_s f44_0 rfl (fun _ => rfl) ?_
    refine wv_s f44_1 rfl (fun _ => rfl) ?_
    refine wv_valS f44_2 (by decide) (by simp) (by simp) (by decide +kernel) (c43 hl hk (by omega)) (by omega) ?_
    refine wv_st2 f44_5 rfl (fun _ _ => rfl) ?_
    refine (c44_l (x3 := none) hl hk hlen h0 (l.length - eok l s) (eok l s) none (by omega) z1 (.inr rfl) z3).up (Nat.le_refl _) (fun o A' h => ?_)
    obtain ⟨v, h1, e, h2, h3, h4⟩ := h
    exact ⟨v, h1, e, h2, fun _ => h3, fun w => by omega, h4⟩
  · refine wv_s f44_0 rfl (fun _ => rfl) ?_
    refine wv_s f44_1 rfl (fun _ => rfl) ?_
    refine wv_valS f44_2 (by decide) (by simp) (by simp) (by decide +kernel) (c43 hl hk (by omega)) (by omega) ?_
    refine wv_st2 f44_5 rfl (fun _ _ => rfl) ?_
    refine wv_s f44_6 rfl (fun _ => rfl) ?_
    refine wv_s f44_7 rfl (fun _ => rfl) ?_
    refine wv_lsize f44_8 (by assumption) (by omega) (by simp) (fun hs9 => ?_)
    rw [List.length_map] at hs9 ⊢
    rw [eok_ge (by omega)]
    refine wv_cT_ge f44_11 (by omega) (by omega) (by omega) ?_
    refine wv_s f44_40 rfl (fun _ => rfl) ?_
    exact wv_iret f44_41 (by rfl) (⟨_, rfl, s, rfl, fun w => by omega, fun _ => rfl, rfl⟩)
/-- a new run -/
theorem c136 {id : Nat} {mg : Bool} {ra rc sa sc9 : Nat} {rows spans : List ChD} (hO : Own A F ((q, vO 8 [v0, v1, v2, v3, v4, v5, v6]) :: L)) (hid : id ≤ 1000000)
    (hra : F ra = some (vL rc (rows.map ChD.a))) (hsa : F sa = some (vL sc9 (spans.map ChD.a))) (hk1 : ∀ c, c ∈ rows → okCh F c) (hk2 : ∀ c, c ∈ spans → okCh F c) :
    Wc sc 5 136 [.ref q, .int (zI id), .int (bI mg), .ref ra, .ref sa] A (fun o A' => o = .inl none ∧ ∃ r F', r.a = q ∧ r.id = id ∧ r.mg = mg ∧ r.rows = rows ∧ r.spans = spans ∧ Ext F F' ∧ okRun F' r ∧ Own A' F' L ∧ A'.2.1 = A.2.1 + 1 ∧ A'.2.2 ≤ A.2.2 + 8 * rows.length) := by
  show Wv sc 5 136 0 [some (.ref q), some (.int (zI id)), some (.int (bI mg)), some (.ref ra), some (.ref sa)] [] A _
  have hq := hO.at (List.mem_cons_self ..)
  refine wv_s f136_0 rfl (fun _ => rfl) ?_
  refine wv_objI f136_1 (by simp) ?_
  refine wv_s f136_4 rfl (fun _ => rfl) ?_
  refine wv_s f136_5 rfl (fun _ => rfl) ?_
  refine wv_putfield f136_6 (hq) (by simp) (by rfl) ?_
  refine wv_s f136_9 rfl (fun _ => rfl) ?_
  refine wv_s f136_10 rfl (fun _ => rfl) ?_
  refine wv_putfield f136_11 (aPut_self) (by simp) (by cases mg <;> rfl) ?_
  refine wv_s f136_14 rfl (fun _ => rfl) ?_
  refine wv_s f136_15 rfl (fun _ => rfl) ?_
  refine wv_putfield f136_16 (aPut_self) (by simp) (by rfl) ?_
  refine wv_s f136_19 rfl (fun _ => rfl) ?_
  refine wv_s f136_20 rfl (fun _ => rfl) ?_
  refine wv_putfield f136_22 (aPut_self) (by simp) (by rfl) ?_
  simp only [aPut_put]
  have hO1 := hO.put (L1 := []) (c := vO 8 [.int (zI id), .int (bI mg), .ref ra, .ref sa, v4, v5, v6])
  have hF1 := hO1.1
  have g1 := @lstOf_rg rows 100 (by omega)
  have g2 := @lstOf_rg spans 100 (by omega)
  have g3 := @grtOf_rg F rows (-1) (by omega) hk1
  have g4 := @grtOf_rg F spans (-1) (by omega) hk2
  show Wv sc 5 136 25 _ _ (aPut A q (vO 8 [.int (zI id), .int (bI mg), .ref ra, .ref sa, v4, v5, v6])) _
  refine wv_s f136_25 rfl (fun _ => rfl) ?_
  refine wv_s f136_26 rfl (fun _ => rfl) ?_
  refine wv_valS f136_27 (by decide) (by simp) (by simp) (by decide +kernel) (c146 (hF1 _ _ hra) (fun c hc => (hk1 c hc).ext hF1)) (by omega) ?_
  refine wv_s f136_30 rfl (fun _ => rfl) ?_
  refine wv_valS f136_32 (by decide) (by simp) (by simp) (by decide +kernel) (c146 (hF1 _ _ hsa) (fun c hc => (hk2 c hc).ext hF1)) (by omega) ?_
  refine wv_valS f136_35 (by decide) (by simp) (by simp) (by decide +kernel) (cc_min (by omega) (by omega)) (by omega) ?_
  refine wv_putfield f136_38 (aPut_self) (by simp) (by rfl) ?_
  have hO2 := hO1.put (L1 := []) (c := vO 8 [.int (zI id), .int (bI mg), .ref ra, .ref sa, .int (zI (min (lstOf 100 rows) (lstOf 100 spans))), v5, v6])
  have hF2 := hO2.1
  show Wv sc 5 136 41 _ _ (aPut (aPut A q (vO 8 [.int (zI id), .int (bI mg), .ref ra, .ref sa, v4, v5, v6])) q (vO 8 [.int (zI id), .int (bI mg), .ref ra, .ref sa, .int (zI (min (lstOf 100 rows) (lstOf 100 spans))), v5, v6])) _
  refine wv_s f136_41 rfl (fun _ => rfl) ?_
  refine wv_s f136_42 rfl (fun _ => rfl) ?_
  refine wv_valS f136_43 (by decide) (by simp) (by simp) (by decide +kernel) (c142 (hF2 _ _ hra) (fun c hc => (hk1 c hc).ext hF2)) (by omega) ?_
  refine wv_s f136_46 rfl (fun _ => rfl) ?_
  refine wv_valS f136_48 (by decide) (by simp) (by simp) (by decide +kernel) (c142 (hF2 _ _ hsa) (fun c hc => (hk2 c hc).ext hF2)) (by omega) ?_
  refine wv_valS f136_51 (by decide) (by simp) (by simp) (by decide +kernel) (cc_max (by omega) (by omega)) (by omega) ?_
  refine wv_putfield f136_54 (aPut_self) (by simp) (by rfl) ?_
  have hO3 := hO2.put (L1 := []) (c := vO 8 [.int (zI id), .int (bI mg), .ref ra, .ref sa, .int (zI (min (lstOf 100 rows) (lstOf 100 spans))), .int (zI (max (grtOf (-1) rows) (grtOf (-1) spans))), v6])
  simp only [aPut_put] at hO3 ⊢
  have hF3 := hO3.1
  show Wv sc 5 136 57 _ _ (aPut A q (vO 8 [.int (zI id), .int (bI mg), .ref ra, .ref sa, .int (zI (min (lstOf 100 rows) (lstOf 100 spans))), .int (zI (max (grtOf (-1) rows) (grtOf (-1) spans))), v6])) _
  refine wv_s f136_57 rfl (fun _ => rfl) ?_
  refine wv_s f136_58 rfl (fun _ => rfl) ?_
  refine wv_resS f136_59 (by decide) (by simp) (by simp) (by decide +kernel) (c141 (hF3 _ _ hra) (fun c hc => (hk1 c hc).ext hF3)) (by omega) (fun v A1 hv => ?_)
  obtain ⟨fa, ff, hfa, rfl, rfl⟩ := hv
  have hO4 := hO3.new (n := 8 * dif (-1) rows) (c := vN .boolean (8 * dif (-1) rows) ff) hfa
  have hO5 := hO4.put (L1 := [(fa, vN .boolean (8 * dif (-1) rows) ff)]) (c := cRun (q, id, mg, (ra, rc, rows), (sa, sc9, spans), fa))
  have hO6 := hO5.frz
  have hO7 := Own.frz hO6
  have e1 := Own.ext_fz hO5
  have e2 := Own.ext_fz hO6
  have hdl := @dif_le rows (-1)
  refine wv_putfield f136_62 ((hO4.at (List.mem_cons_of_mem _ (List.mem_cons_self ..)))) (by simp) (by rfl) ?_
  exact wv_vret f136_65 (by decide +kernel) (⟨rfl, (q, id, mg, (ra, rc, rows), (sa, sc9, spans), fa), _, rfl, rfl, rfl, rfl, rfl, fun x y h => e2 x y (e1 x y h), ⟨fz_self, e2 _ _ (e1 _ _ hra), e2 _ _ (e1 _ _ hsa), fun c hc => ((hk1 c hc).ext e1).ext e2, fun c hc => ((hk2 c hc).ext e1).ext e2, ⟨ff, e2 _ _ fz_self⟩, hid⟩, hO7, rfl, by show A.2.2 + 8 * dif (-1) rows ≤ _; omega⟩)
end C6
