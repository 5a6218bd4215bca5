/-! A NEW MERGING, the parts of ranges, a new backup -/
section C12
variable {sc : gSc} {d : Nat} {A : gA} {x y z : Int} {r : RunD} {l : LvD} {f h : FamD} {F : Nat → Option vC} {q j ia ic ka kc : Nat} {v0 v1 v2 v3 v4 v5 v6 : Value} {L : List (Nat × vC)} {ins : List RunD} {kept : List ChD} {rg : ChD}
theorem c130_1 {Q : gO → gA → Prop} (hl : okLv A.1 l) : ∀ (k : Nat) (x4 : Option Value), k ≤ l.rs.length → k ≤ 4000 →
    (∀ x4, Wv sc 7 130 60 [some (.ref q), some (.ref l.a), some (.ref l.la), some (.int (zI (chI l.mu 0 l.rs))), x4] [] A Q) →
    Wv sc 7 130 27 [some (.ref q), some (.ref l.a), some (.ref l.la), some (.int (zI (chI l.mu k (l.rs.drop k)))), some (.int (zI ((k : Int) - 1)))] [] A Q
  | 0, x4, hk, h4, hQ => by
    rw [List.drop_zero]
    refine wv_s f130_27 rfl (fun _ => rfl) ?_
    refine wv_zT_lt f130_29 (by omega) (by omega) ?_
    exact hQ _
  | k + 1, x4, hk, h4, hQ => by
    have hl0 := hl
    obtain ⟨h1, h2, h3, h4'⟩ := hl
    obtain ⟨c, hcm, hc0, hc1, hcd, -⟩ := at_i (show k < l.rs.length by omega)
    have hc := h4' c hcm
    have hc2 := hc.1
    have hcr := hc.rg
    refine wv_s f130_27 rfl (fun _ => rfl) ?_
    refine wv_zF_lt f130_29 (by omega) (by omega) ?_
    refine wv_s f130_32 rfl (fun _ => rfl) ?_
    refine wv_s f130_33 rfl (fun _ => rfl) ?_
    refine wv_lget (j := k) f130_35 h2 (by omega) (hc1 _) (by omega) (by simp) ?_
    refine wv_cast f130_38 (by assumption) ?_
    refine wv_getfield f130_41 (by assumption) (by rfl) ?_
    refine wv_s f130_44 rfl (fun _ => rfl) ?_
    refine wv_getfield f130_45 (by assumption) (by rfl) ?_
    refine wv_cX_le f130_48 (by omega) (by omega) (fun hb => ?_) (fun hb => ?_)
    · refine wv_inc4 f130_54 ?_
      refine wv_s (pc' := 27) f130_57 rfl (fun _ => rfl) ?_
      rw [show ((k + 1 : Nat) : Int) - 1 + -1 = (k : Int) - 1 by omega, show chI l.mu (k + 1) (l.rs.drop (k + 1)) = chI l.mu k (l.rs.drop k) by rw [hcd]; simp only [chI]; rw [if_neg (by omega)]]
      exact c130_1 hl0 k none (by omega) (by omega) hQ
    · refine wv_s f130_51 rfl (fun _ => rfl) ?_
      refine wv_st3 f130_53 rfl (fun _ _ => rfl) ?_
      refine wv_inc4 f130_54 ?_
      refine wv_s (pc' := 27) f130_57 rfl (fun _ => rfl) ?_
      rw [show ((k + 1 : Nat) : Int) - 1 + -1 = (k : Int) - 1 by omega, show ((k + 1 : Nat) : Int) - 1 = ((chI l.mu k (l.rs.drop k) : Nat) : Int) by rw [hcd]; simp only [chI]; rw [if_pos (by omega)]; omega]
      exact c130_1 hl0 k none (by omega) (by omega) hQ
theorem c130_2 {lv ch : Nat} (hq : A.1 q = some (vO 7 [v0, .int (zI lv), .ref ia, v3, v4, v5, v6])) (hl : okLv A.1 l) (hne : l.la ≠ ia) (hia : A.1 ia = some (vL ic [])) (hlv : lv ≤ 3) (hch : ch ≤ 4000) (hlen : l.rs.length < 2600) : ∀ (k i ic1 : Nat) (A1 : gA) (dn : List RunD), i + k = l.rs.length → dn.length ≤ i → A1.1 ia = some (vL ic1 (dn.map RunD.a)) → (∀ x, x ≠ ia → A1.1 x = A.1 x) →
    Wv sc 7 130 63 [some (.ref q), some (.ref l.a), some (.ref l.la), some (.int (zI ch)), some (.int (zI i))] [] A1 (fun o A' => o = .inl none ∧ LsTo A1 ia ic1 ((dn ++ pick lv ch i (l.rs.drop i)).map RunD.a) A')
  | 0, i, ic1, A1, dn, hik, hdn, hi1, hoth => by
    have e : l.rs.drop i = [] := List.drop_of_length_le (by omega)
    obtain ⟨h1, h2, h3, h4⟩ := hl
    have g2 : A1.1 l.la = some (vL l.lc (l.rs.map RunD.a)) := (hoth _ hne).trans h2
    refine wv_s f130_63 rfl (fun _ => rfl) ?_
    refine wv_s f130_65 rfl (fun _ => rfl) ?_
    refine wv_lsize f130_66 (by assumption) (by omega) (by simp) (fun hs => ?_)
    rw [List.length_map] at hs ⊢
    refine wv_cT_ge f130_69 (by omega) (by omega) (by omega) ?_
    exact wv_vret f130_108 (by decide +kernel) (⟨rfl, by rw [e]; show LsTo A1 ia ic1 ((dn ++ []).map RunD.a) A1; rw [List.append_nil]; exact LsTo.refl hi1⟩)
  | k + 1, i, ic1, A1, dn, hik, hdn, hi1, hoth => by
    have hl0 := hl
    obtain ⟨c, hcm, hc0, hc1, hcd, -⟩ := at_i (show i < l.rs.length by omega)
    obtain ⟨h1, h2, h3, h4⟩ := hl
    have g2 : A1.1 l.la = some (vL l.lc (l.rs.map RunD.a)) := (hoth _ hne).trans h2
    have g1 := (hoth q (ne_ol hq hia)).trans hq
    have hc2 := (h4 c hcm).1
    have g3 := (hoth c.a (ne_ol hc2 hia)).trans hc2
    have hln : (dn.map RunD.a).length = dn.length := List.length_map _
    have yes : (lv = 0 ∨ i = ch) → Wv sc 7 130 85 [some (.ref q), some (.ref l.a), some (.ref l.la), some (.int (zI ch)), some (.int (zI i))] [] A1 (fun o A' => o = .inl none ∧ LsTo A1 ia ic1 ((dn ++ pick lv ch i (l.rs.drop i)).map RunD.a) A') := by
      intro hy
      refine wv_s f130_85 rfl (fun _ => rfl) ?_
      refine wv_getfield f130_86 (by assumption) (by rfl) ?_
      refine wv_s f130_89 rfl (fun _ => rfl) ?_
      refine wv_s f130_90 rfl (fun _ => rfl) ?_
      refine wv_lget f130_92 (by assumption) (by first | rfl | omega) (hc1 _) (by omega) (by simp) ?_
      refine wv_cast f130_95 (by assumption) ?_
      refine wv_ladd f130_98 (by assumption) (by assumption) (by decide +kernel) (by omega) (by omega) (by simp) (fun c1 k1 s1 hlg => ?_)
      refine wv_s f130_101 rfl (fun _ => rfl) ?_
      refine wv_inc4 f130_102 ?_
      refine wv_s (pc' := 63) f130_105 rfl (fun _ => rfl) ?_
      have e1 : dn.map RunD.a ++ [c.a] = (dn ++ [c]).map RunD.a := by rw [List.map_append]; rfl
      rw [e1]
      refine (c130_2 hq hl0 hne hia hlv hch hlen k (i + 1) c1 _ (dn ++ [c]) (by omega) (by simp; omega) aLst_self (fun x hx => by rw [aLst_ne hx]; exact hoth x hx)).up (Nat.le_refl _) (fun o A' hq' => ⟨hq'.1, ?_⟩)
      rw [hcd]
      simp only [pick, if_pos hy]
      have h9 := hq'.2
      rw [List.append_assoc] at h9
      refine LsTo.trans (l1 := (dn ++ [c]).map RunD.a) ⟨c1, k1, s1, lg_mono hlg (by simp), rfl⟩ (fun c2 hc2 => ?_) (by simp)
      rw [aLst_self] at hc2
      obtain ⟨rfl, -⟩ := vL_inj (Option.some.inj hc2)
      exact h9
    have no : ¬ (lv = 0 ∨ i = ch) → Wv sc 7 130 102 [some (.ref q), some (.ref l.a), some (.ref l.la), some (.int (zI ch)), some (.int (zI i))] [] A1 (fun o A' => o = .inl none ∧ LsTo A1 ia ic1 ((dn ++ pick lv ch i (l.rs.drop i)).map RunD.a) A') := by
      intro hy
      refine wv_inc4 f130_102 ?_
      refine wv_s (pc' := 63) f130_105 rfl (fun _ => rfl) ?_
      refine (c130_2 hq hl0 hne hia hlv hch hlen k (i + 1) ic1 A1 dn (by omega) (by omega) hi1 hoth).up (Nat.le_refl _) (fun o A' hq' => ⟨hq'.1, ?_⟩)
      rw [hcd]
      simp only [pick, if_neg hy]
      exact hq'.2
    refine wv_s f130_63 rfl (fun _ => rfl) ?_
    refine wv_s f130_65 rfl (fun _ => rfl) ?_
    refine wv_lsize f130_66 (by assumption) (by omega) (by simp) (fun hs => ?_)
    rw [List.length_map] at hs ⊢
    refine wv_cF_ge f130_69 (by omega) (by omega) (by omega) ?_
    refine wv_s f130_72 rfl (fun _ => rfl) ?_
    refine wv_getfield f130_73 (by assumption) (by rfl) ?_
    refine wv_zX_eq f130_76 (by omega) (fun hb => ?_) (fun hb => ?_)
    · exact yes (.inl (by omega))
    · refine wv_s f130_79 rfl (fun _ => rfl) ?_
      refine wv_s f130_81 rfl (fun _ => rfl) ?_
      refine wv_cX_ne f130_82 (by omega) (by omega) (fun hb2 => ?_) (fun hb2 => ?_)
      · exact no (by omega)
      · exact yes (.inr (by omega))
theorem c130 {lv ho : Nat} (hq : A.1 q = some (vO 7 [.ref ho, .int (zI lv), .ref ia, v3, v4, v5, v6])) (hho : ho = f.a) (hf : okFm A.1 f) (hlv : f.lv[lv]? = some l) (hl : okLv A.1 l) (hne : l.la ≠ ia) (hia : A.1 ia = some (vL ic [])) (hlen : l.rs.length < 2600) :
    Wc sc 7 130 [.ref q] A (fun o A' => o = .inl none ∧ LsTo A ia ic ((pick lv (chI l.mu 0 l.rs) 0 l.rs).map RunD.a) A') := by
  show Wv sc 7 130 0 [some (.ref q), none, none, none, none] [] A _
  subst hho
  have hj := (List.getElem?_eq_some_iff.mp hlv).1
  have h4 := hf.2.2.1
  have hf1 := hf.1
  have hl0 := hl
  obtain ⟨h1, h2, h3, h4'⟩ := hl
  have hch := @chI_le l.mu l.rs 0
  refine wv_s f130_0 rfl (fun _ => rfl) ?_
  refine wv_getfield f130_1 (by assumption) (by rfl) ?_
  refine wv_s f130_4 rfl (fun _ => rfl) ?_
  refine wv_getfield f130_5 (by assumption) (by rfl) ?_
  refine wv_valV f130_8 (by decide) (by simp) (by simp) (by decide +kernel) (by assumption) (by rfl) (by decide +kernel) rfl (c108 hf rfl hlv) (by omega) ?_
  refine wv_st1 f130_11 rfl (fun _ _ => rfl) ?_
  refine wv_s f130_12 rfl (fun _ => rfl) ?_
  refine wv_getfield f130_13 (by assumption) (by rfl) ?_
  refine wv_st2 f130_16 rfl (fun _ _ => rfl) ?_
  refine wv_icon f130_17 ?_
  refine wv_st3 f130_18 rfl (fun _ _ => rfl) ?_
  refine wv_s f130_19 rfl (fun _ => rfl) ?_
  refine wv_lsize f130_20 (by assumption) (by omega) (by simp) (fun hs => ?_)
  refine wv_icon f130_23 ?_
  refine wv_isub f130_24 ?_
  refine wv_st4 f130_25 rfl (fun _ _ => rfl) ?_
  rw [List.length_map] at hs ⊢
  have := @c130_1 sc A l q (fun o A' => o = .inl none ∧ LsTo A ia ic ((pick lv (chI l.mu 0 l.rs) 0 l.rs).map RunD.a) A') hl0 l.rs.length none (Nat.le_refl _) hs (fun x4 => by
    refine wv_icon f130_60 ?_
    refine wv_st4 f130_61 rfl (fun _ _ => rfl) ?_
    exact c130_2 hq hl0 hne hia (by omega) (by omega) hlen l.rs.length 0 ic A [] (by omega) (by simp) hia (fun x hx => rfl))
  rw [List.drop_length] at this
  exact this
theorem c129_l {ll : List RunD} {la lc : Nat} {sg least : Int} (hq : A.1 q = some (vO 7 [v0, v1, .ref ia, v3, .int (zI sg), v5, v6])) (hll : A.1 la = some (vL lc (ll.map RunD.a))) (hk : ∀ r, r ∈ ll → okRun A.1 r) (hne : la ≠ ia) (hx : i32 least) (hy : i32 sg) (hlen : ll.length + ins.length < 2600)
    (hkk : ∀ r, r ∈ ll → r.ra ≠ ia ∧ r.sa ≠ ia) (hia0 : ∃ c xs, A.1 ia = some (vL c xs)) : ∀ (k i ic1 : Nat) (A1 : gA) (dn : List RunD), i + k = ll.length → dn.length ≤ i + ins.length → A1.1 ia = some (vL ic1 (dn.map RunD.a)) → (∀ x, x ≠ ia → A1.1 x = A.1 x) →
    Wv sc 7 129 24 [some (.ref q), some (.int (zI least)), some (.ref la), some (.int (zI i))] [] A1 (fun o A' => o = .inl none ∧ LsTo A1 ia ic1 ((dn ++ (ll.drop i).filter (fun r => r.ov least sg)).map RunD.a) A')
  | 0, i, ic1, A1, dn, hik, hdn, hi1, hoth => by
    have e : ll.drop i = [] := List.drop_of_length_le (by omega)
    have g2 := (hoth _ hne).trans hll
    refine wv_s f129_24 rfl (fun _ => rfl) ?_
    refine wv_s f129_25 rfl (fun _ => rfl) ?_
    refine wv_lsize f129_26 (by assumption) (by omega) (by simp) (fun hs => ?_)
    rw [List.length_map] at hs ⊢
    refine wv_cT_ge f129_29 (by omega) (by omega) (by omega) ?_
    exact wv_vret f129_73 (by decide +kernel) (⟨rfl, by rw [e]; show LsTo A1 ia ic1 ((dn ++ []).map RunD.a) A1; rw [List.append_nil]; exact LsTo.refl hi1⟩)
  | k + 1, i, ic1, A1, dn, hik, hdn, hi1, hoth => by
    obtain ⟨c9, xs9, hia⟩ := id hia0
    obtain ⟨c, hcm, hc0, hc1, hcd, -⟩ := at_i (show i < ll.length by omega)
    have g2 := (hoth _ hne).trans hll
    have g1 := (hoth q (ne_ol hq hia)).trans hq
    have hcc := hk c hcm
    have hcr := hcc.rg
    have hc2 := hcc.1
    have g3 := (hoth c.a (ne_ol hc2 hia)).trans hc2
    have hln : (dn.map RunD.a).length = dn.length := List.length_map _
    have hcc1 : okRun A1.1 c := by
      obtain ⟨w1, w2, w3, w4, w5, ⟨ff, w6⟩, w7⟩ := hcc
      refine ⟨g3, (hoth _ (hkk c hcm).1).trans w2, (hoth _ (hkk c hcm).2).trans w3, fun z hz => ?_, fun z hz => ?_, ⟨ff, ?_⟩, w7⟩
      · have := w4 z hz
        exact ⟨(hoth _ (ne_ol this.1 hia)).trans this.1, this.2⟩
      · have := w5 z hz
        exact ⟨(hoth _ (ne_ol this.1 hia)).trans this.1, this.2⟩
      · exact (hoth _ (by
          rintro hw
          rw [hw, hia] at w6
          cases w6)).trans w6
    refine wv_s f129_24 rfl (fun _ => rfl) ?_
    refine wv_s f129_25 rfl (fun _ => rfl) ?_
    refine wv_lsize f129_26 (by assumption) (by omega) (by simp) (fun hs => ?_)
    rw [List.length_map] at hs ⊢
    refine wv_cF_ge f129_29 (by omega) (by omega) (by omega) ?_
    refine wv_s f129_32 rfl (fun _ => rfl) ?_
    refine wv_s f129_33 rfl (fun _ => rfl) ?_
    refine wv_lget f129_34 (by assumption) (by first | rfl | omega) (hc1 _) (by omega) (by simp) ?_
    refine wv_cast f129_37 (by assumption) ?_
    refine wv_s f129_40 rfl (fun _ => rfl) ?_
    refine wv_s f129_41 rfl (fun _ => rfl) ?_
    refine wv_getfield f129_42 (by assumption) (by rfl) ?_
    refine wv_valV f129_45 (by decide) (by simp) (by simp) (by decide +kernel) (by assumption) (by rfl) (by decide +kernel) rfl (c147 hcc1 hx hy) (by omega) ?_
    refine wv_bX f129_48 (fun hb => ?_) (fun hb => ?_)
    · refine wv_inc3 f129_67 ?_
      refine wv_s (pc' := 24) f129_70 rfl (fun _ => rfl) ?_
      refine (c129_l hq hll hk hne hx hy hlen hkk hia0 k (i + 1) ic1 A1 dn (by omega) (by omega) hi1 hoth).up (Nat.le_refl _) (fun o A' hq' => ⟨hq'.1, ?_⟩)
      rw [hcd, List.filter_cons_of_neg (by simp [hb])]
      exact hq'.2
    · refine wv_s f129_51 rfl (fun _ => rfl) ?_
      refine wv_getfield f129_52 (by assumption) (by rfl) ?_
      refine wv_s f129_55 rfl (fun _ => rfl) ?_
      refine wv_s f129_56 rfl (fun _ => rfl) ?_
      refine wv_lget f129_57 (by assumption) (by first | rfl | omega) (hc1 _) (by omega) (by simp) ?_
      refine wv_cast f129_60 (by assumption) ?_
      refine wv_ladd f129_63 (by assumption) (by assumption) (by decide +kernel) (by omega) (by omega) (by simp) (fun c1 k1 s1 hlg => ?_)
      refine wv_s f129_66 rfl (fun _ => rfl) ?_
      refine wv_inc3 f129_67 ?_
      refine wv_s (pc' := 24) f129_70 rfl (fun _ => rfl) ?_
      have e1 : dn.map RunD.a ++ [c.a] = (dn ++ [c]).map RunD.a := by rw [List.map_append]; rfl
      rw [e1]
      refine (c129_l hq hll hk hne hx hy hlen hkk hia0 k (i + 1) c1 _ (dn ++ [c]) (by omega) (by simp; omega) aLst_self (fun x hx => by rw [aLst_ne hx]; exact hoth x hx)).up (Nat.le_refl _) (fun o A' hq' => ⟨hq'.1, ?_⟩)
      rw [hcd, List.filter_cons_of_pos (p := fun r : RunD => r.ov least sg) hb]
      have h9 := hq'.2
      rw [List.append_assoc] at h9
      refine LsTo.trans (l1 := (dn ++ [c]).map RunD.a) ⟨c1, k1, s1, lg_mono hlg (by simp), rfl⟩ (fun c2 hc2 => ?_) (by simp)
      rw [aLst_self] at hc2
      obtain ⟨rfl, -⟩ := vL_inj (Option.some.inj hc2)
      exact h9
theorem c129 {lv ho : Nat} {sg : Int} (hq : A.1 q = some (vO 7 [.ref ho, .int (zI lv), .ref ia, v3, .int (zI sg), v5, v6])) (hho : ho = f.a) (hf : okFm A.1 f) (hlv : f.lv[lv + 1]? = some l) (hl : okLv A.1 l) (hne : l.la ≠ ia) (hia : A.1 ia = some (vL ic (ins.map RunD.a))) (hins : ∀ r, r ∈ ins → okRun A.1 r) (hy : i32 sg) (hlen : l.rs.length + ins.length < 2600)
    (hkk : ∀ r, r ∈ l.rs → r.ra ≠ ia ∧ r.sa ≠ ia) :
    Wc sc 7 129 [.ref q] A (fun o A' => o = .inl none ∧ LsTo A ia ic ((ins ++ l.rs.filter (fun r => r.ov (lstR 100 ins) sg)).map RunD.a) A') := by
  show Wv sc 7 129 0 [some (.ref q), none, none, none] [] A _
  subst hho
  have hj := (List.getElem?_eq_some_iff.mp hlv).1
  have h4 := hf.2.2.1
  have hf1 := hf.1
  have hl1 := hl.1
  have g1 := @lstR_rg A.1 ins 100 (by omega) hins
  refine wv_s f129_0 rfl (fun _ => rfl) ?_
  refine wv_valV f129_1 (by decide) (by simp) (by simp) (by decide +kernel) (by assumption) (by rfl) (by decide +kernel) rfl (c134 hq hia hins) (by omega) ?_
  refine wv_st1 f129_4 rfl (fun _ _ => rfl) ?_
  refine wv_s f129_5 rfl (fun _ => rfl) ?_
  refine wv_getfield f129_6 (by assumption) (by rfl) ?_
  refine wv_s f129_9 rfl (fun _ => rfl) ?_
  refine wv_getfield f129_10 (by assumption) (by rfl) ?_
  refine wv_icon f129_13 ?_
  refine wv_iadd f129_14 ?_
  refine wv_valV f129_15 (by decide) (by simp) (by simp) (by decide +kernel) hf1 (by rfl) (by decide +kernel) rfl (c108 hf (j := lv + 1) (by omega) hlv) (by omega) ?_
  refine wv_getfield f129_18 (by assumption) (by rfl) ?_
  refine wv_st2 f129_21 rfl (fun _ _ => rfl) ?_
  refine wv_icon f129_22 ?_
  refine wv_st3 f129_23 rfl (fun _ _ => rfl) ?_
  have := c129_l (sc := sc) (ins := ins) hq hl.2.1 hl.2.2.2 hne (show i32 (lstR 100 ins) by omega) hy hlen hkk ⟨_, _, hia⟩ l.rs.length 0 ic A ins (by omega) (by omega) hia (fun x hx => rfl)
  exact this
theorem pick_mem {lv ch : Nat} {r : RunD} : ∀ {l : List RunD} {i : Nat}, r ∈ pick lv ch i l → r ∈ l
  | [], i, h => by cases h
  | c :: t, i, h => by
    unfold pick at h
    split at h
    · rcases List.mem_cons.mp h with rfl | h
      · exact List.mem_cons_self ..
      · exact List.mem_cons_of_mem _ (pick_mem h)
    · exact List.mem_cons_of_mem _ (pick_mem h)
theorem pick_len {lv ch : Nat} : ∀ {l : List RunD} {i : Nat}, (pick lv ch i l).length ≤ l.length
  | [], i => Nat.le_refl _
  | c :: t, i => by
    have := @pick_len lv ch t (i + 1)
    unfold pick
    split <;> simp only [List.length_cons] <;> omega
/-- the inputs of a merging of level lv: those of the level, then what they overlap below -/
def insOf (lv : Nat) (l l2 : LvD) : List RunD := pick lv (chI l.mu 0 l.rs) 0 l.rs ++ l2.rs.filter (fun r => r.ov (lstR 100 (pick lv (chI l.mu 0 l.rs) 0 l.rs)) (grtR (-1) (pick lv (chI l.mu 0 l.rs) 0 l.rs)))
theorem c128 {l2 : LvD} {lv : Nat} (hO : Own A F ((q, vO 7 [v0, v1, v2, v3, v4, v5, v6]) :: L)) (hf : okFm F f) (hlv : f.lv[lv]? = some l) (hlv2 : f.lv[lv + 1]? = some l2)
    (hl : inFL F L l.a (cLv l) ∧ inFL F L l.la (cLl l) ∧ (-1 ≤ l.mu ∧ l.mu ≤ 100) ∧ (∀ r, r ∈ l.rs → okRun F r)) (hl2 : inFL F L l2.a (cLv l2) ∧ inFL F L l2.la (cLl l2) ∧ (-1 ≤ l2.mu ∧ l2.mu ≤ 100) ∧ (∀ r, r ∈ l2.rs → okRun F r)) (hlen : l.rs.length + l2.rs.length < 2600) (hv6 : v6 = .int (zI 0)) :
    Wc sc 8 128 [.ref q, .ref f.a, .int (zI lv)] A (fun o A' => o = .inl none ∧ ∃ m : MeD, ∃ F', m.a = q ∧ m.h = f.a ∧ m.lv = lv ∧ m.ins = insOf lv l l2 ∧ m.kept = [] ∧ m.kc = 0 ∧ m.sg = grtR (-1) (pick lv (chI l.mu 0 l.rs) 0 l.rs) ∧ m.key = -1 ∧ m.dn = 0 ∧ Ext F F' ∧ F' m.ia = some (vL m.ic (m.ins.map RunD.a)) ∧ Own A' F' ((m.a, cMe m) :: (m.ka, vL m.kc (m.kept.map ChD.a)) :: L) ∧
      5 * A'.2.1 ≤ 5 * A.2.1 + 10 + m.ic ∧ A'.2.2 ≤ A.2.2 + 6 + 4 * m.ic ∧ m.ic ≤ 10 + 2 * m.ins.length) := by
  show Wv sc 8 128 0 [some (.ref q), some (.ref f.a), some (.int (zI lv))] [] A _
  have hj := (List.getElem?_eq_some_iff.mp hlv2).1
  have h4 := hf.2.2.1
  refine wv_s f128_0 rfl (fun _ => rfl) ?_
  refine wv_objI f128_1 (by simp) ?_
  refine wv_s f128_4 rfl (fun _ => rfl) ?_
  refine wv_newL f128_5 (fun ia hia => ?_)
  have hO1 := hO.new (n := 3) (c := vW) hia
  have f1 := hO1.at (List.mem_cons_self ..)
  refine wv_s f128_8 rfl (fun _ => rfl) ?_
  refine wv_linit f128_9 (by assumption) (by omega) (by simp) ?_
  have hO2 := hO1.put (L1 := []) (c := vL 0 [])
  have f2 := hO2.at (q := q) (List.mem_cons_of_mem _ (List.mem_cons_self ..))
  refine wv_putfield f128_12 (by assumption) (by simp) (by rfl) ?_
  have hO3 := Own.put (L1 := [(ia, vL 0 [])]) (c := vO 7 [v0, v1, .ref ia, v3, v4, v5, v6]) hO2
  refine wv_s f128_15 rfl (fun _ => rfl) ?_
  refine wv_newL f128_16 (fun ka hka => ?_)
  have hO4 := Own.new (n := 3) (c := vW) hO3 hka
  have f3 := hO4.at (List.mem_cons_self ..)
  refine wv_s f128_19 rfl (fun _ => rfl) ?_
  refine wv_linit f128_20 (by assumption) (by omega) (by simp) ?_
  have hO5 := Own.put (L1 := []) (c := vL 0 []) hO4
  have f4 := Own.at (q := q) hO5 (List.mem_cons_of_mem _ (List.mem_cons_of_mem _ (List.mem_cons_self ..)))
  refine wv_putfield f128_23 (f4) (by simp) (by rfl) ?_
  refine wv_s f128_26 rfl (fun _ => rfl) ?_
  refine wv_icon f128_27 ?_
  refine wv_putfield f128_28 (aPut_self) (by simp) (by rfl) ?_
  refine wv_s f128_31 rfl (fun _ => rfl) ?_
  refine wv_s f128_32 rfl (fun _ => rfl) ?_
  refine wv_putfield f128_33 (aPut_self) (by simp) (by rfl) ?_
  refine wv_s f128_36 rfl (fun _ => rfl) ?_
  refine wv_s f128_37 rfl (fun _ => rfl) ?_
  refine wv_putfield f128_38 (aPut_self) (by simp) (by rfl) ?_
  have tail : ∀ A6 : gA, Own A6 F ((ka, vL 0 []) :: (ia, vL 0 []) :: (q, vO 7 [.ref f.a, .int (zI lv), .ref ia, .ref ka, v4, .int (zI (-1)), v6]) :: L) → A6.2.1 = A.2.1 + 2 → A6.2.2 = A.2.2 + 6 → v6 = .int (zI 0) →
      Wv sc 8 128 41 [some (.ref q), some (.ref f.a), some (.int (zI lv))] [] A6 (fun o A' => o = .inl none ∧ ∃ m : MeD, ∃ F', m.a = q ∧ m.h = f.a ∧ m.lv = lv ∧ m.ins = insOf lv l l2 ∧ m.kept = [] ∧ m.kc = 0 ∧ m.sg = grtR (-1) (pick lv (chI l.mu 0 l.rs) 0 l.rs) ∧ m.key = -1 ∧ m.dn = 0 ∧ Ext F F' ∧ F' m.ia = some (vL m.ic (m.ins.map RunD.a)) ∧ Own A' F' ((m.a, cMe m) :: (m.ka, vL m.kc (m.kept.map ChD.a)) :: L) ∧
      5 * A'.2.1 ≤ 5 * A.2.1 + 10 + m.ic ∧ A'.2.2 ≤ A.2.2 + 6 + 4 * m.ic ∧ m.ic ≤ 10 + 2 * m.ins.length) := by
    intro A6 hO6 n1 n2 hv6
    subst hv6
    obtain ⟨hl1, hl2', hl3, hl4⟩ := hl
    obtain ⟨hm1, hm2, hm3, hm4⟩ := hl2
    have x1 := Own.fl (X := [(ka, vL 0 []), (ia, vL 0 []), (q, vO 7 [.ref f.a, .int (zI lv), .ref ia, .ref ka, v4, .int (zI (-1)), .int (zI 0)])]) hO6 hl2'
    have x2 := Own.fl (X := [(ka, vL 0 []), (ia, vL 0 []), (q, vO 7 [.ref f.a, .int (zI lv), .ref ia, .ref ka, v4, .int (zI (-1)), .int (zI 0)])]) hO6 hm2
    have x3 := Own.fl (X := [(ka, vL 0 []), (ia, vL 0 []), (q, vO 7 [.ref f.a, .int (zI lv), .ref ia, .ref ka, v4, .int (zI (-1)), .int (zI 0)])]) hO6 hl1
    have y1 : l.la ≠ ia := by
      rintro hw
      rw [hw] at x1
      exact x1.2 (by simp)
    have y2 : l2.la ≠ ia := by
      rintro hw
      rw [hw] at x2
      exact x2.2 (by simp)
    have f5 := Own.at (q := q) hO6 (List.mem_cons_of_mem _ (List.mem_cons_of_mem _ (List.mem_cons_self ..)))
    have f6 := Own.at (q := ia) hO6 (List.mem_cons_of_mem _ (List.mem_cons_self ..))
    have ff := Own.nf (q := ia) hO6 (List.mem_cons_of_mem _ (List.mem_cons_self ..))
    refine wv_s f128_41 rfl (fun _ => rfl) ?_
    refine wv_effV f128_42 (by decide) (by simp) (by simp) (by decide +kernel) (by assumption) (by rfl) (by decide +kernel) rfl (c130 f5 rfl (hf.ext hO6.1) hlv ⟨x3.1, x1.1, hl3, fun r hr => (hl4 r hr).ext hO6.1⟩ y1 f6 (by omega)) (by omega) (fun A7 hA7 => ?_)
    obtain ⟨ic1, k1, s1, hlg, rfl⟩ := hA7
    have hO7 := Own.lst (L1 := [(ka, vL 0 [])]) (c := vL ic1 ((pick lv (chI l.mu 0 l.rs) 0 l.rs).map RunD.a)) (kc := k1) (ks := s1) hO6
    have f7 := Own.at (q := q) hO7 (List.mem_cons_of_mem _ (List.mem_cons_of_mem _ (List.mem_cons_self ..)))
    have f8 := Own.at (q := ia) hO7 (List.mem_cons_of_mem _ (List.mem_cons_self ..))
    have hp : ∀ r, r ∈ pick lv (chI l.mu 0 l.rs) 0 l.rs → okRun F r := fun r hr => hl4 r (pick_mem hr)
    have hpl := @pick_len lv (chI l.mu 0 l.rs) l.rs 0
    have hgr := @grtR_rg F (pick lv (chI l.mu 0 l.rs) 0 l.rs) (-1) (by omega) hp
    refine wv_s f128_45 rfl (fun _ => rfl) ?_
    refine wv_s f128_46 rfl (fun _ => rfl) ?_
    refine wv_valV f128_47 (by decide) (by simp) (by simp) (by decide +kernel) (by assumption) (by rfl) (by decide +kernel) rfl (c132 f7 f8 (fun r hr => (hp r hr).ext hO7.1)) (by omega) ?_
    refine wv_putfield f128_50 (by assumption) (by simp) (by rfl) ?_
    have hO8 := Own.put (L1 := [(ka, vL 0 []), (ia, vL ic1 ((pick lv (chI l.mu 0 l.rs) 0 l.rs).map RunD.a))]) (c := vO 7 [.ref f.a, .int (zI lv), .ref ia, .ref ka, .int (zI (grtR (-1) (pick lv (chI l.mu 0 l.rs) 0 l.rs))), .int (zI (-1)), .int (zI 0)]) hO7
    have f9 := Own.at (q := q) hO8 (List.mem_cons_of_mem _ (List.mem_cons_of_mem _ (List.mem_cons_self ..)))
    have f10 := Own.at (q := ia) hO8 (List.mem_cons_of_mem _ (List.mem_cons_self ..))
    have x4 := Own.fl (X := [(ka, vL 0 []), (ia, vL ic1 ((pick lv (chI l.mu 0 l.rs) 0 l.rs).map RunD.a)), (q, vO 7 [.ref f.a, .int (zI lv), .ref ia, .ref ka, .int (zI (grtR (-1) (pick lv (chI l.mu 0 l.rs) 0 l.rs))), .int (zI (-1)), .int (zI 0)])]) hO8 hm2
    have x5 := Own.fl (X := [(ka, vL 0 []), (ia, vL ic1 ((pick lv (chI l.mu 0 l.rs) 0 l.rs).map RunD.a)), (q, vO 7 [.ref f.a, .int (zI lv), .ref ia, .ref ka, .int (zI (grtR (-1) (pick lv (chI l.mu 0 l.rs) 0 l.rs))), .int (zI (-1)), .int (zI 0)])]) hO8 hm1
    have hkk : ∀ r, r ∈ l2.rs → r.ra ≠ ia ∧ r.sa ≠ ia := by
      intro r hr
      have w := hm4 r hr
      refine ⟨fun e => ?_, fun e => ?_⟩
      · have := w.2.1
        rw [e, ff] at this
        cases this
      · have := w.2.2.1
        rw [e, ff] at this
        cases this
    refine wv_s f128_53 rfl (fun _ => rfl) ?_
    refine wv_effV f128_54 (by decide) (by simp) (by simp) (by decide +kernel) (f9) (by rfl) (by decide +kernel) rfl (c129 f9 rfl (hf.ext hO8.1) hlv2 ⟨x5.1, x4.1, hm3, fun r hr => (hm4 r hr).ext hO8.1⟩ y2 f10 (fun r hr => (hp r hr).ext hO8.1) (by omega) (by omega) hkk) (by omega) (fun A9 hA9 => ?_)
    obtain ⟨ic2, k2, s2, hlg2, rfl⟩ := hA9
    have hO9 := Own.lst (L1 := [(ka, vL 0 [])]) (c := vL ic2 ((insOf lv l l2).map RunD.a)) (kc := k2) (ks := s2) hO8
    have hO10 := Own.perm (L' := (ia, vL ic2 ((insOf lv l l2).map RunD.a)) :: (q, vO 7 [.ref f.a, .int (zI lv), .ref ia, .ref ka, .int (zI (grtR (-1) (pick lv (chI l.mu 0 l.rs) 0 l.rs))), .int (zI (-1)), .int (zI 0)]) :: (ka, vL 0 []) :: L) hO9 ((List.Perm.swap _ _ _).trans (List.Perm.cons _ (List.Perm.swap _ _ _)))
    have hO11 := Own.frz hO10
    have hlg9 := lg_trans hlg hlg2 (by
      rw [List.length_map, List.length_map, List.length_append]
      omega)
    rw [List.length_map] at hlg9
    exact wv_vret f128_57 (by decide +kernel) (⟨rfl, (q, f.a, lv, (ia, ic2, insOf lv l l2), (ka, 0, []), grtR (-1) (pick lv (chI l.mu 0 l.rs) 0 l.rs), -1, 0), _, rfl, rfl, rfl, rfl, rfl, rfl, rfl, rfl, rfl, Own.ext_fz hO10, fz_self, hO11, by have := hlg9.2.1; show 5 * (A6.2.1 + k1 + k2) ≤ 5 * A.2.1 + 10 + ic2; omega, by have := hlg9.2.2.1; show A6.2.2 + s1 + s2 ≤ A.2.2 + 6 + 4 * ic2; omega, by have := hlg9.2.2.2; show ic2 ≤ 10 + 2 * (insOf lv l l2).length; unfold insOf; omega⟩)
  exact tail _ (Own.put (L1 := [(ka, vL 0 []), (ia, vL 0 [])]) (c := vO 7 [.ref f.a, .int (zI lv), .ref ia, .ref ka, v4, .int (zI (-1)), v6])
    (Own.put (L1 := [(ka, vL 0 []), (ia, vL 0 [])]) (c := vO 7 [.ref f.a, v1, .ref ia, .ref ka, v4, .int (zI (-1)), v6])
    (Own.put (L1 := [(ka, vL 0 []), (ia, vL 0 [])]) (c := vO 7 [v0, v1, .ref ia, .ref ka, v4, .int (zI (-1)), v6])
    (Own.put (L1 := [(ka, vL 0 []), (ia, vL 0 [])]) (c := vO 7 [v0, v1, .ref ia, .ref ka, v4, v5, v6]) hO5)))) rfl rfl hv6
end C12
