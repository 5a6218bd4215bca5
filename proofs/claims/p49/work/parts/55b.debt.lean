/-! METHODS OF DEBTS -/
section DB
variable {sc : gSc} {d : Nat} {A : gA} {F : Nat → Option vC} {L : List (Nat × vC)} {o : Nat} {f : Ls FamD} {w : Ls WrD} {s : Ls SnD} {c : Ls CuD} {b : Ls BkD} {fi : Nat × FiD} {y : Ls ChD} {me : Option MeD} {ct : CtD} {g : FamD} {l : LvD} {r : RunD} {i j m : Nat} {x z : Int}
theorem c38 (hl : okLv A.1 l) (hj : j ≤ 3) (hn : dM j l < 490) : Wc sc 4 38 [.ref l.a, .int (zI j)] A (fun v A' => v = .inl (some (.float (dF j (dM j l)))) ∧ A' = A) := by
  show Wv sc 4 38 0 [some (.ref l.a), some (.int (zI j))] [] A _
  have hl1 := hl.1
  have hd := (dF_ok hj hn).1
  have hnn := of_decide_eq_true (show decide _ = true from hd)
  match j, hj with
  | 0, _ =>
    have e : dM 0 l = l.rs.length := rfl
    rw [e] at hnn ⊢
    refine wv_s f38_0 rfl (fun _ => rfl) ?_
    refine wv_s (pc' := 28) f38_1 rfl (fun _ => rfl) ?_
    refine wv_s f38_28 rfl (fun _ => rfl) ?_
    refine wv_valV f38_29 (by decide) (by simp) (by simp) (by decide +kernel) (by assumption) (by rfl) (by decide +kernel) rfl (c119 hl) (by omega) ?_
    refine wv_s f38_32 rfl (fun _ => rfl) ?_
    refine wv_s f38_33 rfl (fun _ => rfl) ?_
    refine wv_s f38_36 rfl (fun h => by simp only [gStep]; rw [if_pos (show FP.fdiv (FP.i2f (zI l.rs.length)) (UInt32.ofNat 1077936128) &&& 0x7fffffff ≤ 0x7f800000 from hnn)]) ?_
    exact wv_fret f38_37 (by rfl) (⟨rfl, rfl⟩)
  | 1, _ =>
    have e : dM 1 l = wtS l.rs := rfl
    rw [e] at hnn ⊢
    refine wv_s f38_0 rfl (fun _ => rfl) ?_
    refine wv_s (pc' := 38) f38_1 rfl (fun _ => rfl) ?_
    refine wv_s f38_38 rfl (fun _ => rfl) ?_
    refine wv_valV f38_39 (by decide) (by simp) (by simp) (by decide +kernel) (by assumption) (by rfl) (by decide +kernel) rfl (c127 hl) (by omega) ?_
    refine wv_s f38_42 rfl (fun _ => rfl) ?_
    refine wv_s f38_43 rfl (fun _ => rfl) ?_
    refine wv_s f38_46 rfl (fun h => by simp only [gStep]; rw [if_pos (show FP.fdiv (FP.i2f (zI (wtS l.rs : Nat))) (UInt32.ofNat 1090519040) &&& 0x7fffffff ≤ 0x7f800000 from hnn)]) ?_
    exact wv_fret f38_47 (by rfl) (⟨rfl, rfl⟩)
  | 2, _ =>
    have e : dM 2 l = wtS l.rs := rfl
    rw [e] at hnn ⊢
    refine wv_s f38_0 rfl (fun _ => rfl) ?_
    refine wv_s (pc' := 48) f38_1 rfl (fun _ => rfl) ?_
    refine wv_s f38_48 rfl (fun _ => rfl) ?_
    refine wv_valV f38_49 (by decide) (by simp) (by simp) (by decide +kernel) (by assumption) (by rfl) (by decide +kernel) rfl (c127 hl) (by omega) ?_
    refine wv_s f38_52 rfl (fun _ => rfl) ?_
    refine wv_s f38_53 rfl (fun _ => rfl) ?_
    refine wv_s f38_56 rfl (fun h => by simp only [gStep]; rw [if_pos (show FP.fdiv (FP.i2f (zI (wtS l.rs : Nat))) (UInt32.ofNat 1103101952) &&& 0x7fffffff ≤ 0x7f800000 from hnn)]) ?_
    exact wv_fret f38_57 (by rfl) (⟨rfl, rfl⟩)
  | 3, _ =>
    refine wv_s f38_0 rfl (fun _ => rfl) ?_
    refine wv_s (pc' := 58) f38_1 rfl (fun _ => rfl) ?_
    refine wv_s f38_58 rfl (fun _ => rfl) ?_
    exact wv_fret f38_59 (by rfl) (⟨rfl, rfl⟩)
theorem c25_2 : ∀ (k i : Nat) (x x2 : UInt32) (e e2 : Int32) (x0 : Option Value), bo2 k x e = some (x2, e2) → i + k ≤ 100 → (nnF (FP.fsub x2 FP.fconst1) && nnF (FP.fmul (FP.fsub x2 FP.fconst1) 1258291200)) = true →
    Wv sc 0 25 43 [x0, some (.float x), some (.int e), some (.int (zI i))] [] A (fun v A' => v = .inl (some (.int ((e2 <<< (zI 23 &&& 31)) + FP.f2i (FP.fmul (FP.fsub x2 FP.fconst1) 1258291200)))) ∧ A' = A)
  | 0, i, x, x2, e, e2, x0, h, hi, hn => by cases h
  | k + 1, i, x, x2, e, e2, x0, h, hi, hn => by
    simp only [bo2] at h
    refine wv_s f25_43 rfl (fun _ => rfl) ?_
    refine wv_sip f25_44 (by decide) ?_
    refine wv_cF_ge f25_47 (by omega) (by omega) (by omega) ?_
    refine wv_s f25_50 rfl (fun _ => rfl) ?_
    refine wv_s f25_51 rfl (fun _ => rfl) ?_
    refine wv_s f25_52 rfl (fun _ => rfl) ?_
    cases ht : gTest .ge (Op.cmpValue (FP.fcmp x FP.fconst1) .g) 0 with
    | true =>
      rw [ht, if_pos rfl] at h
      cases h
      rw [Bool.and_eq_true] at hn
      have n1 := of_decide_eq_true (show decide _ = true from hn.1)
      have n2 := of_decide_eq_true (show decide _ = true from hn.2)
      refine wv_r0X f25_53 (fun _ => ?_) (fun hb => Bool.noConfusion (ht.symm.trans hb))
      refine wv_s f25_69 rfl (fun _ => rfl) ?_
      refine wv_bip f25_70 (by decide) ?_
      refine wv_s f25_72 rfl (fun _ => rfl) ?_
      refine wv_s f25_73 rfl (fun _ => rfl) ?_
      refine wv_s f25_74 rfl (fun _ => rfl) ?_
      refine wv_s f25_75 rfl (fun h => if_pos n1) ?_
      refine wv_s f25_76 rfl (fun _ => rfl) ?_
      refine wv_s f25_79 rfl (fun h => if_pos n2) ?_
      refine wv_s f25_80 rfl (fun _ => rfl) ?_
      refine wv_s f25_81 rfl (fun _ => rfl) ?_
      exact wv_iret f25_82 (by rfl) (⟨rfl, rfl⟩)
    | false =>
      rw [ht, if_neg (by decide)] at h
      split at h
      · rename_i hnn
        have n1 := of_decide_eq_true (show decide _ = true from hnn)
        refine wv_r0X f25_53 (fun hb => Bool.noConfusion (ht.symm.trans hb)) (fun _ => ?_)
        refine wv_s f25_56 rfl (fun _ => rfl) ?_
        refine wv_s f25_57 rfl (fun _ => rfl) ?_
        refine wv_s f25_58 rfl (fun h => if_pos n1) ?_
        refine wv_st1 f25_59 rfl (fun _ _ => rfl) ?_
        refine wv_s f25_60 rfl (fun _ => rfl) ?_
        refine wv_inc3 f25_63 ?_
        refine wv_s (pc' := 43) f25_66 rfl (fun _ => rfl) ?_
        exact c25_2 k (i + 1) _ x2 _ e2 _ h (by omega) hn
      · cases h
theorem c25_1 {v2 : Int32} : ∀ (k i : Nat) (x x1 : UInt32) (e e1 : Int32) (x0 x3 : Option Value), bo1 k x e = some (x1, e1) → i + k ≤ 100 →
    (∀ x0 x3, Wv sc 0 25 41 [x0, some (.float x1), some (.int e1), x3] [] A (fun v A' => v = .inl (some (.int v2)) ∧ A' = A)) →
    Wv sc 0 25 15 [x0, some (.float x), some (.int e), some (.int (zI i))] [] A (fun v A' => v = .inl (some (.int v2)) ∧ A' = A)
  | 0, i, x, x1, e, e1, x0, x3, h, hi, hQ => by cases h
  | k + 1, i, x, x1, e, e1, x0, x3, h, hi, hQ => by
    simp only [bo1] at h
    refine wv_s f25_15 rfl (fun _ => rfl) ?_
    refine wv_sip f25_16 (by decide) ?_
    refine wv_cF_ge f25_19 (by omega) (by omega) (by omega) ?_
    refine wv_s f25_22 rfl (fun _ => rfl) ?_
    refine wv_s f25_23 rfl (fun _ => rfl) ?_
    refine wv_s f25_24 rfl (fun _ => rfl) ?_
    cases ht : gTest .lt (Op.cmpValue (FP.fcmp x FP.fconst2) .l) 0 with
    | true =>
      rw [ht, if_pos rfl] at h
      cases h
      refine wv_r0X f25_25 (fun _ => hQ _ _) (fun hb => Bool.noConfusion (ht.symm.trans hb))
    | false =>
      rw [ht, if_neg (by decide)] at h
      split at h
      · rename_i hnn
        have n1 := of_decide_eq_true (show decide _ = true from hnn)
        refine wv_r0X f25_25 (fun hb => Bool.noConfusion (ht.symm.trans hb)) (fun _ => ?_)
        refine wv_s f25_28 rfl (fun _ => rfl) ?_
        refine wv_s f25_29 rfl (fun _ => rfl) ?_
        refine wv_s f25_30 rfl (fun h => if_pos n1) ?_
        refine wv_st1 f25_31 rfl (fun _ _ => rfl) ?_
        refine wv_s f25_32 rfl (fun _ => rfl) ?_
        refine wv_inc3 f25_35 ?_
        refine wv_s (pc' := 15) f25_38 rfl (fun _ => rfl) ?_
        exact c25_1 k (i + 1) _ x1 _ e1 _ x3 h (by omega) hQ
      · cases h
theorem c25 {x : UInt32} {v : Int32} (h : bitsP x = some v) : Wc sc 0 25 [.float x] A (fun o A' => o = .inl (some (.int v)) ∧ A' = A) := by
  show Wv sc 0 25 0 [some (.float x), none, none, none] [] A _
  unfold bitsP at h
  refine wv_s f25_0 rfl (fun _ => rfl) ?_
  refine wv_s f25_1 rfl (fun _ => rfl) ?_
  refine wv_s f25_2 rfl (fun _ => rfl) ?_
  cases ht : gTest .gt (Op.cmpValue (FP.fcmp x FP.fconst0) .g) 0 with
  | true =>
    rw [ht, if_pos rfl] at h
    refine wv_r0X f25_3 (fun _ => ?_) (fun hb => Bool.noConfusion (ht.symm.trans hb))
    refine wv_s f25_8 rfl (fun _ => rfl) ?_
    refine wv_st1 f25_9 rfl (fun _ _ => rfl) ?_
    refine wv_bip f25_10 (by decide) ?_
    refine wv_st2 f25_12 rfl (fun _ _ => rfl) ?_
    refine wv_icon f25_13 ?_
    refine wv_st3 f25_14 rfl (fun _ _ => rfl) ?_
    split at h
    · cases h
    · rename_i x1 e1 hb1
      split at h
      · cases h
      · rename_i x2 e2 hb2
        split at h
        · rename_i hnn
          cases h
          refine c25_1 20 0 x x1 (zI 127) e1 _ none hb1 (by omega) (fun x0 x3 => ?_)
          refine wv_icon f25_41 ?_
          refine wv_st3 f25_42 rfl (fun _ _ => rfl) ?_
          exact c25_2 20 0 x1 x2 e1 e2 x0 hb2 (by omega) hnn
        · cases h
  | false =>
    rw [ht, if_neg (by decide)] at h
    cases h
    refine wv_r0X f25_3 (fun hb => Bool.noConfusion (ht.symm.trans hb)) (fun _ => ?_)
    refine wv_icon f25_6 ?_
    exact wv_iret f25_7 (by rfl) (⟨rfl, rfl⟩)
theorem c36 (hO : okO A F L o f w s c b fi y me ct) (hg : f.2.2[i]? = some g) (hl : g.lv[j]? = some l) (hn : dM j l < 490) : Wc sc 5 36 [.ref o, .int (zI i), .int (zI j)] A (fun v A' => v = .inl (some (.float (dF j (dM j l)))) ∧ A' = A) := by
  show Wv sc 5 36 0 [some (.ref o), some (.int (zI i)), some (.int (zI j))] [] A _
  have h1 := hO.ob
  have hj := (List.getElem?_eq_some_iff.mp hl).1
  have h4 := (hO.fm (List.mem_of_getElem? hg)).2.2.1
  have hll := hO.lv (List.mem_of_getElem? hg) (List.mem_of_getElem? hl)
  refine wv_s f36_0 rfl (fun _ => rfl) ?_
  refine wv_s f36_1 rfl (fun _ => rfl) ?_
  refine wv_s f36_2 rfl (fun _ => rfl) ?_
  refine wv_valV f36_3 (by decide) (by simp) (by simp) (by decide +kernel) (by assumption) (by rfl) (by decide +kernel) rfl (c68 hO hg hl) (by omega) ?_
  refine wv_s f36_6 rfl (fun _ => rfl) ?_
  refine wv_valS f36_7 (by decide) (by simp) (by simp) (by decide +kernel) (c38 hll (by omega) hn) (by omega) ?_
  exact wv_fret f36_10 (by rfl) (⟨rfl, rfl⟩)
theorem c37 (hO : okO A F L o f w s c b fi y me ct) (hg : f.2.2[i]? = some g) (hl : g.lv[j]? = some l) (hn : dM j l < 490) : Wc sc 5 37 [.ref o, .int (zI i), .int (zI j)] A (fun v A' => v = .inl (some (.int (dF j (dM j l)).toInt32)) ∧ A' = A) := by
  show Wv sc 5 37 0 [some (.ref o), some (.int (zI i)), some (.int (zI j))] [] A _
  have h1 := hO.ob
  have hj := (List.getElem?_eq_some_iff.mp hl).1
  have h4 := (hO.fm (List.mem_of_getElem? hg)).2.2.1
  have hll := hO.lv (List.mem_of_getElem? hg) (List.mem_of_getElem? hl)
  refine wv_s f37_0 rfl (fun _ => rfl) ?_
  refine wv_s f37_1 rfl (fun _ => rfl) ?_
  refine wv_s f37_2 rfl (fun _ => rfl) ?_
  refine wv_valV f37_3 (by decide) (by simp) (by simp) (by decide +kernel) (by assumption) (by rfl) (by decide +kernel) rfl (c68 hO hg hl) (by omega) ?_
  refine wv_s f37_6 rfl (fun _ => rfl) ?_
  refine wv_valS f37_7 (by decide) (by simp) (by simp) (by decide +kernel) (c38 hll (by omega) hn) (by omega) ?_
  refine wv_valS f37_10 (by decide) (by simp) (by simp) (by decide +kernel) (c25 (dF_ok (by omega) hn).2.1) (by omega) ?_
  exact wv_iret f37_13 (by rfl) (⟨rfl, rfl⟩)
theorem c77_l (hf : okFm A.1 g) (hls : ∀ l, l ∈ g.lv → okLv A.1 l) (hn : ∀ j l, g.lv[j]? = some l → dM j l < 490) : ∀ (k i j : Nat), i + k = 4 → j ≤ 3 →
    Wv sc 5 77 4 [some (.ref g.a), some (.int (zI j)), some (.int (zI i))] [] A (fun v A' => ∃ v9, v = .inl (some v9) ∧ ∃ j : Nat, v9 = .int (zI j) ∧ j ≤ 3 ∧ A' = A)
  | 0, i, j, hik, hj => by
    refine wv_s f77_4 rfl (fun _ => rfl) ?_
    refine wv_icon f77_5 ?_
    refine wv_cT_ge f77_6 (by omega) (by omega) (by omega) ?_
    refine wv_s f77_39 rfl (fun _ => rfl) ?_
    exact wv_iret f77_40 (by rfl) (⟨_, rfl, j, rfl, hj, rfl⟩)
  | k + 1, i, j, hik, hj => by
    have hf1 := hf.1
    obtain ⟨l, hlm, hl0, -, -, -⟩ := at_lv hf (show i < 4 by omega)
    obtain ⟨l2, hlm2, hl2, -, -, -⟩ := at_lv hf (show j < 4 by omega)
    refine wv_s f77_4 rfl (fun _ => rfl) ?_
    refine wv_icon f77_5 ?_
    refine wv_cF_ge f77_6 (by omega) (by omega) (by omega) ?_
    refine wv_s f77_9 rfl (fun _ => rfl) ?_
    refine wv_s f77_10 rfl (fun _ => rfl) ?_
    refine wv_valV f77_11 (by decide) (by simp) (by simp) (by decide +kernel) (by assumption) (by rfl) (by decide +kernel) rfl (c108 hf rfl hl0) (by omega) ?_
    refine wv_s f77_14 rfl (fun _ => rfl) ?_
    refine wv_valS f77_15 (by decide) (by simp) (by simp) (by decide +kernel) (c38 (hls l hlm) (by omega) (hn i l hl0)) (by omega) ?_
    refine wv_s f77_18 rfl (fun _ => rfl) ?_
    refine wv_s f77_19 rfl (fun _ => rfl) ?_
    refine wv_valV f77_20 (by decide) (by simp) (by simp) (by decide +kernel) (by assumption) (by rfl) (by decide +kernel) rfl (c108 hf rfl hl2) (by omega) ?_
    refine wv_s f77_23 rfl (fun _ => rfl) ?_
    refine wv_valS f77_24 (by decide) (by simp) (by simp) (by decide +kernel) (c38 (hls l2 hlm2) (by omega) (hn j l2 hl2)) (by omega) ?_
    refine wv_s f77_27 rfl (fun _ => rfl) ?_
    refine wv_r0X f77_28 (fun _ => ?_) (fun _ => ?_)
    · refine wv_inc2 f77_33 ?_
      refine wv_s (pc' := 4) f77_36 rfl (fun _ => rfl) ?_
      exact c77_l hf hls hn k (i + 1) j (by omega) hj
    · refine wv_s f77_31 rfl (fun _ => rfl) ?_
      refine wv_st1 f77_32 rfl (fun _ _ => rfl) ?_
      refine wv_inc2 f77_33 ?_
      refine wv_s (pc' := 4) f77_36 rfl (fun _ => rfl) ?_
      exact c77_l hf hls hn k (i + 1) i (by omega) (by omega)
theorem c77 (hf : okFm A.1 g) (hls : ∀ l, l ∈ g.lv → okLv A.1 l) (hn : ∀ j l, g.lv[j]? = some l → dM j l < 490) : Wc sc 5 77 [.ref g.a] A (fun v A' => ∃ v9, v = .inl (some v9) ∧ ∃ j : Nat, v9 = .int (zI j) ∧ j ≤ 3 ∧ A' = A) := by
  show Wv sc 5 77 0 [some (.ref g.a), none, none] [] A _
  refine wv_icon f77_0 ?_
  refine wv_st1 f77_1 rfl (fun _ _ => rfl) ?_
  refine wv_icon f77_2 ?_
  refine wv_st2 f77_3 rfl (fun _ _ => rfl) ?_
  exact c77_l hf hls hn 3 1 0 (by omega) (by omega)
theorem okO.putMe {mm : MeD} (h : Own A F ((mm.a, cMe mm) :: (mm.ka, vL mm.kc (mm.kept.map ChD.a)) :: obC o f w s c b fi y none ct L)) (hs : okS F f w s c b y none ct) (hm : okMe F mm) : okO (aPut A o (cOb f w s c b fi y (some mm) ct)) F L o f w s c b fi y (some mm) ct := by
  have h1 := h.setAt 2 rfl (kc := 0) (ks := 0) (c := cOb f w s c b fi y (some mm) ct)
  refine ⟨h1.perm ?_, hs.1, hs.2.1, hs.2.2.1, hs.2.2.2.1, hs.2.2.2.2.1, hs.2.2.2.2.2.1, (fun m hm9 => by cases hm9; exact hm), hs.2.2.2.2.2.2.2⟩
  show ((mm.a, cMe mm) :: (mm.ka, vL mm.kc (mm.kept.map ChD.a)) :: ([(o, cOb f w s c b fi y (some mm) ct), (f.1, vL f.2.1 (f.2.2.map FamD.a)), (w.1, vL w.2.1 (w.2.2.map WrD.a)), (s.1, vL s.2.1 (s.2.2.map SnD.a)), (c.1, vL c.2.1 (c.2.2.map CuD.a)), (b.1, vL b.2.1 (b.2.2.map BkD.a)), (fi.1, cFi fi.2), (y.1, vL y.2.1 (y.2.2.map ChD.a))] ++ (c.2.2.map cuP ++ (w.2.2.map wrP ++ (f.2.2.flatMap fmP ++ L))))).Perm _
  exact (List.Perm.cons _ List.perm_middle.symm).trans (List.perm_middle.symm.trans (List.Perm.append_left _ (List.Perm.refl _)))
/-- a merging begins -/
def CoP (A : gA) (F : Nat → Option vC) (L : List (Nat × vC)) (o : Nat) (f : Ls FamD) (w : Ls WrD) (s : Ls SnD) (c : Ls CuD) (b : Ls BkD) (fi : Nat × FiD) (y : Ls ChD) (ct : CtD) (g : FamD) (v : gO) (A' : gA) : Prop :=
  (v = .inr 3 ∧ A' = aThr A) ∨ ∃ lv mm F' l l2, v = .inl (some (.int (zI (lv : Nat)))) ∧ lv ≤ 2 ∧ g.lv[lv]? = some l ∧ g.lv[lv + 1]? = some l2 ∧ mm.h = g.a ∧ mm.lv = lv ∧ mm.ins = insOf lv l l2 ∧ mm.kept = [] ∧ mm.kc = 0 ∧ mm.sg = grtR (-1) (pick lv (chI l.mu 0 l.rs) 0 l.rs) ∧ mm.key = -1 ∧ mm.dn = 0 ∧ Ext F F' ∧ okO A' F' L o f w s c b fi y (some mm) ct ∧ 5 * A'.2.1 ≤ 5 * A.2.1 + 25 + 2 * mm.ins.length ∧ A'.2.2 ≤ A.2.2 + 60 + 8 * mm.ins.length
theorem c31 (hO : okO A F L o f w s c b fi y none ct) (hg : f.2.2[i]? = some g) (hn : ∀ j l, g.lv[j]? = some l → dM j l < 490) (hrl : ∀ l, l ∈ g.lv → l.rs.length < 1300) : Wc sc 9 31 [.ref o, .int (zI i)] A (CoP A F L o f w s c b fi y ct g) := by
  show Wv sc 9 31 0 [some (.ref o), some (.int (zI i)), none, none] [] A _
  have h1 := hO.ob
  have hgm := List.mem_of_getElem? hg
  have hf := hO.fm hgm
  have hf1 := hf.1
  have hls : ∀ l, l ∈ g.lv → okLv A.1 l := fun l hl => hO.lv hgm hl
  refine wv_s f31_0 rfl (fun _ => rfl) ?_
  refine wv_s f31_1 rfl (fun _ => rfl) ?_
  refine wv_valV f31_2 (by decide) (by simp) (by simp) (by decide +kernel) (by assumption) (by rfl) (by decide +kernel) rfl (c47 hO hg) (by omega) ?_
  refine wv_st2 f31_5 rfl (fun _ _ => rfl) ?_
  refine wv_s f31_6 rfl (fun _ => rfl) ?_
  refine wv_getfield f31_7 (h1) (by rfl) ?_
  refine wv_s (pc' := 24) f31_10 rfl (fun _ => rfl) ?_
  refine wv_s f31_24 rfl (fun _ => rfl) ?_
  refine wv_resS f31_25 (by decide) (by simp) (by simp) (by decide +kernel) (c77 hf hls hn) (by omega) (fun v9 A1 hv => ?_)
  obtain ⟨j, rfl, hj, hA1⟩ := hv
  rw [hA1]
  obtain ⟨l, hlm, hl0, -, -, -⟩ := at_lv hf (show j < 4 by omega)
  refine wv_st3 f31_28 rfl (fun _ _ => rfl) ?_
  refine wv_s f31_29 rfl (fun _ => rfl) ?_
  refine wv_s f31_30 rfl (fun _ => rfl) ?_
  refine wv_valV f31_31 (by decide) (by simp) (by simp) (by decide +kernel) (by assumption) (by rfl) (by decide +kernel) rfl (c108 hf rfl hl0) (by omega) ?_
  refine wv_s f31_34 rfl (fun _ => rfl) ?_
  refine wv_valS f31_35 (by decide) (by simp) (by simp) (by decide +kernel) (c38 (hls l hlm) hj (hn j l hl0)) (by omega) ?_
  refine wv_s f31_38 rfl (fun _ => rfl) ?_
  refine wv_s f31_39 rfl (fun _ => rfl) ?_
  refine wv_r0X f31_40 (fun hb => ?_) (fun _ => ?_)
  · have hj2 : j ≤ 2 := by
      by_cases h3 : j = 3
      · subst h3
        exact absurd hb (by show ¬ gTest .ge (Op.cmpValue (FP.fcmp FP.fconst0 FP.fconst1) .g) 0 = true; decide +kernel)
      · omega
    obtain ⟨l2, hlm2, hl2, -, -, -⟩ := at_lv hf (show j + 1 < 4 by omega)
    refine wv_s f31_54 rfl (fun _ => rfl) ?_
    refine wv_newZ f31_55 (by decide) (by decide) (zs := [.null, .int 0, .null, .null, .int 0, .int 0, .int 0]) (by rfl) (fun q hq => ?_)
    have hO1 := hO.1.new (n := gN 7) (c := vO 7 [.null, .int 0, .null, .null, .int 0, .int 0, .int 0]) hq
    have hq1 := hO1.at (List.mem_cons_self ..)
    have m1 := hrl l hlm
    have m2 := hrl l2 hlm2
    have kk : ∀ z, z ∈ g.lv → inFL F (obC o f w s c b fi y none ct L) z.a (cLv z) ∧ inFL F (obC o f w s c b fi y none ct L) z.la (cLl z) ∧ (-1 ≤ z.mu ∧ z.mu ≤ 100) ∧ (∀ r, r ∈ z.rs → okRun F r) := by
      intro z hz
      have h9 := (hO.2.1 g hgm).2 z hz
      exact ⟨.inr (obC_tm (obT_mem.mpr (.inr (.inr (.inr (.inl (List.mem_flatMap.mpr ⟨g, hgm, (fCells_mem hz).1⟩))))))), .inr (obC_tm (obT_mem.mpr (.inr (.inr (.inr (.inl (List.mem_flatMap.mpr ⟨g, hgm, (fCells_mem hz).2⟩))))))), h9.1, h9.2⟩
    refine wv_s f31_58 rfl (fun _ => rfl) ?_
    refine wv_s f31_59 rfl (fun _ => rfl) ?_
    refine wv_s f31_60 rfl (fun _ => rfl) ?_
    refine wv_effI f31_61 (by decide) (by simp) (by simp) (by decide +kernel) (by rfl) (c128 (lv := j) (l := l) (l2 := l2) hO1 (hO.2.1 g hgm).1 hl0 hl2 (kk l hlm) (kk l2 hlm2) (by omega) rfl) (by omega) (fun A2 hA2 => ?_)
    obtain ⟨mm, F', rfl, g2, g3, g4, g5, g6, g7, g8, g9, g10, g11, g12, g13, g14, g15⟩ := hA2
    have hins : ∀ r, r ∈ mm.ins → okRun F r := by
      intro r hr
      rw [g4] at hr
      rcases List.mem_append.mp hr with hr | hr
      · exact ((hO.2.1 g hgm).2 l hlm).2 r (pick_mem hr)
      · exact ((hO.2.1 g hgm).2 l2 hlm2).2 r (List.mem_filter.mp hr).1
    have hpk : ∀ r, r ∈ pick j (chI l.mu 0 l.rs) 0 l.rs → okRun F r := fun r hr => ((hO.2.1 g hgm).2 l hlm).2 r (pick_mem hr)
    have hgr := @grtR_rg F (pick j (chI l.mu 0 l.rs) 0 l.rs) (-1) (by omega) hpk
    have hmk : okMe F' mm := ⟨by omega, g11, fun r hr => (hins r hr).ext g10, (fun z hz => by rw [g5] at hz; cases hz), by rw [g7]; omega, by rw [g8]; omega, by rw [g9]; omega⟩
    have hO3 := okO.putMe g12 (hO.2.ext g10) hmk
    have h3 := g12.at (q := o) (c := cOb f w s c b fi y none ct) (List.mem_cons_of_mem _ (List.mem_cons_of_mem _ (List.mem_cons_self ..)))
    have e1 : (aNew A mm.a (vO 7 [.null, .int 0, .null, .null, .int 0, .int 0, .int 0]) (gN 7)).2 = (A.2.1 + 1, A.2.2 + 7) := rfl
    rw [e1] at g13 g14
    simp only at g13 g14
    refine wv_putfield f31_64 (h3) (by simp) (by rfl) ?_
    refine wv_s f31_67 rfl (fun _ => rfl) ?_
    exact wv_iret f31_68 (by rfl) (.inr ⟨j, mm, F', l, l2, rfl, hj2, hl0, hl2, g2, g3, g4, g5, g6, g7, g8, g9, g10, hO3, by show 5 * A2.2.1 ≤ _; omega, by show A2.2.2 ≤ _; omega⟩)
  · exact wv_throw f31_43 (by decide) (by simp) (by decide +kernel) (.inl ⟨rfl, rfl⟩)
theorem c31_t {mm : MeD} (hO : okO A F L o f w s c b fi y (some mm) ct) (hg : f.2.2[i]? = some g) : Wc sc 9 31 [.ref o, .int (zI i)] A (fun v A' => v = .inr 2 ∧ A' = aThr A) := by
  show Wv sc 9 31 0 [some (.ref o), some (.int (zI i)), none, none] [] A _
  have h1 := hO.ob
  refine wv_s f31_0 rfl (fun _ => rfl) ?_
  refine wv_s f31_1 rfl (fun _ => rfl) ?_
  refine wv_valV f31_2 (by decide) (by simp) (by simp) (by decide +kernel) (by assumption) (by rfl) (by decide +kernel) rfl (c47 hO hg) (by omega) ?_
  refine wv_st2 f31_5 rfl (fun _ _ => rfl) ?_
  refine wv_s f31_6 rfl (fun _ => rfl) ?_
  refine wv_getfield f31_7 (h1) (by rfl) ?_
  refine wv_s (pc' := 13) f31_10 rfl (fun _ => rfl) ?_
  exact wv_throw f31_13 (by decide) (by simp) (by decide +kernel) (⟨rfl, rfl⟩)
end DB
