/-! RANGES THAT ARE KEPT; a new backup -/
def stLv (F : Nat → Option vC) (L : List (Nat × vC)) (l : LvD) : Prop := inFL F L l.a (cLv l) ∧ inFL F L l.la (cLl l) ∧ (-1 ≤ l.mu ∧ l.mu ≤ 100) ∧ ∀ r, r ∈ l.rs → okRun F r
theorem Own.lv {A : gA} {F : Nat → Option vC} {X L : List (Nat × vC)} {l : LvD} (h : Own A F (X ++ L)) (hl : stLv F L l) : okLv A.1 l := ⟨(h.fl hl.1).1, (h.fl hl.2.1).1, hl.2.2.1, fun r hr => (hl.2.2.2 r hr).ext h.1⟩
theorem inFL.ext {F G : Nat → Option vC} {L : List (Nat × vC)} {q : Nat} {c : vC} (h : inFL F L q c) (he : Ext F G) : inFL G L q c := h.imp (fun h => he _ _ h) id
theorem stLv.ext {F G : Nat → Option vC} {L : List (Nat × vC)} {l : LvD} (h : stLv F L l) (he : Ext F G) : stLv G L l := ⟨h.1.ext he, h.2.1.ext he, h.2.2.1, fun r hr => (h.2.2.2 r hr).ext he⟩
theorem inFL.cons {F : Nat → Option vC} {L : List (Nat × vC)} {q : Nat} {c : vC} {p : Nat × vC} (h : inFL F L q c) : inFL F (p :: L) q c := h.imp id (List.mem_cons_of_mem _)
theorem stLv.cons {F : Nat → Option vC} {L : List (Nat × vC)} {l : LvD} {p : Nat × vC} (h : stLv F L l) : stLv F (p :: L) l := ⟨h.1.cons, h.2.1.cons, h.2.2⟩
def keptS (m : MeD) (lvs : List LvD) (l : List ChD) : List ChD := l.filter (fun c => ovBl ((m.lv : Int) + 1) (c.f : Int) (c.t : Int) 1 (lvs.drop 1) || keepU m.kept c)
def keptR (m : MeD) (lvs : List LvD) (l : List RunD) : List ChD := l.flatMap (fun r => keptS m lvs r.spans)
section C14
variable {sc : gSc} {d : Nat} {x y z : Int} {r : RunD} {l : LvD} {f h : FamD} {F : Nat → Option vC} {q j ia ic ka kc : Nat} {v0 v1 v2 v3 v4 v5 v6 : Value} {L : List (Nat × vC)} {ins : List RunD} {kept : List ChD} {rg : ChD} {m : MeD}
theorem c66_i {Q : gO → gA → Prop} {i : Nat} (hm : inFL F L m.a (cMe m)) (hka : inFL F L m.ka (vL m.kc (m.kept.map ChD.a))) (hkk : ∀ c, c ∈ m.kept → okCh F c) (hf : okFm F f) (hmf : m.h = f.a) (hst : ∀ l, l ∈ f.lv → stLv F L l) (hlv : m.lv ≤ 3) (hr : okRun F r) : ∀ (k j lc : Nat) (A : gA) (acc : List ChD) (x5 : Option Value), j + k = r.spans.length → Own A F ((q, vL lc (acc.map ChD.a)) :: L) → acc.length + k < 2600 → lc ≤ 10 + 2 * acc.length →
    (∀ A' lc' x4 x5, Own A' F ((q, vL lc' ((acc ++ keptS m f.lv (r.spans.drop j)).map ChD.a)) :: L) → 5 * A'.2.1 + lc ≤ 5 * A.2.1 + lc' → A'.2.2 + 4 * lc ≤ A.2.2 + 4 * lc' → lc' ≤ 10 + 2 * (acc ++ keptS m f.lv (r.spans.drop j)).length → Wv sc 7 66 107 [some (.ref m.a), some (.ref q), some (.int (zI i)), some (.ref r.sa), x4, x5] [] A' Q) →
    Wv sc 7 66 39 [some (.ref m.a), some (.ref q), some (.int (zI i)), some (.ref r.sa), some (.int (zI j)), x5] [] A Q
  | 0, j, lc, A, acc, x5, hjk, hO, hlen, hlc, hQ => by
    have e : r.spans.drop j = [] := List.drop_of_length_le (by omega)
    rw [e] at hQ
    have e2 : acc ++ keptS m f.lv [] = acc := List.append_nil _
    rw [e2] at hQ
    have hQ := hQ A lc (some (.int (zI j))) x5 hO (by omega) (by omega) hlc
    have hrA := hr.ext hO.1
    have hsp := hrA.2.2.1
    refine wv_s f66_39 rfl (fun _ => rfl) ?_
    refine wv_s f66_41 rfl (fun _ => rfl) ?_
    refine wv_lsize f66_42 (by assumption) (by omega) (by simp) (fun hs => ?_)
    rw [List.length_map] at hs ⊢
    refine wv_cT_ge f66_45 (by omega) (by omega) (by omega) ?_
    exact hQ
  | k + 1, j, lc, A, acc, x5, hjk, hO, hlen, hlc, hQ => by
    obtain ⟨c, hcm, hc0, hc1, hcd, -⟩ := at_i (show j < r.spans.length by omega)
    have hrA := hr.ext hO.1
    have hsp := hrA.2.2.1
    have hcF := hr.2.2.2.2.1 c hcm
    have hcA := hcF.ext hO.1
    obtain ⟨hc2, h1, h2, h3, h4⟩ := id hcA
    have hmA : A.1 m.a = some (vO 7 [.ref f.a, .int (zI m.lv), .ref m.ia, .ref m.ka, .int (zI m.sg), .int (zI m.key), .int (zI m.dn)]) := by
      rw [← hmf]
      exact (Own.fl (X := [(q, vL lc (acc.map ChD.a))]) hO hm).1
    have hkA := (Own.fl (X := [(q, vL lc (acc.map ChD.a))]) hO hka).1
    have hfA := hf.ext hO.1
    have hls : ∀ l, l ∈ f.lv → okLv A.1 l := fun l hl => Own.lv (X := [(q, vL lc (acc.map ChD.a))]) hO (hst l hl)
    have hq := hO.at (List.mem_cons_self ..)
    have hf1 := hfA.1
    have yes : (ovBl ((m.lv : Int) + 1) (c.f : Int) (c.t : Int) 1 (f.lv.drop 1) || keepU m.kept c) = true → Wv sc 7 66 94 [some (.ref m.a), some (.ref q), some (.int (zI i)), some (.ref r.sa), some (.int (zI j)), some (.ref c.a)] [] A Q := by
      intro hy
      have hll : (acc.map ChD.a).length = acc.length := List.length_map _
      refine wv_s f66_94 rfl (fun _ => rfl) ?_
      refine wv_s f66_95 rfl (fun _ => rfl) ?_
      refine wv_ladd f66_97 (by assumption) (by assumption) (by decide +kernel) (by omega) (by omega) (by simp) (fun c1 k1 s1 hlg => ?_)
      refine wv_s f66_100 rfl (fun _ => rfl) ?_
      refine wv_inc4 f66_101 ?_
      refine wv_s (pc' := 39) f66_104 rfl (fun _ => rfl) ?_
      have hO1 := hO.lst (L1 := []) (c := vL c1 (acc.map ChD.a ++ [c.a])) (kc := k1) (ks := s1)
      rw [show acc.map ChD.a ++ [c.a] = (acc ++ [c]).map ChD.a by rw [List.map_append]; rfl] at hO1 ⊢
      have hks : keptS m f.lv (r.spans.drop j) = c :: keptS m f.lv (r.spans.drop (j + 1)) := by
        rw [hcd]
        unfold keptS
        rw [List.filter_cons_of_pos (p := fun c : ChD => ovBl ((m.lv : Int) + 1) (c.f : Int) (c.t : Int) 1 (f.lv.drop 1) || keepU m.kept c) hy]
      rw [hll] at hlg
      have hlg2 := hlg.2.2.2
      refine c66_i hm hka hkk hf hmf hst hlv hr k (j + 1) c1 _ (acc ++ [c]) _ (by omega) hO1 (by simp; omega) (by simp; omega) (fun A' lc' x4 x5 g1 g2 g3 g4 => hQ A' lc' x4 x5 ?_ ?_ ?_ ?_)
      · rw [List.append_assoc] at g1
        rw [hks]
        exact g1
      · have g2' : 5 * A'.2.1 + c1 ≤ 5 * (A.2.1 + k1) + lc' := g2
        have := hlg.2.1
        omega
      · have g3' : A'.2.2 + 4 * c1 ≤ A.2.2 + s1 + 4 * lc' := g3
        have := hlg.2.2.1
        omega
      · rw [hks]
        rw [List.append_assoc] at g4
        exact g4
    have no : (ovBl ((m.lv : Int) + 1) (c.f : Int) (c.t : Int) 1 (f.lv.drop 1) || keepU m.kept c) = false → Wv sc 7 66 101 [some (.ref m.a), some (.ref q), some (.int (zI i)), some (.ref r.sa), some (.int (zI j)), some (.ref c.a)] [] A Q := by
      intro hy
      refine wv_inc4 f66_101 ?_
      refine wv_s (pc' := 39) f66_104 rfl (fun _ => rfl) ?_
      have hks : keptS m f.lv (r.spans.drop j) = keptS m f.lv (r.spans.drop (j + 1)) := by
        rw [hcd]
        unfold keptS
        rw [List.filter_cons_of_neg (p := fun c : ChD => ovBl ((m.lv : Int) + 1) (c.f : Int) (c.t : Int) 1 (f.lv.drop 1) || keepU m.kept c) (by intro w; exact absurd (w.symm.trans hy) (by decide))]
      rw [hks] at hQ
      exact c66_i hm hka hkk hf hmf hst hlv hr k (j + 1) lc A acc _ (by omega) hO (by omega) hlc hQ
    refine wv_s f66_39 rfl (fun _ => rfl) ?_
    refine wv_s f66_41 rfl (fun _ => rfl) ?_
    refine wv_lsize f66_42 (by assumption) (by omega) (by simp) (fun hs => ?_)
    rw [List.length_map] at hs ⊢
    refine wv_cF_ge f66_45 (by omega) (by omega) (by omega) ?_
    refine wv_s f66_48 rfl (fun _ => rfl) ?_
    refine wv_s f66_49 rfl (fun _ => rfl) ?_
    refine wv_lget f66_51 (by assumption) (by first | rfl | omega) (hc1 _) (by omega) (by simp) ?_
    refine wv_cast f66_54 (by assumption) ?_
    refine wv_st5 f66_57 rfl (fun _ _ => rfl) ?_
    refine wv_s f66_59 rfl (fun _ => rfl) ?_
    refine wv_getfield f66_60 (by assumption) (by rfl) ?_
    refine wv_s f66_63 rfl (fun _ => rfl) ?_
    refine wv_getfield f66_64 (by assumption) (by rfl) ?_
    refine wv_icon f66_67 ?_
    refine wv_iadd f66_68 ?_
    refine wv_s f66_69 rfl (fun _ => rfl) ?_
    refine wv_getfield f66_71 (by assumption) (by rfl) ?_
    refine wv_s f66_74 rfl (fun _ => rfl) ?_
    refine wv_getfield f66_76 (by assumption) (by rfl) ?_
    refine wv_valV f66_79 (by decide) (by simp) (by simp) (by decide +kernel) (by assumption) (by rfl) (by decide +kernel) rfl (c111 hfA hls (by omega) (by omega) (by omega)) (by omega) ?_
    refine wv_nX f66_82 (fun hb => yes (by rw [hb, Bool.true_or])) (fun hb => ?_)
    refine wv_s f66_85 rfl (fun _ => rfl) ?_
    refine wv_s f66_86 rfl (fun _ => rfl) ?_
    refine wv_valV f66_88 (by decide) (by simp) (by simp) (by decide +kernel) (by assumption) (by rfl) (by decide +kernel) rfl (c133 hmA hkA (fun c hc => (hkk c hc).ext hO.1) hcA) (by omega) ?_
    refine wv_bX f66_91 (fun hb2 => ?_) (fun hb2 => ?_)
    · exact no (by rw [hb, hb2]; rfl)
    · exact yes (by rw [hb2, Bool.or_true])
theorem c66_o (hm : inFL F L m.a (cMe m)) (hia : F m.ia = some (vL m.ic (m.ins.map RunD.a))) (hir : ∀ r, r ∈ m.ins → okRun F r) (hka : inFL F L m.ka (vL m.kc (m.kept.map ChD.a))) (hkk : ∀ c, c ∈ m.kept → okCh F c) (hf : okFm F f) (hmf : m.h = f.a) (hst : ∀ l, l ∈ f.lv → stLv F L l) (hlv : m.lv ≤ 3) : ∀ (k i lc : Nat) (A : gA) (acc : List ChD) (x3 x4 x5 : Option Value), i + k = m.ins.length → Own A F ((q, vL lc (acc.map ChD.a)) :: L) → acc.length + ((m.ins.drop i).map (fun r => r.spans.length)).sum < 2600 → lc ≤ 10 + 2 * acc.length →
    Wv sc 7 66 10 [some (.ref m.a), some (.ref q), some (.int (zI i)), x3, x4, x5] [] A (fun o A' => ∃ v, o = .inl (some v) ∧ v = .ref q ∧ ∃ lc', Own A' F ((q, vL lc' ((acc ++ keptR m f.lv (m.ins.drop i)).map ChD.a)) :: L) ∧ 5 * A'.2.1 + lc ≤ 5 * A.2.1 + lc' ∧ A'.2.2 + 4 * lc ≤ A.2.2 + 4 * lc' ∧ lc' ≤ 10 + 2 * (acc ++ keptR m f.lv (m.ins.drop i)).length)
  | 0, i, lc, A, acc, x3, x4, x5, hik, hO, hlen, hlc => by
    have e : m.ins.drop i = [] := List.drop_of_length_le (by omega)
    rw [e]
    have e2 : acc ++ keptR m f.lv [] = acc := List.append_nil _
    rw [e2]
    have hmA := (Own.fl (X := [(q, vL lc (acc.map ChD.a))]) hO hm).1
    have hiA := hO.1 _ _ hia
    refine wv_s f66_10 rfl (fun _ => rfl) ?_
    refine wv_s f66_11 rfl (fun _ => rfl) ?_
    refine wv_getfield f66_12 (by assumption) (by rfl) ?_
    refine wv_lsize f66_15 (by assumption) (by omega) (by simp) (fun hs => ?_)
    rw [List.length_map] at hs ⊢
    refine wv_cT_ge f66_18 (by omega) (by omega) (by omega) ?_
    refine wv_s f66_113 rfl (fun _ => rfl) ?_
    exact wv_aret f66_114 (by rfl) (⟨_, rfl, rfl, lc, hO, by omega, by omega, hlc⟩)
  | k + 1, i, lc, A, acc, x3, x4, x5, hik, hO, hlen, hlc => by
    obtain ⟨r, hrm, hr0, hr1, hrd, -⟩ := at_i (show i < m.ins.length by omega)
    have hrF := hir r hrm
    have hmA := (Own.fl (X := [(q, vL lc (acc.map ChD.a))]) hO hm).1
    have hiA := hO.1 _ _ hia
    have hr2 := (hrF.ext hO.1).1
    rw [hrd, List.map_cons, List.sum_cons] at hlen
    refine wv_s f66_10 rfl (fun _ => rfl) ?_
    refine wv_s f66_11 rfl (fun _ => rfl) ?_
    refine wv_getfield f66_12 (by assumption) (by rfl) ?_
    refine wv_lsize f66_15 (by assumption) (by omega) (by simp) (fun hs => ?_)
    rw [List.length_map] at hs ⊢
    refine wv_cF_ge f66_18 (by omega) (by omega) (by omega) ?_
    refine wv_s f66_21 rfl (fun _ => rfl) ?_
    refine wv_getfield f66_22 (by assumption) (by rfl) ?_
    refine wv_s f66_25 rfl (fun _ => rfl) ?_
    refine wv_lget f66_26 (by assumption) (by first | rfl | omega) (hr1 _) (by omega) (by simp) ?_
    refine wv_cast f66_29 (by assumption) ?_
    refine wv_getfield f66_32 (by assumption) (by rfl) ?_
    refine wv_st3 f66_35 rfl (fun _ _ => rfl) ?_
    refine wv_icon f66_36 ?_
    refine wv_st4 f66_37 rfl (fun _ _ => rfl) ?_
    refine c66_i hm hka hkk hf hmf hst hlv hrF r.spans.length 0 lc A acc _ (by omega) hO (by omega) hlc (fun A' lc' x4 x5 g1 g2 g3 g4 => ?_)
    rw [List.drop_zero] at g1 g4
    have hkl : (keptS m f.lv r.spans).length ≤ r.spans.length := List.length_filter_le _ _
    refine wv_inc2 f66_107 ?_
    refine wv_s (pc' := 10) f66_110 rfl (fun _ => rfl) ?_
    refine (c66_o hm hia hir hka hkk hf hmf hst hlv k (i + 1) lc' A' (acc ++ keptS m f.lv r.spans) _ _ _ (by omega) g1 (by rw [List.length_append]; omega) g4).up (Nat.le_refl _) (fun o A'' hq' => ?_)
    obtain ⟨v, h1, h2, lc'', h3, h4, h5, h6⟩ := hq'
    have ek : acc ++ keptR m f.lv (m.ins.drop i) = acc ++ keptS m f.lv r.spans ++ keptR m f.lv (m.ins.drop (i + 1)) := by
      rw [hrd, List.append_assoc]
      rfl
    rw [ek]
    exact ⟨v, h1, h2, lc'', h3, by omega, by omega, h6⟩
theorem c66 {A : gA} (hm : inFL F L m.a (cMe m)) (hia : F m.ia = some (vL m.ic (m.ins.map RunD.a))) (hir : ∀ r, r ∈ m.ins → okRun F r) (hka : inFL F L m.ka (vL m.kc (m.kept.map ChD.a))) (hkk : ∀ c, c ∈ m.kept → okCh F c) (hf : okFm F f) (hmf : m.h = f.a) (hst : ∀ l, l ∈ f.lv → stLv F L l) (hlv : m.lv ≤ 3) (hO : Own A F L) (hlen : (m.ins.map (fun r => r.spans.length)).sum < 2600) :
    Wc sc 7 66 [.ref m.a] A (fun o A' => ∃ v, o = .inl (some v) ∧ ∃ q lc', v = .ref q ∧ Own A' F ((q, vL lc' ((keptR m f.lv m.ins).map ChD.a)) :: L) ∧ 5 * A'.2.1 ≤ 5 * A.2.1 + 5 + lc' ∧ A'.2.2 ≤ A.2.2 + 3 + 4 * lc' ∧ lc' ≤ 10 + 2 * (keptR m f.lv m.ins).length) := by
  show Wv sc 7 66 0 [some (.ref m.a), none, none, none, none, none] [] A _
  refine wv_newL f66_0 (fun q hq => ?_)
  refine wv_s f66_3 rfl (fun _ => rfl) ?_
  have hO1 := hO.new (n := 3) (c := vW) hq
  have f1 := hO1.at (List.mem_cons_self ..)
  refine wv_linit f66_4 (by assumption) (by omega) (by simp) ?_
  refine wv_st1 f66_7 rfl (fun _ _ => rfl) ?_
  refine wv_icon f66_8 ?_
  refine wv_st2 f66_9 rfl (fun _ _ => rfl) ?_
  have hO2 := hO1.put (L1 := []) (c := vL 0 [])
  refine (c66_o hm hia hir hka hkk hf hmf hst hlv m.ins.length 0 0 _ [] _ _ _ (by omega) hO2 (by rw [List.drop_zero, List.length_nil]; omega) (by simp)).up (Nat.le_refl _) (fun o A' hq' => ?_)
  obtain ⟨v, h1, h2, lc', h3, h4, h5, h6⟩ := hq'
  rw [List.drop_zero, List.nil_append] at h3 h6
  refine ⟨v, h1, q, lc', h2, h3, ?_, ?_, h6⟩
  · have h4' : 5 * A'.2.1 + 0 ≤ 5 * (A.2.1 + 1) + lc' := h4
    omega
  · have h5' : A'.2.2 + 4 * 0 ≤ A.2.2 + 3 + 4 * lc' := h5
    omega
end C14
