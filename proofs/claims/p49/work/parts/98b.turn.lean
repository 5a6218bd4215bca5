/-! A TURN; ALL TURNS; THE END -/
theorem shp_ok : ∀ {t : List LvD} {i : Nat}, (∀ l, l ∈ t → ∀ r, r ∈ l.rs → r.fair = true) → (∀ (n : Nat) l, t[n]? = some l → 0 < i + n → isRis l.rs = true) → shpF i t = true
  | [], _, _, _ => rfl
  | l :: t, i, h1, h2 => by
    have ih := @shp_ok t (i + 1) (fun l hl => h1 l (List.mem_cons_of_mem _ hl)) (fun n l hl h0 => h2 (n + 1) l hl (by omega))
    show ((l.rs.all RunD.fair && (i == 0 || isRis l.rs)) && shpF (i + 1) t) = true
    rw [ih, Bool.and_true, Bool.and_eq_true, List.all_eq_true]
    refine ⟨fun r hr => h1 l (List.mem_cons_self ..) r hr, ?_⟩
    by_cases h0 : i = 0
    · rw [h0]
      rfl
    · rw [h2 0 l rfl (by omega), Bool.or_true]
section TT
variable {sc : gSc} {d : Nat} {A A0 : gA} {Q : gO → gA → Prop} {o qa qm qo qh qt ql nF hM mk bM i j k what C S kS kn key m : Nat} {fo : Nat → Int32} {x14 x15 x16 x17 x18 x19 x20 : Option Value}
theorem LI.mono {k' kn' kS' C' S' : Nat} (h : LI A o qa qm qo qh qt ql nF fo (k) (kn) (kS) (C) (S) (hM) (mk) (bM)) (h1 : k ≤ k') (h2 : kn ≤ kn') (h3 : kS ≤ kS') (h4 : C ≤ C') (h5 : S ≤ S') : LI A o qa qm qo qh qt ql nF fo (k') (kn') (kS') (C') (S') (hM) (mk) (bM) := by
  obtain ⟨F, f, w, s, ca, cc, b, fi, y, me, ct, fm, rows, fh, ft, fl, hl, hO, hfm, hR, hG, hM9, hH, hhl, hmk, hB, hbM, hN, hnF, hop, hC, hS⟩ := h
  obtain ⟨n1, n2, n3, n4, n5, n6, n7, n8, n9, n10⟩ := hN
  exact ⟨F, f, w, s, ca, cc, b, fi, y, me, ct, fm, rows, fh, ft, fl, hl, hO, hfm, hR, hG, hM9, hH, hhl, hmk, hB, hbM, ⟨by omega, n2, fun m hm => ⟨(n3 m hm).1, by have := (n3 m hm).2; omega⟩, by omega, by omega, by omega, by omega, by omega, n9, n10⟩, hnF, hop, by omega, by omega⟩
theorem LI.bnd (h : LI A o qa qm qo qh qt ql nF fo (k) (kn) (kS) (C) (S) (hM) (mk) (bM)) : hM ≤ 6 ∧ bM ≤ 3 ∧ mk ≤ k := by
  obtain ⟨F, f, w, s, ca, cc, b, fi, y, me, ct, fm, rows, fh, ft, fl, hl, hO, hfm, hR, hG, hM9, hH, hhl, hmk, hB, hbM, hN, hnF, hop, hC, hS⟩ := h
  have h1 := hH.1
  have h2 := hB.1
  have h3 := hN.2.2.2.1
  omega
theorem tt (hs : sc.1 ≤ 260) (hk : k < 120) (h0 : 0 < nF) (hn3 : nF ≤ 3) (hL : LI A o qa qm qo qh qt ql nF fo (k) (2 * k) (60000 * k) (C) (S) (hM) (mk) (bM))
    (hQ : ∀ A' hM mk bM x14 x15 x16 x17 x18 x19 x20, LI A' o qa qm qo qh qt ql nF fo (k + 1) (2 * (k + 1)) (60000 * (k + 1)) (C + 3200) (S + 50000) (hM) (mk) (bM) → Wv sc 16 0 129 [some (.retAddr 0), some (.ref o), some (.int (zI nF)), some (.ref qo), some (.int (zI 1)), some (.ref qa), some (.ref qm), some (.ref qh), some (.ref qt), some (.int (zI hM)), some (.int (zI mk)), some (.int (zI bM)), some (.ref ql), some (.int (zI ((k + 1 : Nat) : Int))), x14, x15, x16, x17, x18, x19, x20] [] A' Q) :
    Wv sc 16 0 129 [some (.retAddr 0), some (.ref o), some (.int (zI nF)), some (.ref qo), some (.int (zI 1)), some (.ref qa), some (.ref qm), some (.ref qh), some (.ref qt), some (.int (zI hM)), some (.int (zI mk)), some (.int (zI bM)), some (.ref ql), some (.int (zI k)), x14, x15, x16, x17, x18, x19, x20] [] A Q := by
  obtain ⟨b1, b2, b3⟩ := hL.bnd
  refine wv_s f0_129 rfl (fun _ => rfl) ?_
  refine wv_bip f0_131 (by decide) ?_
  refine wv_cF_ge f0_133 (by omega) (by omega) (by omega) ?_
  refine wv_s f0_136 rfl (fun _ => rfl) ?_
  refine wv_zF_eq f0_138 (by omega) (by omega) ?_
  refine wv_bip f0_141 (by decide) ?_
  refine wv_bip f0_143 (by decide) ?_
  refine wv_s f0_145 rfl (fun _ => rfl) ?_
  refine wv_imul f0_147 ?_
  refine wv_iadd f0_148 ?_
  rw [show (10 : Int) + 7 * (k : Int) = ((10 + 7 * k : Nat) : Int) by omega]
  obtain ⟨i, hi⟩ : ∃ i, 10 + 7 * k = i := ⟨_, rfl⟩
  rw [hi]
  refine wv_st14 f0_149 rfl (fun _ _ => rfl) ?_
  refine wv_s f0_151 rfl (fun _ => rfl) ?_
  refine wv_s f0_152 rfl (fun _ => rfl) ?_
  refine wv_icon f0_154 ?_
  refine wv_iadd f0_155 ?_
  rw [show (i : Int) + 5 = ((i + 5 : Nat) : Int) by omega]
  refine wv_s f0_156 rfl (fun _ => rfl) ?_
  refine wv_resS f0_157 (by decide) (by simp) (by simp) (by decide +kernel) (c1 (m := nF) hs (by omega) (by omega)) (by omega) (fun v1 A1 e1 => ?_)
  obtain ⟨⟨j, hj, rfl⟩, eA⟩ := e1
  rw [eA]
  refine wv_st15 f0_160 rfl (fun _ _ => rfl) ?_
  refine wv_s f0_162 rfl (fun _ => rfl) ?_
  refine wv_s f0_163 rfl (fun _ => rfl) ?_
  refine wv_bip f0_165 (by decide) ?_
  refine wv_iadd f0_167 ?_
  rw [show (i : Int) + 6 = ((i + 6 : Nat) : Int) by omega]
  refine wv_bip f0_168 (by decide) ?_
  refine wv_resS f0_170 (by decide) (by simp) (by simp) (by decide +kernel) (c1 (m := 24) hs (by omega) (by omega)) (by omega) (fun v1 A1 e1 => ?_)
  obtain ⟨⟨what, hwh, rfl⟩, eA⟩ := e1
  rw [eA]
  have fin : ∀ (C' S' : Nat) A' hM mk bM x17 x18 x19 x20, C' ≤ C + 3000 → S' ≤ S + 48000 → LI A' o qa qm qo qh qt ql nF fo (k + 1) (2 * k) (60000 * k) (C') (S') (hM) (mk) (bM) → Wv sc 16 0 1221 [some (.retAddr 0), some (.ref o), some (.int (zI nF)), some (.ref qo), some (.int (zI 1)), some (.ref qa), some (.ref qm), some (.ref qh), some (.ref qt), some (.int (zI hM)), some (.int (zI mk)), some (.int (zI bM)), some (.ref ql), some (.int (zI k)), some (.int (zI i)), some (.int (zI j)), some (.int (zI what)), x17, x18, x19, x20] [] A' Q := by
    intro C' S' A' hM mk bM x17 x18 x19 x20 hC' hS' hL'
    exact ta hs (by omega) hk hj hn3 hL' (fun A'' y17 y18 y19 y20 hL'' => hQ A'' hM mk bM _ _ _ _ _ _ _ (hL''.mono (Nat.le_refl _) (Nat.le_refl _) (Nat.le_refl _) (by omega) (by omega)))
  have skip : ∀ x17 x18 x19 x20, Wv sc 16 0 1221 [some (.retAddr 0), some (.ref o), some (.int (zI nF)), some (.ref qo), some (.int (zI 1)), some (.ref qa), some (.ref qm), some (.ref qh), some (.ref qt), some (.int (zI hM)), some (.int (zI mk)), some (.int (zI bM)), some (.ref ql), some (.int (zI k)), some (.int (zI i)), some (.int (zI j)), some (.int (zI what)), x17, x18, x19, x20] [] A Q := fun x17 x18 x19 x20 => fin C S A hM mk bM _ _ _ _ (by omega) (by omega) (hL.mono (by omega) (Nat.le_refl _) (Nat.le_refl _) (Nat.le_refl _) (Nat.le_refl _))
  refine wv_st16 f0_173 rfl (fun _ _ => rfl) ?_
  refine wv_s f0_175 rfl (fun _ => rfl) ?_
  refine wv_bip f0_177 (by decide) ?_
  refine wv_cX_ge f0_179 (by omega) (by omega) (fun hb => ?_) (fun hb => ?_)
  · refine wv_s f0_200 rfl (fun _ => rfl) ?_
    refine wv_bip f0_202 (by decide) ?_
    refine wv_cX_ne f0_204 (by omega) (by omega) (fun hb1 => ?_) (fun hb1 => ?_)
    · refine wv_s f0_280 rfl (fun _ => rfl) ?_
      refine wv_bip f0_282 (by decide) ?_
      refine wv_cX_ge f0_284 (by omega) (by omega) (fun hb2 => ?_) (fun hb2 => ?_)
      · refine wv_s f0_406 rfl (fun _ => rfl) ?_
        refine wv_bip f0_408 (by decide) ?_
        refine wv_cX_ne f0_410 (by omega) (by omega) (fun hb3 => ?_) (fun hb3 => ?_)
        · refine wv_s f0_446 rfl (fun _ => rfl) ?_
          refine wv_bip f0_448 (by decide) ?_
          refine wv_cX_ne f0_450 (by omega) (by omega) (fun hb4 => ?_) (fun hb4 => ?_)
          · have rest : ∀ x17 x18 x19 x20, Wv sc 16 0 617 [some (.retAddr 0), some (.ref o), some (.int (zI nF)), some (.ref qo), some (.int (zI 1)), some (.ref qa), some (.ref qm), some (.ref qh), some (.ref qt), some (.int (zI hM)), some (.int (zI mk)), some (.int (zI bM)), some (.ref ql), some (.int (zI k)), some (.int (zI i)), some (.int (zI j)), some (.int (zI what)), x17, x18, x19, x20] [] A Q := by
              intro x17 x18 x19 x20
              refine wv_s f0_617 rfl (fun _ => rfl) ?_
              refine wv_bip f0_619 (by decide) ?_
              refine wv_cX_ne f0_621 (by omega) (by omega) (fun hb6 => ?_) (fun hb6 => ?_)
              · refine wv_s f0_721 rfl (fun _ => rfl) ?_
                refine wv_bip f0_723 (by decide) ?_
                refine wv_cX_ne f0_725 (by omega) (by omega) (fun hb7 => ?_) (fun hb7 => ?_)
                · refine wv_s f0_876 rfl (fun _ => rfl) ?_
                  refine wv_bip f0_878 (by decide) ?_
                  refine wv_cX_ne f0_880 (by omega) (by omega) (fun hb8 => ?_) (fun hb8 => ?_)
                  · refine wv_s f0_1045 rfl (fun _ => rfl) ?_
                    refine wv_bip f0_1047 (by decide) ?_
                    refine wv_cX_ne f0_1049 (by omega) (by omega) (fun hb9 => ?_) (fun hb9 => ?_)
                    · exact skip _ _ _ _
                    · refine wv_s f0_1052 rfl (fun _ => rfl) ?_
                      refine wv_zX_le f0_1054 (by omega) (fun hb10 => ?_) (fun hb10 => ?_)
                      · exact skip _ _ _ _
                      · exact tn_rs hs (by omega) hk hn3 (by omega) hL (fun A' y17 y18 y19 y20 hL' => fin _ _ A' _ _ _ _ _ _ _ (Nat.le_refl _) (Nat.le_refl _) hL')
                  · exact tn_bk hk hn3 hL (fun A' bM' y17 y18 y19 y20 _ hL' => fin _ _ A' _ _ _ _ _ _ _ (Nat.le_refl _) (Nat.le_refl _) hL')
                · exact tn_cr hk hj hn3 b1 hL (fun A' y17 y18 y19 y20 hL' => fin (C + 1000) (S + 15000) A' _ _ _ _ _ _ _ (by omega) (by omega) hL')
              · exact tn_sy hk hL (fun A' y17 y18 y19 y20 hL' => fin (C + 1000) (S + 15000) A' _ _ _ _ _ _ _ (by omega) (by omega) hL')
            refine wv_s f0_522 rfl (fun _ => rfl) ?_
            refine wv_bip f0_524 (by decide) ?_
            refine wv_cX_ne f0_526 (by omega) (by omega) (fun hb5 => ?_) (fun hb5 => ?_)
            · exact rest _ _ _ _
            · refine wv_s f0_529 rfl (fun _ => rfl) ?_
              refine wv_zX_le f0_531 (by omega) (fun hb6 => ?_) (fun hb6 => ?_)
              · exact rest _ _ _ _
              · exact tn_rl hs (by omega) hk (by omega) b1 hL (fun A' hM' mk' y17 y18 y19 y20 _ hL' => fin (C + 1000) (S + 15000) A' _ _ _ _ _ _ _ (by omega) (by omega) hL')
          · exact tn_sn hk hL (fun A' hM' mk' y17 y18 y19 y20 _ hL' => fin (C + 1000) (S + 15000) A' _ _ _ _ _ _ _ (by omega) (by omega) hL')
        · exact tn_st hk hL (fun A' y17 y18 y19 y20 hL' => fin (C + 1000) (S + 15000) A' _ _ _ _ _ _ _ (by omega) (by omega) hL')
      · exact tn_mr hs (by omega) hk hj hn3 hL (fun A' y17 y18 y19 y20 hL' => fin (C + 3000) (S + 40000) A' _ _ _ _ _ _ _ (by omega) (by omega) hL')
    · exact tn_fl hk hj hn3 hL (fun A' y17 y18 y19 y20 hL' => fin (C + 1000) (S + 15000) A' _ _ _ _ _ _ _ (by omega) (by omega) hL')
  · exact tn_wr hs (by omega) hk hj hn3 (by omega) hL (fun A' y17 y18 y19 y20 hL' => fin (C + 1000) (S + 15000) A' _ _ _ _ _ _ _ (by omega) (by omega) hL')
theorem tl (hs : sc.1 ≤ 260) (h0 : 0 < nF) (hn3 : nF ≤ 3) : ∀ (n k : Nat) (A : gA) (C S hM mk9 bM : Nat) (x14 x15 x16 x17 x18 x19 x20 : Option Value), k + n = 120 → LI A o qa qm qo qh qt ql nF fo (k) (2 * k) (60000 * k) (C) (S) (hM) (mk9) (bM) →
    (∀ A' hM mk9 bM x14 x15 x16 x17 x18 x19 x20, LI A' o qa qm qo qh qt ql nF fo (120) (240) (7200000) (C + 3200 * n) (S + 50000 * n) (hM) (mk9) (bM) → Wv sc 16 0 1498 [some (.retAddr 0), some (.ref o), some (.int (zI nF)), some (.ref qo), some (.int (zI 1)), some (.ref qa), some (.ref qm), some (.ref qh), some (.ref qt), some (.int (zI hM)), some (.int (zI mk9)), some (.int (zI bM)), some (.ref ql), some (.int (zI 120)), x14, x15, x16, x17, x18, x19, x20] [] A' Q) →
    Wv sc 16 0 129 [some (.retAddr 0), some (.ref o), some (.int (zI nF)), some (.ref qo), some (.int (zI 1)), some (.ref qa), some (.ref qm), some (.ref qh), some (.ref qt), some (.int (zI hM)), some (.int (zI mk9)), some (.int (zI bM)), some (.ref ql), some (.int (zI k)), x14, x15, x16, x17, x18, x19, x20] [] A Q
  | 0, k, A, C, S, hM, mk9, bM, x14, x15, x16, x17, x18, x19, x20, hkn, hL, hQ => by
    obtain rfl : k = 120 := by omega
    refine wv_s f0_129 rfl (fun _ => rfl) ?_
    refine wv_bip f0_131 (by decide) ?_
    refine wv_cT_ge f0_133 (by omega) (by omega) (by omega) ?_
    exact hQ A _ _ _ _ _ _ _ _ _ _ hL
  | n + 1, k, A, C, S, hM, mk9, bM, x14, x15, x16, x17, x18, x19, x20, hkn, hL, hQ => by
    refine tt hs (by omega) h0 hn3 hL (fun A' hM' mk9' bM' y14 y15 y16 y17 y18 y19 y20 hL' => ?_)
    refine tl hs h0 hn3 n (k + 1) A' (C + 3200) (S + 50000) hM' mk9' bM' _ _ _ _ _ _ _ (by omega) hL' (fun A'' hM'' mk9'' bM'' z14 z15 z16 z17 z18 z19 z20 hL'' => ?_)
    rw [show C + 3200 + 3200 * n = C + 3200 * (n + 1) by omega, show S + 50000 + 50000 * n = S + 50000 * (n + 1) by omega] at hL''
    exact hQ A'' _ _ _ _ _ _ _ _ _ _ hL''
/-- the end -/
theorem te (hn3 : nF ≤ 3) (hL : LI A o qa qm qo qh qt ql nF fo (120) (240) (7200000) (C) (S) (hM) (mk) (bM)) : Wv sc 16 0 1498 [some (.retAddr 0), some (.ref o), some (.int (zI nF)), some (.ref qo), some (.int (zI 1)), some (.ref qa), some (.ref qm), some (.ref qh), some (.ref qt), some (.int (zI hM)), some (.int (zI mk)), some (.int (zI bM)), some (.ref ql), some (.int (zI 120)), x14, x15, x16, x17, x18, x19, x20] [] A (fun v A' => v = .inl (some (.int (bI true))) ∧ A'.2.1 ≤ C + 60 ∧ A'.2.2 ≤ S + 1100) := by
  obtain ⟨F, f, w, s, ca, cc, b, fi, y, me, ct, fm, rows, fh, ft, fl, hl, hO, hfm, hR, hG, hM9, hH, hhl, hmk, hB, hbM, hN, hnF, hop, hC, hS⟩ := hL
  obtain ⟨n1, n2, n3, n4, n5, n6, n7, n8, n9, n10⟩ := hN
  have hob := hO.ob
  have hkl : ∀ g, g ∈ f.2.2 → kL g.lv ≤ 7680 := fun g hg => by
    have h1 := @kL_le 480 g.lv (fun l hl => lv_wt hO hG n1 hg hl)
    rw [hO.l4 g hg] at h1
    omega
  have h62 := c62 (sc := sc) (N := 120) hO (fun g hg l hl9 r hr => by
    have h1 := (lv_wt hO hG n1 hg hl9).1
    have h2 := wt_le hr
    omega) (fun g hg x hx l hl9 r hr => by
    obtain ⟨k9, rfl⟩ : ∃ k9 : Nat, x = (k9 : Nat) := ⟨x.toNat, by omega⟩
    exact col_len hG n1 hg hl9 hr (by omega)) (by omega) (fun g hg k9 hk9 => lk_an (hG.at hg) hG.1 hG.2.1 (fun v hv => (hG.2.2.1 v hv).1) (.inr (Nat.le_refl _)) hk9) (fun g hg => shp_ok (fun l hl9 r hr => ((hG.at hg).2.2.2.2.1 l.rs (List.mem_map_of_mem hl9) r hr).2.2.2.2) (fun n9 l hl9 h9 => (hG.at hg).2.2.2.1 n9 l.rs (by rw [List.getElem?_map, hl9]; rfl) (by omega))) (fun g hg => by
    have := hkl g hg
    omega)
  refine wv_s f0_1498 rfl (fun _ => rfl) ?_
  refine wv_zF_eq f0_1500 (by omega) (by omega) ?_
  refine wv_s f0_1503 rfl (fun _ => rfl) ?_
  refine wv_resV f0_1504 (by decide) (by simp) (by simp) (by decide +kernel) hob (by rfl) (by decide +kernel) rfl (Wc.res h62) (by omega) (fun v9 A1 hv => ?_)
  obtain ⟨rfl, fd', y', hO1, hY⟩ := hv
  have hob1 := hO1.ob
  obtain ⟨q1, q2, q3, q4⟩ := hY
  have hcS : ct.2.2.2.2.2.1 ≤ cS ct ∧ ct.2.2.2.2.2.2.1 ≤ cS ct := by unfold cS; omega
  refine wv_bF f0_1507 (rfl) ?_
  refine wv_s f0_1510 rfl (fun _ => rfl) ?_
  refine wv_valV f0_1511 (by decide) (by simp) (by simp) (by decide +kernel) (hob1) (by rfl) (by decide +kernel) rfl (c46 hO1) (by omega) ?_
  refine wv_s f0_1514 rfl (fun _ => rfl) ?_
  refine wv_valV f0_1515 (by decide) (by simp) (by simp) (by decide +kernel) (hob1) (by rfl) (by decide +kernel) rfl (c22 hO1) (by omega) ?_
  refine wv_cF_gt f0_1518 (by omega) (by omega) (by omega) ?_
  refine wv_s f0_1521 rfl (fun _ => rfl) ?_
  refine wv_valV f0_1522 (by decide) (by simp) (by simp) (by decide +kernel) (hob1) (by rfl) (by decide +kernel) rfl (c46 hO1) (by omega) ?_
  refine wv_s f0_1525 rfl (fun _ => rfl) ?_
  refine wv_valV f0_1526 (by decide) (by simp) (by simp) (by decide +kernel) (hob1) (by rfl) (by decide +kernel) rfl (c26 hO1) (by omega) ?_
  refine wv_cF_gt f0_1529 (by omega) (by omega) (by omega) ?_
  refine wv_icon f0_1532 ?_
  refine wv_s (pc' := 1537) f0_1533 rfl (fun _ => rfl) ?_
  exact wv_iretB (p := true) f0_1537 (by decide +kernel) ( ⟨rfl, by omega, by omega⟩)
end TT
