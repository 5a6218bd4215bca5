/-! MOMENTS: snapshots, releasing -/
theorem nd_inj : ∀ {s : List SnD} {x v : SnD}, (s.map SnD.i).Nodup → x ∈ s → v ∈ s → x.i = v.i → x = v
  | [], _, _, _, hx, _, _ => by cases hx
  | a :: s, x, v, hn, hx, hv, he => by
    rw [List.map_cons, List.nodup_cons] at hn
    rcases List.mem_cons.mp hx with h1 | h1
    · rcases List.mem_cons.mp hv with h2 | h2
      · rw [h1, h2]
      · exact absurd (show v.i ∈ s.map SnD.i from List.mem_map_of_mem h2) (by rw [← he, h1]; exact hn.1)
    · rcases List.mem_cons.mp hv with h2 | h2
      · exact absurd (show x.i ∈ s.map SnD.i from List.mem_map_of_mem h1) (by rw [he, h2]; exact hn.1)
      · exact nd_inj hn.2 h1 h2 he
theorem swp {l : List (Nat × Nat)} {k : Nat} {p : Nat × Nat} (h : l[k]? = some p) : ∃ l', l.Perm (p :: l') ∧ l'.length + 1 = l.length ∧ ∀ (j : Nat) q, l'[j]? = some q → (j = k ∧ l[l.length - 1]? = some q) ∨ (j ≠ k ∧ l[j]? = some q) := by
  have hk := (List.getElem?_eq_some_iff.mp h).1
  rcases List.eq_nil_or_concat l with rfl | ⟨t, z, rfl⟩
  · simp at h
  · rw [List.concat_eq_append] at h hk ⊢
    rw [List.length_append] at hk
    have hk' : k < t.length + 1 := hk
    have hz : (t ++ [z])[(t ++ [z]).length - 1]? = some z := by
      rw [List.length_append, List.getElem?_append_right (by simp)]
      simp
    by_cases he : k = t.length
    · have hpz : p = z := by
        rw [he, List.getElem?_append_right (Nat.le_refl _), Nat.sub_self] at h
        cases h
        rfl
      refine ⟨t, by rw [hpz]; exact List.perm_append_comm, by rw [List.length_append]; rfl, fun j q hq => .inr ⟨?_, ?_⟩⟩
      · have := (List.getElem?_eq_some_iff.mp hq).1
        omega
      · rw [List.getElem?_append_left (List.getElem?_eq_some_iff.mp hq).1]
        exact hq
    · have hkt : k < t.length := by omega
      rw [List.getElem?_append_left hkt] at h
      obtain ⟨e1, e2⟩ := at_mid h
      refine ⟨t.take k ++ z :: t.drop (k + 1), ?_, ?_, fun j q hq => ?_⟩
      · have e3 : t ++ [z] = t.take k ++ p :: (t.drop (k + 1) ++ [z]) := by
          have e9 := congrArg (fun l => l ++ [z]) e1
          exact e9.trans (List.append_assoc ..)
        rw [e3]
        refine List.perm_middle.trans (List.Perm.cons _ (List.Perm.append_left _ ?_))
        exact List.perm_append_comm
      · have e4 := congrArg List.length e1
        simp only [List.length_append, List.length_cons] at e4 ⊢
        simp
        omega
      · by_cases hj : j = k
        · refine .inl ⟨hj, ?_⟩
          rw [hz]
          rw [hj, List.getElem?_append_right (by omega), e2, Nat.sub_self] at hq
          exact hq
        · refine .inr ⟨hj, ?_⟩
          have h9 := @at_g _ (t.take k) (t.drop (k + 1)) z p j
          rw [e2, if_neg hj, ← e1] at h9
          rw [h9] at hq
          rw [List.getElem?_append_left (List.getElem?_eq_some_iff.mp hq).1]
          exact hq
section TS
variable {sc : gSc} {d : Nat} {A A0 : gA} {Q : gO → gA → Prop} {o qa qm qo qh qt ql nF hM mk bM i j k what C S kS kn : Nat} {fo : Nat → Int32} {x17 x18 x19 x20 : Option Value}
/-- 18: a snapshot -/
theorem tn_sn (hk : k < 120) (hL : LI A o qa qm qo qh qt ql nF fo (k) (kn) (kS) (C) (S) (hM) (mk) (bM))
    (hQ : ∀ A' hM mk x17 x18 x19 x20, hM ≤ 6 → LI A' o qa qm qo qh qt ql nF fo (k + 1) (kn) (kS) (C + 1000) (S + 15000) (hM) (mk) (bM) → Wv sc 16 0 1221 [some (.retAddr 0), some (.ref o), some (.int (zI nF)), some (.ref qo), some (.int (zI 1)), some (.ref qa), some (.ref qm), some (.ref qh), some (.ref qt), some (.int (zI hM)), some (.int (zI mk)), some (.int (zI bM)), some (.ref ql), some (.int (zI k)), some (.int (zI i)), some (.int (zI j)), some (.int (zI what)), x17, x18, x19, x20] [] A' Q) :
    Wv sc 16 0 453 [some (.retAddr 0), some (.ref o), some (.int (zI nF)), some (.ref qo), some (.int (zI 1)), some (.ref qa), some (.ref qm), some (.ref qh), some (.ref qt), some (.int (zI hM)), some (.int (zI mk)), some (.int (zI bM)), some (.ref ql), some (.int (zI k)), some (.int (zI i)), some (.int (zI j)), some (.int (zI what)), x17, x18, x19, x20] [] A Q := by
  obtain ⟨F, f, w, s, ca, cc, b, fi, y, me, ct, fm, rows, fh, ft, fl, hl, hO, hfm, hR, hG, hM9, hH, hhl, hmk, hB, hbM, hN, hnF, hop, hC, hS⟩ := hL
  obtain ⟨n1, n2, n3, n4, n5, n6, n7, n8, n9, n10⟩ := hN
  have hsl := hH.len
  have hl6 := hH.1
  by_cases h6 : hM = 6
  · have d6 : Wc sc 9 2 [.ref o, .int (zI 6), .int (zI 0), .int (zI 0), .int (zI 0), .int (zI 0), .int (zI 0)] A (fun v A' => ∃ v9, v = .inl (some v9) ∧ (v9 = .int (zI (-2000003)) ∧ A' = aThr A)) :=
      c2_w (c13_6 hO.ob rfl (c93_t hO (by omega)) (fun v A' hv => .inr ⟨_, hv.1⟩) (d := 8) (by omega)) (fun v A' hv => .inr ⟨_, hv.1⟩) (by omega) (fun v A' hv => ⟨_, by rw [hv.1]; rfl, rfl, hv.2⟩)
    refine wv_s f0_453 rfl (fun _ => rfl) ?_
    refine wv_bip f0_454 (by decide) ?_
    refine wv_icon f0_456 ?_
    refine wv_icon f0_457 ?_
    refine wv_icon f0_458 ?_
    refine wv_icon f0_459 ?_
    refine wv_icon f0_460 ?_
    refine wv_resS f0_461 (by decide) (by simp) (by simp) (by decide +kernel) (d6) (by omega) (fun v9 A1 hv => ?_)
    obtain ⟨rfl, rfl⟩ := hv
    refine wv_st17 f0_464 rfl (fun _ _ => rfl) ?_
    refine wv_s f0_466 rfl (fun _ => rfl) ?_
    refine wv_s f0_468 rfl (fun _ => rfl) ?_
    refine wv_bip f0_470 (by decide) ?_
    refine wv_cF_ne f0_472 (by omega) (by omega) (by omega) ?_
    refine wv_ldcI (k := -2000003) f0_475 (by decide) ?_
    refine wv_s (pc' := 482) f0_477 rfl (fun _ => rfl) ?_
    refine wv_cF_ne f0_482 (by omega) (by omega) (by omega) ?_
    refine wv_icon f0_485 ?_
    refine wv_s (pc' := 490) f0_486 rfl (fun _ => rfl) ?_
    refine wv_st4 f0_490 rfl (fun _ _ => rfl) ?_
    refine wv_s f0_492 rfl (fun _ => rfl) ?_
    refine wv_zT_lt f0_494 (by omega) (by omega) ?_
    refine wv_s (pc' := 1221) f0_519 rfl (fun _ => rfl) ?_
    exact hQ (aThr A) _ _ _ _ _ _ (by omega) ⟨F, f, w, s, ca, cc, b, fi, y, me, ct, fm, rows, fh, ft, fl, hl, hO.thr, hfm, hR, hG, hM9, hH, hhl, hmk, hB, hbM, ⟨by omega, n2, fun m hm => ⟨(n3 m hm).1, by have := (n3 m hm).2; omega⟩, by omega, n5, by omega, by omega, n8, n9, n10⟩, hnF, hop, by show A.2.1 + 1 ≤ _; omega, by show A.2.2 + 6 ≤ _; omega⟩
  · have d6 : Wc sc 9 2 [.ref o, .int (zI 6), .int (zI 0), .int (zI 0), .int (zI 0), .int (zI 0), .int (zI 0)] A (fun v A' => ∃ v9, v = .inl (some v9) ∧ (v9 = .int (zI ct.1) ∧ ∃ q F' c' ct', Ext F F' ∧ ct' = (ct.1 + 1, ct.2) ∧ okO A' F' (lwL qm qa fm rows (KL qo qh qt ql fo fh ft fl)) o f w (s.1, c', s.2.2 ++ [(q, ct.1, w.2.2.length)]) (ca, cc, []) b fi y me ct' ∧ A'.2.1 ≤ A.2.1 + 6 ∧ A'.2.2 ≤ A.2.2 + 90)) :=
      c2_w (c13_6 hO.ob rfl (c93 hO (by omega) (by omega) (by omega)) (fun v A' hv => .inl ⟨_, hv.1⟩) (d := 8) (by omega)) (fun v A' hv => .inl ⟨_, hv.1⟩) (by omega) (fun v A' hv => ⟨_, by rw [hv.1]; rfl, rfl, hv.2⟩)
    refine wv_s f0_453 rfl (fun _ => rfl) ?_
    refine wv_bip f0_454 (by decide) ?_
    refine wv_icon f0_456 ?_
    refine wv_icon f0_457 ?_
    refine wv_icon f0_458 ?_
    refine wv_icon f0_459 ?_
    refine wv_icon f0_460 ?_
    refine wv_resS f0_461 (by decide) (by simp) (by simp) (by decide +kernel) (d6) (by omega) (fun v9 A1 hv => ?_)
    obtain ⟨rfl, q, F', c', ct', e1, e2, hO1, hC1, hS1⟩ := hv
    subst e2
    have hm1 := hO1.lm
    have hh1 : A1.1 qh = some (vN .int 40 fh) := hO1.lk (p := (qh, vN .int 40 fh)) (by simp [KL])
    refine wv_st17 f0_464 rfl (fun _ _ => rfl) ?_
    refine wv_s f0_466 rfl (fun _ => rfl) ?_
    refine wv_s f0_468 rfl (fun _ => rfl) ?_
    refine wv_bip f0_470 (by decide) ?_
    refine wv_cT_ne f0_472 (by omega) (by omega) (by omega) ?_
    refine wv_s f0_480 rfl (fun _ => rfl) ?_
    refine wv_cF_ne f0_482 (by omega) (by omega) (by omega) ?_
    refine wv_icon f0_485 ?_
    refine wv_s (pc' := 490) f0_486 rfl (fun _ => rfl) ?_
    refine wv_st4 f0_490 rfl (fun _ _ => rfl) ?_
    refine wv_s f0_492 rfl (fun _ => rfl) ?_
    refine wv_zF_lt f0_494 (by omega) (by omega) ?_
    refine wv_s f0_497 rfl (fun _ => rfl) ?_
    refine wv_s f0_499 rfl (fun _ => rfl) ?_
    refine wv_s f0_501 rfl (fun _ => rfl) ?_
    refine wv_iastore (j := hM) f0_503 (hh1) (by first | rfl | omega) (by omega) (by omega) ?_
    have hO2 : okO (aPut A1 qh (vN .int 40 (upd fh hM (zI ct.1)))) F' (lwL qm qa fm rows (KL qo qh qt ql fo (upd fh hM (zI ct.1)) ft fl)) o f w (s.1, c', s.2.2 ++ [(q, ct.1, w.2.2.length)]) (ca, cc, []) b fi y me (ct.1 + 1, ct.2) := okO.setK (K1 := [(qo, vN .char 3 fo)]) (K2 := [(qt, vN .int 40 ft), (ql, vN .int 3 fl)]) (q := qh) (c0 := vN .int 40 fh) (c1 := vN .int 40 (upd fh hM (zI ct.1))) hO1
    have hm2 := hO2.lm
    have ht2 := hO2.lk (p := (qt, vN .int 40 ft)) (by simp [KL])
    have ht2' : (aPut A1 qh (vN .int 40 (upd fh hM (zI ct.1)))).1 qt = some (vN .int 40 ft) := ht2
    refine wv_s f0_504 rfl (fun _ => rfl) ?_
    refine wv_s f0_506 rfl (fun _ => rfl) ?_
    refine wv_s f0_508 rfl (fun _ => rfl) ?_
    refine wv_icon f0_510 ?_
    refine wv_iaload (j := 0) f0_511 (hm2) (by first | rfl | omega) (by omega) (by omega) ?_
    rw [hfm]
    refine wv_iastore (j := hM) f0_512 (ht2') (by first | rfl | omega) (by omega) (by omega) ?_
    have hO3 : okO (aPut (aPut A1 qh (vN .int 40 (upd fh hM (zI ct.1)))) qt (vN .int 40 (upd ft hM (zI w.2.2.length)))) F' (lwL qm qa fm rows (KL qo qh qt ql fo (upd fh hM (zI ct.1)) (upd ft hM (zI w.2.2.length)) fl)) o f w (s.1, c', s.2.2 ++ [(q, ct.1, w.2.2.length)]) (ca, cc, []) b fi y me (ct.1 + 1, ct.2) := okO.setK (K1 := [(qo, vN .char 3 fo), (qh, vN .int 40 (upd fh hM (zI ct.1)))]) (K2 := [(ql, vN .int 3 fl)]) (q := qt) (c0 := vN .int 40 ft) (c1 := vN .int 40 (upd ft hM (zI w.2.2.length))) hO2
    refine wv_inc9 f0_513 ?_
    refine wv_inc10 f0_516 ?_
    refine wv_s (pc' := 1221) f0_519 rfl (fun _ => rfl) ?_
    have hm0 : (s.2.2 ++ [(q, ct.1, w.2.2.length)]).map SnD.m = s.2.2.map SnD.m ++ [w.2.2.length] := List.map_append
    have hHn : HeldI (s.2.2 ++ [(q, ct.1, w.2.2.length)]) (ct.1 + 1) w.2.2.length (hl ++ [(ct.1, w.2.2.length)]) (upd fh hM (zI ct.1)) (upd ft hM (zI w.2.2.length)) := by
      obtain ⟨a1, a2, a3, a4, a5⟩ := hH
      refine ⟨by rw [List.length_append]; show hl.length + 1 ≤ 6; omega, fun j p hp => ?_, ?_, ?_, fun x hx => ?_⟩
      · by_cases hj : j < hl.length
        · rw [List.getElem?_append_left hj] at hp
          rw [upd_ne (by omega), upd_ne (by omega)]
          exact a2 j p hp
        · have hj2 := (List.getElem?_eq_some_iff.mp hp).1
          rw [List.length_append] at hj2
          have hj3 : j < hl.length + 1 := hj2
          obtain rfl : j = hM := by omega
          rw [List.getElem?_append_right (by omega), show j - hl.length = 0 by omega] at hp
          cases hp
          exact ⟨upd_self, upd_self⟩
      · rw [List.map_append]
        exact a3.append (List.Perm.refl _)
      · rw [List.map_append]
        refine List.nodup_append.mpr ⟨a4, List.pairwise_singleton _ _, fun a ha b hb => ?_⟩
        obtain ⟨x, hx, rfl⟩ := List.mem_map.mp ha
        have h9 := (a5 x hx).1
        rw [List.mem_singleton.mp hb]
        show x.i ≠ ct.1
        omega
      · rcases List.mem_append.mp hx with hx | hx
        · have := a5 x hx
          exact ⟨by omega, this.2⟩
        · rw [List.mem_singleton.mp hx]
          exact ⟨Nat.lt_succ_self _, Nat.le_refl _⟩
    rw [show (hM : Int) + 1 = ((hM + 1 : Nat) : Int) by omega, show (mk : Int) + 1 = ((mk + 1 : Nat) : Int) by omega]
    exact hQ _ (hM + 1) (mk + 1) _ _ _ _ (by omega) ⟨F', f, w, (s.1, c', s.2.2 ++ [(q, ct.1, w.2.2.length)]), ca, cc, b, fi, y, me, (ct.1 + 1, ct.2), fm, rows, _, _, fl, hl ++ [(ct.1, w.2.2.length)], hO3, hfm, hR, by show GI ((s.2.2 ++ [(q, ct.1, w.2.2.length)]).map SnD.m) _ _ _ _ _; rw [hm0]; exact hG.snap, hM9, hHn, by rw [List.length_append, hhl]; rfl, by show ct.1 + 1 = mk + 1; omega, hB, hbM, ⟨by omega, n2, fun m hm => ⟨(n3 m hm).1, by have := (n3 m hm).2; omega⟩, by show ct.1 + 1 ≤ k + 1; omega, n5, by show ct.2.2.1 ≤ _; omega, by show ct.2.2.2.2.1 ≤ _; omega, n8, n9, n10⟩, hnF, hop, by show A1.2.1 + 0 + 0 ≤ _; omega, by show A1.2.2 + 0 + 0 ≤ _; omega⟩
/-- 19: releasing -/
theorem tn_rl (hs : sc.1 ≤ 260) (hi : i + 6 ≤ 2000) (hk : k < 120) (h0 : 0 < hM) (h6 : hM ≤ 6) (hL : LI A o qa qm qo qh qt ql nF fo (k) (kn) (kS) (C) (S) (hM) (mk) (bM))
    (hQ : ∀ A' hM mk x17 x18 x19 x20, hM ≤ 6 → LI A' o qa qm qo qh qt ql nF fo (k + 1) (kn) (kS) (C + 1000) (S + 15000) (hM) (mk) (bM) → Wv sc 16 0 1221 [some (.retAddr 0), some (.ref o), some (.int (zI nF)), some (.ref qo), some (.int (zI 1)), some (.ref qa), some (.ref qm), some (.ref qh), some (.ref qt), some (.int (zI hM)), some (.int (zI mk)), some (.int (zI bM)), some (.ref ql), some (.int (zI k)), some (.int (zI i)), some (.int (zI j)), some (.int (zI what)), x17, x18, x19, x20] [] A' Q) :
    Wv sc 16 0 534 [some (.retAddr 0), some (.ref o), some (.int (zI nF)), some (.ref qo), some (.int (zI 1)), some (.ref qa), some (.ref qm), some (.ref qh), some (.ref qt), some (.int (zI hM)), some (.int (zI mk)), some (.int (zI bM)), some (.ref ql), some (.int (zI k)), some (.int (zI i)), some (.int (zI j)), some (.int (zI what)), x17, x18, x19, x20] [] A Q := by
  obtain ⟨F, f, w, s, ca, cc, b, fi, y, me, ct, fm, rows, fh, ft, fl, hl, hO, hfm, hR, hG, hM9, hH, hhl, hmk, hB, hbM, hN, hnF, hop, hC, hS⟩ := hL
  obtain ⟨n1, n2, n3, n4, n5, n6, n7, n8, n9, n10⟩ := hN
  have hsl := hH.len
  have hh0 : A.1 qh = some (vN .int 40 fh) := hO.lk (p := (qh, vN .int 40 fh)) (by simp [KL])
  refine wv_s f0_534 rfl (fun _ => rfl) ?_
  refine wv_s f0_535 rfl (fun _ => rfl) ?_
  refine wv_s f0_537 rfl (fun _ => rfl) ?_
  refine wv_resS f0_539 (by decide) (by simp) (by simp) (by decide +kernel) (c1 (m := hM) hs (by omega) (by omega)) (by omega) (fun v1 A1 e1 => ?_)
  obtain ⟨⟨at9, hat, rfl⟩, eA⟩ := e1
  rw [eA]
  refine wv_st17 f0_542 rfl (fun _ _ => rfl) ?_
  refine wv_inc9 f0_544 ?_
  rw [show (hM : Int) + -1 = ((hM - 1 : Nat) : Int) by omega]
  obtain ⟨p, hp⟩ : ∃ p, hl[at9]? = some p := ⟨_, List.getElem?_eq_getElem (by omega)⟩
  obtain ⟨z, hz⟩ : ∃ p, hl[hM - 1]? = some p := ⟨_, List.getElem?_eq_getElem (by omega)⟩
  have hfp := hH.2.1 at9 p hp
  have hfz := hH.2.1 (hM - 1) z hz
  obtain ⟨x, hx, hxp⟩ := List.mem_map.mp (hH.2.2.1.mem_iff.mp (List.mem_of_getElem? hp))
  have hxi : x.i = p.1 := congrArg Prod.fst hxp
  have hxm : x.m = p.2 := congrArg Prod.snd hxp
  have hxl := hH.2.2.2.2 x hx
  obtain ⟨k2, v, hk2, hv, hvx⟩ : ∃ (k2 : Nat) (v : SnD), plI (p.1 : Nat) 0 (s.2.2.map SnD.i) = (k2 : Nat) ∧ s.2.2[k2]? = some v ∧ v.i = p.1 := by
    rcases @plI_at (p.1 : Nat) (s.2.2.map SnD.i) 0 with ⟨-, h9⟩ | ⟨j9, a, h9, h10, h11⟩
    · exact absurd (congrArg Int.ofNat hxi) (h9 x.i (List.mem_map_of_mem hx))
    · rw [List.getElem?_map] at h10
      cases h12 : s.2.2[j9]? with
      | none => rw [h12] at h10; cases h10
      | some v =>
        rw [h12] at h10
        have h13 : v.i = a := Option.some.inj h10
        exact ⟨j9, v, by rw [h9, Nat.zero_add], h12, by omega⟩
  have hvm := List.mem_of_getElem? hv
  obtain rfl : x = v := nd_inj hH.2.2.2.1 hx hvm (by omega)
  obtain ⟨ev, evl⟩ := at_mid hv
  have her : s.2.2.eraseIdx k2 = s.2.2.take k2 ++ s.2.2.drop (k2 + 1) := List.eraseIdx_eq_take_drop_succ ..
  have hpe : s.2.2.Perm (x :: s.2.2.eraseIdx k2) := by
    rw [her]
    have h9 : s.2.2.Perm (s.2.2.take k2 ++ x :: s.2.2.drop (k2 + 1)) := List.Perm.of_eq ev
    exact h9.trans List.perm_middle
  have hnd : (x.i :: (s.2.2.eraseIdx k2).map SnD.i).Nodup := (hpe.map SnD.i).nodup_iff.mp hH.2.2.2.1
  rw [List.nodup_cons] at hnd
  have hlen := hpe.length_eq
  rw [List.length_cons] at hlen
  have d7 : Wc sc 6 2 [.ref o, .int (zI 7), .int (zI (p.1 : Nat)), .int (zI 0), .int (zI 0), .int (zI 0), .int (zI 0)] A (fun v A' => ∃ v9, v = .inl (some v9) ∧ (v9 = .int (zI (s.2.2.eraseIdx k2).length) ∧ okO A' F (lwL qm qa fm rows (KL qo qh qt ql fo fh ft fl)) o f w (s.1, s.2.1, s.2.2.eraseIdx k2) (ca, cc, []) b fi y me ct ∧ A'.2 = A.2)) :=
    c2_w (c13_7 hO.ob rfl (c87 hO (by omega) (by omega) hk2 hv) (fun v A' hv => .inl ⟨_, hv.1⟩) (d := 5) (by omega)) (fun v A' hv => .inl ⟨_, hv.1⟩) (by omega) (fun v A' hv => ⟨_, by rw [hv.1]; rfl, rfl, hv.2⟩)
  refine wv_s f0_547 rfl (fun _ => rfl) ?_
  refine wv_bip f0_548 (by decide) ?_
  refine wv_s f0_550 rfl (fun _ => rfl) ?_
  refine wv_s f0_552 rfl (fun _ => rfl) ?_
  refine wv_iaload (j := at9) f0_554 (hh0) (by first | rfl | omega) (by omega) (by omega) ?_
  rw [hfp.1]
  refine wv_icon f0_555 ?_
  refine wv_icon f0_556 ?_
  refine wv_icon f0_557 ?_
  refine wv_icon f0_558 ?_
  refine wv_resS f0_559 (by decide) (by simp) (by simp) (by decide +kernel) (d7) (by omega) (fun v9 A2 h2 => ?_)
  obtain ⟨rfl, hO2, hA2⟩ := h2
  have hh2 : A2.1 qh = some (vN .int 40 fh) := hO2.lk (p := (qh, vN .int 40 fh)) (by simp [KL])
  have hk3 : plI (p.1 : Nat) 0 ((s.2.2.eraseIdx k2).map SnD.i) = -1 := by
    rcases @plI_at (p.1 : Nat) ((s.2.2.eraseIdx k2).map SnD.i) 0 with ⟨h9, -⟩ | ⟨j9, a, h9, h10, h11⟩
    · exact h9
    · exact absurd (List.mem_of_getElem? h10) (by rw [show a = x.i by omega]; exact hnd.1)
  have d7t : Wc sc 6 2 [.ref o, .int (zI 7), .int (zI (p.1 : Nat)), .int (zI 0), .int (zI 0), .int (zI 0), .int (zI 0)] A2 (fun v A' => ∃ v9, v = .inl (some v9) ∧ (v9 = .int (zI (-2000001)) ∧ A' = aThr A2)) :=
    c2_w (c13_7 hO2.ob rfl (c87_t hO2 (by omega) (by omega) hk3) (fun v A' hv => .inr ⟨_, hv.1⟩) (d := 5) (by omega)) (fun v A' hv => .inr ⟨_, hv.1⟩) (by omega) (fun v A' hv => ⟨_, by rw [hv.1]; rfl, rfl, hv.2⟩)
  refine wv_s f0_562 rfl (fun _ => rfl) ?_
  refine wv_cF_ne f0_564 (by omega) (by omega) (by omega) ?_
  refine wv_s f0_567 rfl (fun _ => rfl) ?_
  refine wv_bip f0_568 (by decide) ?_
  refine wv_s f0_570 rfl (fun _ => rfl) ?_
  refine wv_s f0_572 rfl (fun _ => rfl) ?_
  refine wv_iaload (j := at9) f0_574 (hh2) (by first | rfl | omega) (by omega) (by omega) ?_
  rw [hfp.1]
  refine wv_icon f0_575 ?_
  refine wv_icon f0_576 ?_
  refine wv_icon f0_577 ?_
  refine wv_icon f0_578 ?_
  refine wv_resS f0_579 (by decide) (by simp) (by simp) (by decide +kernel) (d7t) (by omega) (fun v9 A3 h3 => ?_)
  obtain ⟨rfl, rfl⟩ := h3
  have hO3 := hO2.thr
  have hh3 : (aThr A2).1 qh = some (vN .int 40 fh) := hh2
  refine wv_ldcI (k := -2000001) f0_582 (by decide) ?_
  refine wv_cF_ne f0_584 (by omega) (by omega) (by omega) ?_
  refine wv_icon f0_587 ?_
  refine wv_s (pc' := 592) f0_588 rfl (fun _ => rfl) ?_
  refine wv_st4 f0_592 rfl (fun _ _ => rfl) ?_
  refine wv_s f0_594 rfl (fun _ => rfl) ?_
  refine wv_s f0_596 rfl (fun _ => rfl) ?_
  refine wv_s f0_598 rfl (fun _ => rfl) ?_
  refine wv_s f0_600 rfl (fun _ => rfl) ?_
  refine wv_iaload (j := hM - 1) f0_602 (hh3) (by first | rfl | omega) (by omega) (by omega) ?_
  refine wv_iastore (j := at9) f0_603 (hh3) (by first | rfl | omega) (by omega) (by omega) ?_
  have hO4 : okO (aPut (aThr A2) qh (vN .int 40 (upd fh at9 (fh (hM - 1))))) F (lwL qm qa fm rows (KL qo qh qt ql fo (upd fh at9 (fh (hM - 1))) ft fl)) o f w (s.1, s.2.1, s.2.2.eraseIdx k2) (ca, cc, []) b fi y me ct := okO.setK (K1 := [(qo, vN .char 3 fo)]) (K2 := [(qt, vN .int 40 ft), (ql, vN .int 3 fl)]) (q := qh) (c0 := vN .int 40 fh) (c1 := vN .int 40 (upd fh at9 (fh (hM - 1)))) hO3
  have ht4 : (aPut (aThr A2) qh (vN .int 40 (upd fh at9 (fh (hM - 1))))).1 qt = some (vN .int 40 ft) := hO4.lk (p := (qt, vN .int 40 ft)) (by simp [KL])
  refine wv_s f0_604 rfl (fun _ => rfl) ?_
  refine wv_s f0_606 rfl (fun _ => rfl) ?_
  refine wv_s f0_608 rfl (fun _ => rfl) ?_
  refine wv_s f0_610 rfl (fun _ => rfl) ?_
  refine wv_iaload (j := hM - 1) f0_612 (ht4) (by first | rfl | omega) (by omega) (by omega) ?_
  refine wv_iastore (j := at9) f0_613 (ht4) (by first | rfl | omega) (by omega) (by omega) ?_
  have hO5 : okO (aPut (aPut (aThr A2) qh (vN .int 40 (upd fh at9 (fh (hM - 1))))) qt (vN .int 40 (upd ft at9 (ft (hM - 1))))) F (lwL qm qa fm rows (KL qo qh qt ql fo (upd fh at9 (fh (hM - 1))) (upd ft at9 (ft (hM - 1))) fl)) o f w (s.1, s.2.1, s.2.2.eraseIdx k2) (ca, cc, []) b fi y me ct := okO.setK (K1 := [(qo, vN .char 3 fo), (qh, vN .int 40 (upd fh at9 (fh (hM - 1))))]) (K2 := [(ql, vN .int 3 fl)]) (q := qt) (c0 := vN .int 40 ft) (c1 := vN .int 40 (upd ft at9 (ft (hM - 1)))) hO4
  refine wv_s (pc' := 1221) f0_614 rfl (fun _ => rfl) ?_
  obtain ⟨hl', b1, b2, b3⟩ := swp hp
  have hHn : HeldI (s.2.2.eraseIdx k2) ct.1 w.2.2.length hl' (upd fh at9 (fh (hM - 1))) (upd ft at9 (ft (hM - 1))) := by
    obtain ⟨a1, a2, a3, a4, a5⟩ := hH
    refine ⟨by omega, fun j q hq => ?_, ?_, hnd.2, fun u hu => a5 u (hpe.mem_iff.mpr (List.mem_cons_of_mem _ hu))⟩
    · rcases b3 j q hq with ⟨rfl, h9⟩ | ⟨h8, h9⟩
      · rw [upd_self, upd_self]
        rw [hhl] at h9
        exact a2 _ q h9
      · rw [upd_ne h8, upd_ne h8]
        exact a2 j q h9
    · have h9 := b1.symm.trans (a3.trans (hpe.map (fun x => (x.i, x.m))))
      rw [List.map_cons, hxp] at h9
      exact (List.perm_cons _).mp h9
  have hsub : ∀ m, m ∈ (s.2.2.eraseIdx k2).map SnD.m → m ∈ s.2.2.map SnD.m := fun m hm => by
    obtain ⟨u, hu, rfl⟩ := List.mem_map.mp hm
    exact List.mem_map_of_mem (hpe.mem_iff.mpr (List.mem_cons_of_mem _ hu))
  have hA2' : A2.2.1 = A.2.1 ∧ A2.2.2 = A.2.2 := by rw [hA2]; exact ⟨rfl, rfl⟩
  exact hQ _ (hM - 1) mk _ _ _ _ (by omega) ⟨F, f, w, (s.1, s.2.1, s.2.2.eraseIdx k2), ca, cc, b, fi, y, me, ct, fm, rows, _, _, fl, hl', hO5, hfm, hR, hG.less hsub, hM9, hHn, by omega, hmk, hB, hbM, ⟨by omega, n2, fun m hm => ⟨(n3 m hm).1, by have := (n3 m hm).2; omega⟩, by omega, n5, by omega, by omega, n8, n9, n10⟩, hnF, hop, by show A2.2.1 + 1 + 0 + 0 ≤ _; omega, by show A2.2.2 + 6 + 0 + 0 ≤ _; omega⟩
end TS
