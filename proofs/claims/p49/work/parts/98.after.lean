/-! WHAT THE LAW CHECKS AFTER EACH TURN -/
def CtX (ct0 ct : CtD) (K cu : Nat) : Prop := ct.1 = ct0.1 ∧ ct.2.1 ≤ ct0.2.1 + cu ∧ ct.2.2.1 = ct0.2.2.1 ∧ ct.2.2.2.2.1 = ct0.2.2.2.2.1 ∧ cS ct ≤ cS ct0 + K ∧ ct.2.2.2.2.2.2.2.1 ≤ ct.2.2.2.2.2.1 ∧ ct.2.2.2.2.2.2.2.1 ≤ ct.2.2.2.2.2.2.1
theorem CtX.cnt {ct0 ct ct' : CtD} {K cu K2 : Nat} (h : CtX ct0 ct K cu) (hc : Cnt ct ct' K2) : CtX ct0 ct' (K + K2) cu := by
  obtain ⟨h1, h2, h3, h4, h5, h6, h7⟩ := h
  obtain ⟨nb, na, np, rfl, a1, a2, a3⟩ := hc
  refine ⟨h1, h2, h3, h4, ?_, ?_, ?_⟩
  · unfold cS at h5 ⊢
    show ct.2.2.2.2.2.1 + nb + (ct.2.2.2.2.2.2.1 + na) + (ct.2.2.2.2.2.2.2.1 + np) ≤ _
    omega
  · show ct.2.2.2.2.2.2.2.1 + np ≤ ct.2.2.2.2.2.1 + nb
    omega
  · show ct.2.2.2.2.2.2.2.1 + np ≤ ct.2.2.2.2.2.2.1 + na
    omega
section TA
variable {sc : gSc} {d : Nat} {A A0 : gA} {Q : gO → gA → Prop} {o qa qm qo qh qt ql nF hM mk bM i j k what C S kS kn key m : Nat} {fo fm fh ft fl : Nat → Int32} {x17 x18 x19 x20 x4 : Option Value} {F : Nat → Option vC} {L : List (Nat × vC)} {f : Ls FamD} {w : Ls WrD} {s : Ls SnD} {c : Ls CuD} {b : Ls BkD} {fi : Nat × FiD} {y : Ls ChD} {me : Option MeD} {ct ct0 : CtD} {rows : List LrD} {K : List (Nat × vC)} {ws : List WrD} {g : FamD} {z V : Int} {hl : List (Nat × Nat)}
/-- between the questions -/
def PhA (F : Nat → Option vC) (L : List (Nat × vC)) (o : Nat) (f : Ls FamD) (w : Ls WrD) (s : Ls SnD) (b : Ls BkD) (me : Option MeD) (ct0 : CtD) (K cu P R : Nat) (A : gA) : Prop :=
  ∃ ca cc fi y ct, okO A F L o f w s (ca, cc, []) b fi y me ct ∧ CtX ct0 ct K cu ∧ y.2.1 ≤ 260 ∧ 5 * A.2.1 + 260 ≤ P + y.2.1 ∧ A.2.2 + 1040 ≤ R + 4 * y.2.1
theorem vl_z (hN : NumW w.2.2) (hW : ∀ x, x ∈ w.2.2 → WOk x) (hlw : w.2.2.length ≤ 120) (hgg : g.g = j) (hm : m ≤ w.2.2.length) : ∃ V : Int, -3000000 ≤ V ∧ V ≤ 80000 ∧ vlI (vlE g.o j (z : Int) (w.2.2.take m)) = zI V := by
  rcases vl_cs (x := z) hN hW hlw hgg hm with ⟨-, e⟩ | ⟨-, V, h1, h2, e, -⟩
  · exact ⟨-2000005, by omega, by omega, e⟩
  · exact ⟨V, by omega, by omega, e⟩
theorem ph_get {K cu P R : Nat} (hG : GI (s.2.2.map SnD.m) ct0.2.2.1 f.2.2 w.2.2 b.2.2 me) (hg : f.2.2[j]? = some g) (hk : key < 100) (hl : w.2.2.length ≤ 120) (hV : vlI (vlE g.o g.g key (w.2.2.take m)) = zI V) (hm : m ∈ s.2.2.map SnD.m ∨ m = w.2.2.length) (hm2 : m ≤ w.2.2.length) (hs : cS ct0 + K ≤ 900000000)
    (hmo : ∀ (A' : gA) ca cc fi y ct, okO A' F L o f w s (ca, cc, []) b fi y me ct → Wc sc 4 76 [.ref o, .int (zI z)] A' (fun r A'' => r = .inl (some (.int (zI m))) ∧ A'' = A')) (hP : PhA F L o f w s b me ct0 K cu P R A) :
    Wc sc 12 8 [.ref o, .int (zI 0), .int (zI j), .int (zI key), .int (zI z), .int (zI 0)] A (fun v A' => ∃ v9, v = .inl (some v9) ∧ (v9 = .int (zI V) ∧ PhA F L o f w s b me ct0 (K + 7680) cu (P + 5) (R + 6) A')) := by
  obtain ⟨ca, cc, fi, y, ct, hO, hX, hy, h1, h2⟩ := hP
  rw [← hX.2.2.1] at hG
  have h5 := hX.2.2.2.2.1
  refine (ask_get hO hG hg hk hl (hmo A ca cc fi y ct hO) hm hm2 (by omega)).up (Nat.le_refl _) (fun v A' hv => ?_)
  obtain ⟨rfl, fd, y', ct', a1, a2, a3, a4, a5, a6⟩ := hv
  exact ⟨_, rfl, by rw [hV], ca, cc, _, y', ct', a1, hX.cnt a2, by omega, by omega, by omega⟩
theorem ph_anew {K cu P R : Nat} (hN : NumW w.2.2) (hg : f.2.2[j]? = some g) (hk : key < 100) (hl : w.2.2.length ≤ 120) (hV : vlI (vlE g.o g.g key (w.2.2.take m)) = zI V) (hm2 : m ≤ w.2.2.length)
    (hmo : ∀ (A' : gA) ca cc fi y ct, okO A' F L o f w s (ca, cc, []) b fi y me ct → Wc sc 4 76 [.ref o, .int (zI z)] A' (fun r A'' => r = .inl (some (.int (zI m))) ∧ A'' = A')) (hP : PhA F L o f w s b me ct0 K cu P R A) :
    Wc sc 12 8 [.ref o, .int (zI 1), .int (zI j), .int (zI key), .int (zI z), .int (zI 0)] A (fun v A' => ∃ v9, v = .inl (some v9) ∧ (v9 = .int (zI V) ∧ PhA F L o f w s b me ct0 K cu (P + 5) (R + 6) A')) := by
  obtain ⟨ca, cc, fi, y, ct, hO, hX, hy, h1, h2⟩ := hP
  refine (ask_anew hO hN hg hk hl (hmo A ca cc fi y ct hO) hm2).up (Nat.le_refl _) (fun v A' hv => ?_)
  obtain ⟨rfl, fd, a1, a2, a3⟩ := hv
  exact ⟨_, rfl, by rw [hV], ca, cc, _, y, ct, a1, hX, hy, by omega, by omega⟩
/-- a held moment, as the object finds it -/
theorem held_mo {p : Nat × Nat} {h9 mk9 len9 : Nat} (hH : HeldI s.2.2 mk9 len9 hl fh ft) (hmk : mk9 ≤ 1000000) (hp : hl[h9]? = some p) : (p.2 ∈ s.2.2.map SnD.m ∧ p.2 ≤ len9) ∧ ∀ (A' : gA) ca cc fi y ct, okO A' F L o f w s (ca, cc, []) b fi y me ct → Wc sc 4 76 [.ref o, .int (zI (p.1 : Nat))] A' (fun r A'' => r = .inl (some (.int (zI (p.2 : Nat)))) ∧ A'' = A') := by
  obtain ⟨x, hx, hxp⟩ := List.mem_map.mp (hH.2.2.1.mem_iff.mp (List.mem_of_getElem? hp))
  have hxi : x.i = p.1 := congrArg Prod.fst hxp
  have hxm : x.m = p.2 := congrArg Prod.snd hxp
  have hxl := hH.2.2.2.2 x hx
  obtain ⟨k2, v, hk2, hv, hvx⟩ : ∃ (k2 : Nat) (v : SnD), plI (p.1 : Nat) 0 (s.2.2.map SnD.i) = (k2 : Nat) ∧ s.2.2[k2]? = some v ∧ v.i = p.1 := by
    rcases @plI_at (p.1 : Nat) (s.2.2.map SnD.i) 0 with ⟨-, h9⟩ | ⟨j9, a, h9, h10, h11⟩
    · exact absurd (congrArg Int.ofNat hxi) (h9 x.i (List.mem_map_of_mem hx))
    · rw [List.getElem?_map] at h10
      cases h12 : s.2.2[j9]? with
      | none => rw [h12] at h10; cases h10
      | some v =>
        rw [h12] at h10
        have h13 : v.i = a := Option.some.inj h10
        exact ⟨j9, v, by rw [h9, Nat.zero_add], h12, by omega⟩
  have hvm := List.mem_of_getElem? hv
  obtain rfl : x = v := nd_inj hH.2.2.2.1 hx hvm (by omega)
  refine ⟨⟨by rw [← hxm]; exact List.mem_map_of_mem hx, by omega⟩, fun A' ca cc fi y ct hO => ?_⟩
  have h9 := c76_s (sc := sc) hO (by omega) (by omega) hk2 hv
  rw [hxm] at h9
  exact h9
/-- the held moments -/
theorem ta_l {K9 cu P R : Nat} (hR : RowsOk rows w.2.2) (hG : GI (s.2.2.map SnD.m) ct0.2.2.1 f.2.2 w.2.2 b.2.2 me) (hwz : ∀ x, x ∈ w.2.2 → x.s ≤ 20 ∧ x.g ≤ 3) (hlw : w.2.2.length ≤ 120) (hg : f.2.2[j]? = some g) (hj : j < 3) (hfo : fo j = zI g.o) (hgo : g.o = 43 ∨ g.o = 62 ∨ g.o = 60) (hkey : key < 100) (hH : HeldI s.2.2 mk w.2.2.length hl fh ft) (hmk : mk ≤ 1000000) (hhl : hl.length = hM) (hs : cS ct0 + K9 + 7680 * hM ≤ 900000000)
    (hQ : ∀ A' x19 x20, PhA F (lwL qm qa fm rows (KL qo qh qt ql fo fh ft fl)) o f w s b me ct0 (K9 + 7680 * hM) cu (P + 10 * hM) (R + 12 * hM) A' → Wv sc 16 0 1419 [some (.retAddr 0), some (.ref o), some (.int (zI nF)), some (.ref qo), some (.int (zI 1)), some (.ref qa), some (.ref qm), some (.ref qh), some (.ref qt), some (.int (zI hM)), some (.int (zI mk)), some (.int (zI bM)), some (.ref ql), some (.int (zI k)), some (.int (zI i)), some (.int (zI j)), some (.int (zI what)), some (.int (zI key)), x18, x19, x20] [] A' Q) : ∀ (n h9 : Nat) (A : gA) (x20 : Option Value), h9 + n = hM → PhA F (lwL qm qa fm rows (KL qo qh qt ql fo fh ft fl)) o f w s b me ct0 (K9 + 7680 * h9) cu (P + 10 * h9) (R + 12 * h9) A →
    Wv sc 16 0 1337 [some (.retAddr 0), some (.ref o), some (.int (zI nF)), some (.ref qo), some (.int (zI 1)), some (.ref qa), some (.ref qm), some (.ref qh), some (.ref qt), some (.int (zI hM)), some (.int (zI mk)), some (.int (zI bM)), some (.ref ql), some (.int (zI k)), some (.int (zI i)), some (.int (zI j)), some (.int (zI what)), some (.int (zI key)), x18, some (.int (zI h9)), x20] [] A Q
  | 0, h9, A, x20, hin, hP => by
    obtain rfl : h9 = hM := by omega
    have h6 := hH.1
    refine wv_s f0_1337 rfl (fun _ => rfl) ?_
    refine wv_s f0_1339 rfl (fun _ => rfl) ?_
    refine wv_cT_ge f0_1341 (by omega) (by omega) (by omega) ?_
    exact hQ A _ _ hP
  | n + 1, h9, A, x20, hin, hP => by
    have h6 := hH.1
    obtain ⟨p, hp⟩ : ∃ p, hl[h9]? = some p := ⟨_, List.getElem?_eq_getElem (by omega)⟩
    have hfp := hH.2.1 h9 p hp
    obtain ⟨⟨p1, p2⟩, hmo⟩ := held_mo (sc := sc) (F := F) (L := lwL qm qa fm rows (KL qo qh qt ql fo fh ft fl)) (o := o) (f := f) (w := w) (b := b) (me := me) hH hmk hp
    have hgg := (hG.2.2.2.1 _ _ hg).1
    have hz9 : ∀ x, x ∈ w.2.2 → WOk x ∧ x.s ≤ 20 ∧ x.g ≤ 3 := fun x hx => ⟨hG.2.2.1 x hx, hwz x hx⟩
    obtain ⟨V, V1, V2, eV⟩ := vl_z (z := (key : Int)) (m := p.2) hG.1 hG.2.2.1 hlw hgg p2
    have hP0 := hP
    obtain ⟨ca, cc, fi, y, ct, hO, -⟩ := hP0
    have ht0 : A.1 qt = some (vN .int 40 ft) := hO.lk (p := (qt, vN .int 40 ft)) (by simp [KL])
    have hh0 : A.1 qh = some (vN .int 40 fh) := hO.lk (p := (qh, vN .int 40 fh)) (by simp [KL])
    have hq0 : A.1 qo = some (vN .char 3 fo) := hO.lk (p := (qo, vN .char 3 fo)) (by simp [KL])
    have hv := c9 (sc := sc) (A := A) (k := key) hR hO.lr hz9 hlw hj hq0 hfo hgo hkey p2
    rw [eV] at hv
    rw [← hgg] at eV
    refine wv_s f0_1337 rfl (fun _ => rfl) ?_
    refine wv_s f0_1339 rfl (fun _ => rfl) ?_
    refine wv_cF_ge f0_1341 (by omega) (by omega) (by omega) ?_
    refine wv_s f0_1344 rfl (fun _ => rfl) ?_
    refine wv_zF_eq f0_1346 (by omega) (by omega) ?_
    refine wv_s f0_1349 rfl (fun _ => rfl) ?_
    refine wv_s f0_1351 rfl (fun _ => rfl) ?_
    refine wv_s f0_1352 rfl (fun _ => rfl) ?_
    refine wv_s f0_1354 rfl (fun _ => rfl) ?_
    refine wv_s f0_1356 rfl (fun _ => rfl) ?_
    refine wv_s f0_1358 rfl (fun _ => rfl) ?_
    refine wv_iaload (j := h9) f0_1360 (ht0) (by first | rfl | omega) (by omega) (by omega) ?_
    rw [hfp.2]
    refine wv_valS f0_1361 (by decide) (by simp) (by simp) (by decide +kernel) (hv) (by omega) ?_
    refine wv_st20 f0_1364 rfl (fun _ _ => rfl) ?_
    refine wv_s f0_1366 rfl (fun _ => rfl) ?_
    refine wv_icon f0_1367 ?_
    refine wv_s f0_1368 rfl (fun _ => rfl) ?_
    refine wv_s f0_1370 rfl (fun _ => rfl) ?_
    refine wv_s f0_1372 rfl (fun _ => rfl) ?_
    refine wv_s f0_1374 rfl (fun _ => rfl) ?_
    refine wv_iaload (j := h9) f0_1376 (hh0) (by first | rfl | omega) (by omega) (by omega) ?_
    rw [hfp.1]
    refine wv_icon f0_1377 ?_
    refine wv_resS f0_1378 (by decide) (by simp) (by simp) (by decide +kernel) (ph_get hG hg hkey hlw eV (.inl p1) p2 (by omega) hmo hP) (by omega) (fun v9 A1 h1 => ?_)
    obtain ⟨rfl, hP1⟩ := h1
    have hP10 := hP1
    obtain ⟨ca1, cc1, fi1, y1, ct1, hO1, -⟩ := hP10
    have hh1 : A1.1 qh = some (vN .int 40 fh) := hO1.lk (p := (qh, vN .int 40 fh)) (by simp [KL])
    refine wv_s f0_1381 rfl (fun _ => rfl) ?_
    refine wv_cF_ne f0_1383 (by omega) (by omega) (by omega) ?_
    refine wv_s f0_1386 rfl (fun _ => rfl) ?_
    refine wv_icon f0_1387 ?_
    refine wv_s f0_1388 rfl (fun _ => rfl) ?_
    refine wv_s f0_1390 rfl (fun _ => rfl) ?_
    refine wv_s f0_1392 rfl (fun _ => rfl) ?_
    refine wv_s f0_1394 rfl (fun _ => rfl) ?_
    refine wv_iaload (j := h9) f0_1396 (hh1) (by first | rfl | omega) (by omega) (by omega) ?_
    rw [hfp.1]
    refine wv_icon f0_1397 ?_
    refine wv_resS f0_1398 (by decide) (by simp) (by simp) (by decide +kernel) (ph_anew hG.1 hg hkey hlw eV p2 hmo hP1) (by omega) (fun v9 A2 h2 => ?_)
    obtain ⟨rfl, hP2⟩ := h2
    refine wv_s f0_1401 rfl (fun _ => rfl) ?_
    refine wv_cF_ne f0_1403 (by omega) (by omega) (by omega) ?_
    refine wv_icon f0_1406 ?_
    refine wv_s (pc' := 1411) f0_1407 rfl (fun _ => rfl) ?_
    refine wv_st4 f0_1411 rfl (fun _ _ => rfl) ?_
    refine wv_inc19 f0_1413 ?_
    refine wv_s (pc' := 1337) f0_1416 rfl (fun _ => rfl) ?_
    refine ta_l hR hG hwz hlw hg hj hfo hgo hkey hH hmk hhl hs hQ n (h9 + 1) A2 _ (by omega) ?_
    rw [show K9 + 7680 * (h9 + 1) = K9 + 7680 * h9 + 7680 by omega, show P + 10 * (h9 + 1) = P + 10 * h9 + 5 + 5 by omega, show R + 12 * (h9 + 1) = R + 12 * h9 + 6 + 6 by omega]
    exact hP2
/-- runs and cursors, each twentieth turn -/
theorem ta_w {K9 cu P R : Nat} (hR : RowsOk rows w.2.2) (hG : GI (s.2.2.map SnD.m) ct0.2.2.1 f.2.2 w.2.2 b.2.2 me) (hlw : w.2.2.length ≤ 120) (hg : f.2.2[j]? = some g) (hj : j < 3) (hfo : fo j = zI g.o) (hH : HeldI s.2.2 mk w.2.2.length hl fh ft) (hmk : mk ≤ 1000000) (hhl : hl.length = hM) (hfm : fm 0 = zI w.2.2.length) (hcu : ct0.2.1 + cu + 2 ≤ 1000000) (hk : k < 120)
    (hP : PhA F (lwL qm qa fm rows (KL qo qh qt ql fo fh ft fl)) o f w s b me ct0 K9 cu P R A)
    (hQ : ∀ A', PhA F (lwL qm qa fm rows (KL qo qh qt ql fo fh ft fl)) o f w s b me ct0 K9 (cu + 2) (P + 75) (R + 142) A' → Wv sc 16 0 1490 [some (.retAddr 0), some (.ref o), some (.int (zI nF)), some (.ref qo), some (.int (zI 1)), some (.ref qa), some (.ref qm), some (.ref qh), some (.ref qt), some (.int (zI hM)), some (.int (zI mk)), some (.int (zI bM)), some (.ref ql), some (.int (zI k)), some (.int (zI i)), some (.int (zI j)), some (.int (zI what)), x17, x18, x19, x20] [.int (zI 1)] A' Q) :
    Wv sc 16 0 1419 [some (.retAddr 0), some (.ref o), some (.int (zI nF)), some (.ref qo), some (.int (zI 1)), some (.ref qa), some (.ref qm), some (.ref qh), some (.ref qt), some (.int (zI hM)), some (.int (zI mk)), some (.int (zI bM)), some (.ref ql), some (.int (zI k)), some (.int (zI i)), some (.int (zI j)), some (.int (zI what)), x17, x18, x19, x20] [] A Q := by
  obtain ⟨ca, cc, fi, y, ct, hO, hX, hy, h1, h2⟩ := hP
  have hgg := (hG.2.2.2.1 _ _ hg).1
  obtain ⟨c1, c2, c3, c4, c5, c6, c7⟩ := hX
  have h6 := hH.1
  refine wv_s f0_1419 rfl (fun _ => rfl) ?_
  refine wv_zF_eq f0_1421 (by omega) (by omega) ?_
  refine wv_s f0_1424 rfl (fun _ => rfl) ?_
  refine wv_bip f0_1426 (by decide) ?_
  refine wv_irem (x := (k : Int)) (y := 20) f0_1428 (by omega) ?_
  refine wv_bip f0_1429 (by decide) ?_
  refine wv_cX_ne f0_1431 (by omega) (by omega) (fun hb => ?_) (fun hb => ?_)
  · refine wv_icon f0_1485 ?_
    refine wv_s (pc' := 1490) f0_1486 rfl (fun _ => rfl) ?_
    exact hQ A ⟨ca, cc, fi, y, ct, hO, ⟨c1, by omega, c3, c4, c5, c6, c7⟩, hy, by omega, by omega⟩
  · have hG1 : GI (s.2.2.map SnD.m) ct.2.2.1 f.2.2 w.2.2 b.2.2 me := by rw [c3]; exact hG
    refine wv_s f0_1434 rfl (fun _ => rfl) ?_
    refine wv_s f0_1435 rfl (fun _ => rfl) ?_
    refine wv_resS f0_1437 (by decide) (by simp) (by simp) (by decide +kernel) (Wc.res (c10 hO hG1 hlw (by omega) hg)) (by omega) (fun v9 A1 e1 => ?_)
    obtain ⟨rfl, hO1, hC1, hS1⟩ := e1
    have hm1 := hO1.lm
    have hqo : (qo, vN .char 3 fo) ∈ KL qo qh qt ql fo fh ft fl := by simp [KL]
    refine wv_bF f0_1440 (rfl) ?_
    refine wv_s f0_1443 rfl (fun _ => rfl) ?_
    refine wv_s f0_1444 rfl (fun _ => rfl) ?_
    refine wv_s f0_1446 rfl (fun _ => rfl) ?_
    refine wv_s f0_1447 rfl (fun _ => rfl) ?_
    refine wv_icon f0_1449 ?_
    refine wv_s f0_1450 rfl (fun _ => rfl) ?_
    refine wv_icon f0_1452 ?_
    refine wv_iaload (j := 0) f0_1453 (hm1) (by first | rfl | omega) (by omega) (by omega) ?_
    rw [hfm]
    refine wv_resS f0_1454 (by decide) (by simp) (by simp) (by decide +kernel) (c11 (z := -1) (m := w.2.2.length) hO1 hR hG.1 hG.2.2.1 hlw hg hgg hj hqo hfo (Nat.le_refl _) (by omega) (c76_n hO1)) (by omega) (fun v9 A2 e2 => ?_)
    obtain ⟨rfl, cc2, fd2, ct2, ec2, hO2, hC2, hS2⟩ := e2
    subst ec2
    refine wv_bF f0_1457 (rfl) ?_
    refine wv_s f0_1460 rfl (fun _ => rfl) ?_
    refine wv_zX_eq f0_1462 (by omega) (fun hb => ?_) (fun hb => ?_)
    · refine wv_icon f0_1485 ?_
      refine wv_s (pc' := 1490) f0_1486 rfl (fun _ => rfl) ?_
      exact hQ A2 ⟨ca, cc2, _, y, _, hO2, ⟨c1, by show ct.2.1 + 1 ≤ _; omega, c3, c4, c5, c6, c7⟩, hy, by omega, by omega⟩
    · obtain ⟨p, hp⟩ : ∃ p, hl[0]? = some p := ⟨_, List.getElem?_eq_getElem (by omega)⟩
      have hfp := hH.2.1 0 p hp
      obtain ⟨⟨p1, p2⟩, hmo⟩ := held_mo (sc := sc) (F := F) (L := lwL qm qa fm rows (KL qo qh qt ql fo fh ft fl)) (o := o) (f := f) (w := w) (b := b) (me := me) hH hmk hp
      have hh2 : A2.1 qh = some (vN .int 40 fh) := hO2.lk (p := (qh, vN .int 40 fh)) (by simp [KL])
      have ht2 : A2.1 qt = some (vN .int 40 ft) := hO2.lk (p := (qt, vN .int 40 ft)) (by simp [KL])
      refine wv_s f0_1465 rfl (fun _ => rfl) ?_
      refine wv_s f0_1466 rfl (fun _ => rfl) ?_
      refine wv_s f0_1468 rfl (fun _ => rfl) ?_
      refine wv_s f0_1469 rfl (fun _ => rfl) ?_
      refine wv_s f0_1471 rfl (fun _ => rfl) ?_
      refine wv_icon f0_1473 ?_
      refine wv_iaload (j := 0) f0_1474 (hh2) (by first | rfl | omega) (by omega) (by omega) ?_
      rw [hfp.1]
      refine wv_s f0_1475 rfl (fun _ => rfl) ?_
      refine wv_icon f0_1477 ?_
      refine wv_iaload (j := 0) f0_1478 (ht2) (by first | rfl | omega) (by omega) (by omega) ?_
      rw [hfp.2]
      refine wv_resS f0_1479 (by decide) (by simp) (by simp) (by decide +kernel) (c11 (z := (p.1 : Nat)) (m := p.2) hO2 hR hG.1 hG.2.2.1 hlw hg hgg hj hqo hfo p2 (by show ct.2.1 + 1 + 1 ≤ _; omega) (hmo A2 ca cc2 _ y _ hO2)) (by omega) (fun v9 A3 e3 => ?_)
      obtain ⟨rfl, cc3, fd3, ct3, ec3, hO3, hC3, hS3⟩ := e3
      subst ec3
      refine wv_bF f0_1482 (rfl) ?_
      refine wv_icon f0_1485 ?_
      refine wv_s (pc' := 1490) f0_1486 rfl (fun _ => rfl) ?_
      exact hQ A3 ⟨ca, cc3, _, y, _, hO3, ⟨c1, by show ct.2.1 + 1 + 1 ≤ _; omega, c3, c4, c5, c6, c7⟩, hy, by omega, by omega⟩
/-- all that is checked after a turn -/
theorem ta (hs : sc.1 ≤ 260) (hi : i + 6 ≤ 2000) (hk : k < 120) (hj : j < nF) (hn3 : nF ≤ 3) (hL : LI A o qa qm qo qh qt ql nF fo (k + 1) (2 * k) (60000 * k) (C) (S) (hM) (mk) (bM))
    (hQ : ∀ A' x17 x18 x19 x20, LI A' o qa qm qo qh qt ql nF fo (k + 1) (2 * (k + 1)) (60000 * (k + 1)) (C + 100) (S + 1300) (hM) (mk) (bM) → Wv sc 16 0 129 [some (.retAddr 0), some (.ref o), some (.int (zI nF)), some (.ref qo), some (.int (zI 1)), some (.ref qa), some (.ref qm), some (.ref qh), some (.ref qt), some (.int (zI hM)), some (.int (zI mk)), some (.int (zI bM)), some (.ref ql), some (.int (zI ((k + 1 : Nat) : Int))), some (.int (zI i)), some (.int (zI j)), some (.int (zI what)), x17, x18, x19, x20] [] A' Q) :
    Wv sc 16 0 1221 [some (.retAddr 0), some (.ref o), some (.int (zI nF)), some (.ref qo), some (.int (zI 1)), some (.ref qa), some (.ref qm), some (.ref qh), some (.ref qt), some (.int (zI hM)), some (.int (zI mk)), some (.int (zI bM)), some (.ref ql), some (.int (zI k)), some (.int (zI i)), some (.int (zI j)), some (.int (zI what)), x17, x18, x19, x20] [] A Q := by
  obtain ⟨F, f, w, s, ca, cc, b, fi, y, me, ct, fm, rows, fh, ft, fl, hl, hO, hfm, hR, hG, hM9, hH, hhl, hmk, hB, hbM, hN, hnF, hop, hC, hS⟩ := hL
  obtain ⟨n1, n2, n3, n4, n5, n6, n7, n8, n9, n10⟩ := hN
  obtain ⟨g, hgi⟩ : ∃ g, f.2.2[j]? = some g := ⟨_, List.getElem?_eq_getElem (by omega)⟩
  have hgm := List.mem_of_getElem? hgi
  have hgg := (hG.2.2.2.1 _ _ hgi).1
  have hgo := (hO.fm hgm).2.2.2.2
  have hfo := hop j g hgi
  have hj3 : j < 3 := by omega
  have h6 := hH.1
  have hwz : ∀ x, x ∈ w.2.2 → x.s ≤ 20 ∧ x.g ≤ 3 := fun x hx => ⟨(hO.2.2.1 x hx).2.2.1, (hO.2.2.1 x hx).2.1⟩
  have hz9 : ∀ x, x ∈ w.2.2 → WOk x ∧ x.s ≤ 20 ∧ x.g ≤ 3 := fun x hx => ⟨hG.2.2.1 x hx, hwz x hx⟩
  have hm := hO.lm
  have hq0 : A.1 qo = some (vN .char 3 fo) := hO.lk (p := (qo, vN .char 3 fo)) (by simp [KL])
  refine wv_s f0_1221 rfl (fun _ => rfl) ?_
  refine wv_s f0_1222 rfl (fun _ => rfl) ?_
  refine wv_icon f0_1224 ?_
  refine wv_iadd f0_1225 ?_
  rw [show (i : Int) + 2 = ((i + 2 : Nat) : Int) by omega]
  refine wv_bip f0_1226 (by decide) ?_
  refine wv_resS f0_1228 (by decide) (by simp) (by simp) (by decide +kernel) (c1 (m := 22) hs (by omega) (by omega)) (by omega) (fun v1 A1 e1 => ?_)
  obtain ⟨⟨key, hkey, rfl⟩, eA⟩ := e1
  rw [eA]
  obtain ⟨V, V1, V2, eV⟩ := vl_z (z := (key : Int)) (m := w.2.2.length) hG.1 hG.2.2.1 (by omega) hgg (Nat.le_refl _)
  have hv := c9 (sc := sc) (A := A) (k := key) (m := w.2.2.length) hR hO.lr hz9 (by omega) hj3 hq0 hfo hgo (by omega) (Nat.le_refl _)
  rw [eV] at hv
  rw [← hgg] at eV
  have hP0 : PhA F (lwL qm qa fm rows (KL qo qh qt ql fo fh ft fl)) o f w s b me ct 0 0 (5 * A.2.1 + 260) (A.2.2 + 1040) A := ⟨ca, cc, fi, y, ct, hO, ⟨rfl, by omega, rfl, rfl, by omega, n9, n10⟩, n2, by omega, by omega⟩
  have hmo : ∀ (A' : gA) ca cc fi y ct, okO A' F (lwL qm qa fm rows (KL qo qh qt ql fo fh ft fl)) o f w s (ca, cc, []) b fi y me ct → Wc sc 4 76 [.ref o, .int (zI (-1))] A' (fun r A'' => r = .inl (some (.int (zI w.2.2.length))) ∧ A'' = A') := fun A' ca cc fi y ct hO => c76_n hO
  refine wv_st17 f0_1231 rfl (fun _ _ => rfl) ?_
  refine wv_s f0_1233 rfl (fun _ => rfl) ?_
  refine wv_s f0_1235 rfl (fun _ => rfl) ?_
  refine wv_s f0_1236 rfl (fun _ => rfl) ?_
  refine wv_s f0_1238 rfl (fun _ => rfl) ?_
  refine wv_s f0_1240 rfl (fun _ => rfl) ?_
  refine wv_icon f0_1242 ?_
  refine wv_iaload (j := 0) f0_1243 (hm) (by first | rfl | omega) (by omega) (by omega) ?_
  rw [hfm]
  refine wv_valS f0_1244 (by decide) (by simp) (by simp) (by decide +kernel) (hv) (by omega) ?_
  refine wv_st18 f0_1247 rfl (fun _ _ => rfl) ?_
  refine wv_s f0_1249 rfl (fun _ => rfl) ?_
  refine wv_zF_eq f0_1251 (by omega) (by omega) ?_
  refine wv_s f0_1254 rfl (fun _ => rfl) ?_
  refine wv_icon f0_1255 ?_
  refine wv_s f0_1256 rfl (fun _ => rfl) ?_
  refine wv_s f0_1258 rfl (fun _ => rfl) ?_
  refine wv_icon f0_1260 ?_
  refine wv_icon f0_1261 ?_
  refine wv_resS f0_1262 (by decide) (by simp) (by simp) (by decide +kernel) (ph_get hG hgi (by omega) (by omega) eV (.inr rfl) (Nat.le_refl _) (by omega) hmo hP0) (by omega) (fun v9 A1 h1 => ?_)
  obtain ⟨rfl, hP1⟩ := h1
  refine wv_s f0_1265 rfl (fun _ => rfl) ?_
  refine wv_cF_ne f0_1267 (by omega) (by omega) (by omega) ?_
  refine wv_s f0_1270 rfl (fun _ => rfl) ?_
  refine wv_icon f0_1271 ?_
  refine wv_s f0_1272 rfl (fun _ => rfl) ?_
  refine wv_s f0_1274 rfl (fun _ => rfl) ?_
  refine wv_icon f0_1276 ?_
  refine wv_icon f0_1277 ?_
  refine wv_resS f0_1278 (by decide) (by simp) (by simp) (by decide +kernel) (ph_anew hG.1 hgi (by omega) (by omega) eV (Nat.le_refl _) hmo hP1) (by omega) (fun v9 A2 h2 => ?_)
  obtain ⟨rfl, hP2⟩ := h2
  have hP20 := hP2
  obtain ⟨ca2, cc2, fi2, y2, ct2, hO2, -⟩ := hP20
  have hob2 := hO2.ob
  have hm2 := hO2.lm
  have a3 : Wc sc 6 8 [.ref o, .int (zI 3), .int (zI j), .int (zI 0), .int (zI 0), .int (zI 0)] A2 (fun v A' => v = .inl (some (.int (zI (cntM g.g w.2.2 : Nat)))) ∧ A' = A2) := aV_3 hob2 rfl (c58 hO2 hgi)
  rw [hgg] at a3
  have hc4 := c4 (sc := sc) (A := A2) (g := j) hR hO2.lr hO2.wz (by omega) (by omega)
  have hcm := @cntM_le j w.2.2
  have h60 := c6 (sc := sc) (A := A2) (p := false) hR hO2.lr (fun x hx => ⟨(hO.2.2.1 x hx).2.2.2, (hO.2.2.1 x hx).2.2.1⟩) (by omega)
  rw [show lgR false w.2.2 = logN false w.2.2 from rfl] at h60
  have hln := @logN_le w.2.2 false
  refine wv_s f0_1281 rfl (fun _ => rfl) ?_
  refine wv_cF_ne f0_1283 (by omega) (by omega) (by omega) ?_
  refine wv_s f0_1286 rfl (fun _ => rfl) ?_
  refine wv_icon f0_1287 ?_
  refine wv_s f0_1288 rfl (fun _ => rfl) ?_
  refine wv_icon f0_1290 ?_
  refine wv_icon f0_1291 ?_
  refine wv_icon f0_1292 ?_
  refine wv_valS f0_1293 (by decide) (by simp) (by simp) (by decide +kernel) (a3) (by omega) ?_
  refine wv_s f0_1296 rfl (fun _ => rfl) ?_
  refine wv_s f0_1298 rfl (fun _ => rfl) ?_
  refine wv_icon f0_1300 ?_
  refine wv_iaload (j := 0) f0_1301 (hm2) (by first | rfl | omega) (by omega) (by omega) ?_
  rw [hfm]
  refine wv_s f0_1302 rfl (fun _ => rfl) ?_
  refine wv_valS f0_1304 (by decide) (by simp) (by simp) (by decide +kernel) (hc4) (by omega) ?_
  refine wv_cF_ne f0_1307 (by omega) (by omega) (by omega) ?_
  refine wv_s f0_1310 rfl (fun _ => rfl) ?_
  refine wv_valV f0_1311 (by decide) (by simp) (by simp) (by decide +kernel) (hob2) (by rfl) (by decide +kernel) rfl (c70 hO2) (by omega) ?_
  refine wv_s f0_1314 rfl (fun _ => rfl) ?_
  refine wv_s f0_1316 rfl (fun _ => rfl) ?_
  refine wv_icon f0_1318 ?_
  refine wv_iaload (j := 0) f0_1319 (hm2) (by first | rfl | omega) (by omega) (by omega) ?_
  rw [hfm]
  refine wv_icon f0_1320 ?_
  refine wv_valS f0_1321 (by decide) (by simp) (by simp) (by decide +kernel) (h60) (by omega) ?_
  refine wv_cF_ne f0_1324 (by omega) (by omega) (by omega) ?_
  refine wv_icon f0_1327 ?_
  refine wv_s (pc' := 1332) f0_1328 rfl (fun _ => rfl) ?_
  refine wv_st4 f0_1332 rfl (fun _ _ => rfl) ?_
  refine wv_icon f0_1334 ?_
  refine wv_st19 f0_1335 rfl (fun _ _ => rfl) ?_
  have hmk' : HeldI s.2.2 mk w.2.2.length hl fh ft := by rw [← hmk]; exact hH
  refine ta_l (key := key) (cu := 0) (K9 := 7680) (P := 5 * A.2.1 + 260 + 5 + 5) (R := A.2.2 + 1040 + 6 + 6) hR hG hwz (by omega) hgi hj3 hfo hgo (by omega) hmk' (by omega) hhl (by omega) (fun A3 x19 x20 hP3 => ?_) hM 0 A2 _ (by omega) hP2
  refine ta_w hR hG (by omega) hgi hj3 hfo hmk' (by omega) hhl hfm (by omega) hk hP3 (fun A4 hP4 => ?_)
  obtain ⟨ca4, cc4, fi4, y4, ct4, hO4, ⟨c1, c2, c3, c4, c5, c6, c7⟩, hy4, hC4, hS4⟩ := hP4
  refine wv_st4 f0_1490 rfl (fun _ _ => rfl) ?_
  refine wv_inc13 f0_1492 ?_
  refine wv_s (pc' := 129) f0_1495 rfl (fun _ => rfl) ?_
  refine hQ A4 _ _ _ _ ⟨F, f, w, s, ca4, cc4, b, fi4, y4, me, ct4, fm, rows, fh, ft, fl, hl, hO4, hfm, hR, by rw [c3]; exact hG, hM9, by rw [c1]; exact hH, hhl, by omega, hB, hbM, ⟨n1, hy4, n3, by omega, by omega, by omega, by omega, by omega, c6, c7⟩, hnF, hop, by omega, by omega⟩
end TA
