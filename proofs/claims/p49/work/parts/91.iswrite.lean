/-! isWrite -/
theorem cntM_br {j : Nat} {l : List WrD} {w : WrD} (h : w.z = 3) : cntM j (l ++ [w]) = cntM j l := by
  rw [cntM_snoc, if_neg (fun q => by
    have h9 := (of_decide_eq_true (show decide _ = true from q)).2
    omega)]
  rfl
section IX
variable {sc : gSc} {d : Nat} {A A0 : gA} {F : Nat → Option vC} {L : List (Nat × vC)} {o : Nat} {f : Ls FamD} {w : Ls WrD} {s : Ls SnD} {c : Ls CuD} {b : Ls BkD} {fi : Nat × FiD} {y : Ls ChD} {me : Option MeD} {ct : CtD} {g : FamD} {i j m n k qm qa : Nat} {x z : Int} {fm : Nat → Int32} {rows : List LrD} {K : List (Nat × vC)} {ws : List WrD} {f1 f2 : List FamD} {l0 : LvD} {lt : List LvD} {first step cnt : Nat} {v : Int32}
theorem c3_b {Q : gO → gA → Prop} {key jj last n9 xa ca ver jl : Nat} {T : Bool} {x1 x2 x6 x9 x11 x16 : Option Value} (hO : okO A F (lwL qm qa fm rows K) o f w s c b fi y me ct) (hfm : fm 0 = zI n9) (hR : RowsOk rows ws) (hn9 : ws.length = n9) (hl : n9 < 120) (hw : w.2.2 = ws ++ [newWr xa ca jj 1 (n9 + 1) key last v step 3]) (hver : ct.2.2.2.2.1 = ver + (if T = true then 2 else 1)) (hver2 : ver ≤ 900000) (hjl : jl ≤ 3) (hj : jj ≤ 3) (hst : step ≤ 3) (hcn : cnt ≤ 3) (hc1 : 1 ≤ cnt) (hky : key < 30) (hla : last = key + step * (cnt - 1))
    (hQ : ∀ A' fm' rows', fm' 0 = zI w.2.2.length → RowsOk rows' w.2.2 → okO A' F (lwL qm qa fm' rows' K) o f w s c b fi y me ct → Kpt rows rows' → A'.2 = (A.2.1 + 1, A.2.2 + 20) → Q (.inl (some (.int (bI true)))) A') :
    Wv sc 14 3 471 [some (.ref o), x1, x2, some (.ref qa), some (.ref qm), some (.int (zI jj)), x6, some (.int (zI key)), some (.int v), x9, some (.int (zI jl)), x11, some (.int (zI step)), some (.int (zI cnt)), some (.int (zI ver)), some (.int (bI T)), x16] [] A Q := by
  have el : (key : Int) + (step : Int) * ((cnt : Int) - 1) = (last : Nat) := by
    rw [hla]
    rcases (show cnt = 1 ∨ cnt = 2 ∨ cnt = 3 by omega) with rfl | rfl | rfl <;> omega
  refine wv_s f3_471 rfl (fun _ => rfl) ?_
  refine wv_s f3_472 rfl (fun _ => rfl) ?_
  refine wv_s f3_474 rfl (fun _ => rfl) ?_
  refine wv_bip f3_476 (by decide) ?_
  refine wv_s f3_478 rfl (fun _ => rfl) ?_
  refine wv_s f3_480 rfl (fun _ => rfl) ?_
  refine wv_s f3_482 rfl (fun _ => rfl) ?_
  refine wv_s f3_484 rfl (fun _ => rfl) ?_
  refine wv_icon f3_486 ?_
  refine wv_isub f3_487 ?_
  refine wv_imul f3_488 ?_
  refine wv_iadd f3_489 ?_
  rw [el]
  refine wv_s f3_490 rfl (fun _ => rfl) ?_
  refine wv_resS f3_492 (by decide) (by simp) (by simp) (by decide +kernel) (c14_o hO hfm (by omega) (by rw [hR.1]; exact hn9)) (by omega) (fun v8 A1 hv1 => ?_)
  obtain ⟨q, fn, fm1, rfl, hO1, hfm1, e0, e1, e2, e3, e4, e5, e6, e7, e8, hA1⟩ := hv1
  have hq1 : A1.1 q = some (vN .int 20 fn) := hO1.lr.2 (q, fn) (List.mem_append_right _ (List.mem_singleton.mpr rfl))
  refine wv_st11 f3_495 rfl (fun _ _ => rfl) ?_
  refine wv_s f3_497 rfl (fun _ => rfl) ?_
  refine wv_icon f3_499 ?_
  refine wv_s f3_500 rfl (fun _ => rfl) ?_
  refine wv_iastore (j := 5) f3_502 (hq1) (by first | rfl | omega) (by omega) (by omega) ?_
  have hO2 := okO.setRow (R1 := rows) (R2 := []) (r := (q, fn)) (fn := upd fn 5 (zI step)) hO1
  have hq2 := hO2.lr.2 (q, upd fn 5 (zI step)) (List.mem_append_right _ (List.mem_singleton.mpr rfl))
  refine wv_s f3_503 rfl (fun _ => rfl) ?_
  refine wv_bip f3_505 (by decide) ?_
  refine wv_icon f3_507 ?_
  refine wv_iastore (j := 6) f3_508 (hq2) (by first | rfl | omega) (by omega) (by omega) ?_
  have hO3 := okO.setRow (R1 := rows) (R2 := []) (r := (q, upd fn 5 (zI step))) (fn := upd (upd fn 5 (zI step)) 6 (zI 1)) hO2
  have hlen : w.2.2.length = n9 + 1 := by
    rw [hw, List.length_append, hn9]
    rfl
  rw [← hlen] at hfm1
  have hm3 := hO3.lm
  have hob := hO3.ob
  have hR3 : RowsOk (rows ++ [(q, upd (upd fn 5 (zI step)) 6 (zI 1))]) w.2.2 := by
    rw [hw]
    have u : ∀ k : Nat, k ≠ 5 → k ≠ 6 → upd (upd fn 5 (zI step)) 6 (zI 1) k = fn k := fun k h5 h6 => (upd_ne h6).trans (upd_ne h5)
    have u5 : upd (upd fn 5 (zI step)) 6 (zI 1) 5 = zI step := (upd_ne (show (5 : Nat) ≠ 6 by omega)).trans upd_self
    refine hR.snoc (lwr_br ?_ ?_ ?_ ?_ ?_ ?_ ?_ ?_ ?_)
    · exact (u 0 (by omega) (by omega)).trans e0
    · exact (u 1 (by omega) (by omega)).trans e1
    · exact (u 2 (by omega) (by omega)).trans e2
    · exact (u 3 (by omega) (by omega)).trans e3
    · exact (u 4 (by omega) (by omega)).trans e4
    · exact u5
    · exact (upd_self : upd (upd fn 5 (zI step)) 6 (zI 1) 6 = zI 1)
    · exact (u 7 (by omega) (by omega)).trans e7
    · exact (u 8 (by omega) (by omega)).trans e8
  refine wv_s f3_509 rfl (fun _ => rfl) ?_
  refine wv_zF_lt f3_511 (by omega) (by omega) ?_
  refine wv_s f3_514 rfl (fun _ => rfl) ?_
  refine wv_icon f3_516 ?_
  refine wv_cF_gt f3_517 (by omega) (by omega) (by omega) ?_
  refine wv_s f3_520 rfl (fun _ => rfl) ?_
  refine wv_valV f3_521 (by decide) (by simp) (by simp) (by decide +kernel) hob (by rfl) (by decide +kernel) rfl (c67 hO3) (by omega) ?_
  refine wv_s f3_524 rfl (fun _ => rfl) ?_
  refine wv_icon f3_526 ?_
  refine wv_iaload (j := 0) f3_527 (hm3) (by first | rfl | omega) (by omega) (by omega) ?_
  rw [hfm1]
  refine wv_cF_ne f3_528 (by omega) (by omega) (by omega) ?_
  refine wv_s f3_531 rfl (fun _ => rfl) ?_
  refine wv_valV f3_532 (by decide) (by simp) (by simp) (by decide +kernel) (hob) (by rfl) (by decide +kernel) rfl (c97 hO3) (by omega) ?_
  refine wv_s f3_535 rfl (fun _ => rfl) ?_
  refine wv_icon f3_537 ?_
  refine wv_iadd f3_538 ?_
  refine wv_s f3_539 rfl (fun _ => rfl) ?_
  refine wv_valS f3_541 (by decide) (by simp) (by simp) (by decide +kernel) (c7) (by omega) ?_
  refine wv_iadd f3_544 ?_
  have ev : (ver : Int) + 1 + (if T = true then 1 else 0) = ((ct.2.2.2.2.1 : Nat) : Int) := by
    rw [hver]
    cases T <;> simp <;> omega
  rw [ev]
  have hbb : ct.2.2.2.2.1 ≤ 1000000 := by
    rw [hver]
    split <;> omega
  refine wv_cF_ne f3_545 (by omega) (by omega) (by omega) ?_
  refine wv_icon f3_548 ?_
  refine wv_s (pc' := 553) f3_549 rfl (fun _ => rfl) ?_
  exact wv_iretB (p := true) f3_553 (by decide +kernel) ( hQ _ _ _ hfm1 hR3 hO3 Kpt.snoc hA1)
theorem c3 (hs : sc.1 ≤ 260) (hi : i + 4 ≤ 2000) (hO : okO A F (lwL qm qa fm rows K) o f w s c b fi y me ct) (hfm : fm 0 = zI w.2.2.length) (hR : RowsOk rows w.2.2) (hG : GI (s.2.2.map SnD.m) ct.2.2.1 f.2.2 w.2.2 b.2.2 me) (hM : MemI w.2.2 b.2.2) (hlw : w.2.2.length < 120) (hgi : f.2.2[j]? = some g) (hj3 : j ≤ 3) (hid : ct.2.2.1 + 2 < 1000000) (hvs : ct.2.2.2.2.1 + 2 ≤ 900000) :
    Wc sc 14 3 [.ref o, .retAddr 0, .int (zI i), .ref qa, .ref qm, .int (zI j)] A (WsP A F qm qa rows K o f w s c b fi y me ct) := by
  obtain ⟨f1, f2, hf, rfl⟩ : ∃ f1 f2, f.2.2 = f1 ++ g :: f2 ∧ f1.length = j := ⟨_, _, (at_mid hgi).1, (at_mid hgi).2⟩
  have hgm := List.mem_of_getElem? hgi
  have h4 := hO.l4 g hgm
  have hgg := (hG.2.2.2.1 _ _ hgi).1
  obtain ⟨l0, lt, hg⟩ : ∃ l0 lt, g.lv = l0 :: lt := by
    cases hh : g.lv with
    | nil => rw [hh] at h4; cases h4
    | cons l0 lt => exact ⟨l0, lt, rfl⟩
  have hl0 : g.lv[0]? = some l0 := by rw [hg]; rfl
  have hl480 := (lv_wt hO hG (by omega) hgm (List.mem_of_getElem? hl0)).2
  show Wv sc 14 3 0 [some (.ref o), some (.retAddr 0), some (.int (zI i)), some (.ref qa), some (.ref qm), some (.int (zI f1.length)), none, none, none, none, none, none, none, none, none, none, none] [] A _
  have hob := hO.ob
  have hm := hO.lm
  refine wv_s f3_0 rfl (fun _ => rfl) ?_
  refine wv_s f3_1 rfl (fun _ => rfl) ?_
  refine wv_bip f3_2 (by decide) ?_
  refine wv_resS f3_4 (by decide) (by simp) (by simp) (by decide +kernel) (c1 (m := 12) hs (by omega) (by omega)) (by omega) (fun v1 A1 e1 => ?_)
  obtain ⟨⟨what, hwh, rfl⟩, eA⟩ := e1
  rw [eA]
  refine wv_st6 f3_7 rfl (fun _ _ => rfl) ?_
  refine wv_s f3_9 rfl (fun _ => rfl) ?_
  refine wv_s f3_10 rfl (fun _ => rfl) ?_
  refine wv_icon f3_11 ?_
  refine wv_iadd f3_12 ?_
  refine wv_bip f3_13 (by decide) ?_
  rw [show (i : Int) + 1 = ((i + 1 : Nat) : Int) by omega]
  refine wv_resS f3_15 (by decide) (by simp) (by simp) (by decide +kernel) (c1 (m := 12) hs (by omega) (by omega)) (by omega) (fun v1 A1 e1 => ?_)
  obtain ⟨⟨key, hky, rfl⟩, eA⟩ := e1
  rw [eA]
  refine wv_st7 f3_18 rfl (fun _ _ => rfl) ?_
  refine wv_s f3_20 rfl (fun _ => rfl) ?_
  refine wv_s f3_21 rfl (fun _ => rfl) ?_
  refine wv_icon f3_22 ?_
  refine wv_iadd f3_23 ?_
  refine wv_bip f3_24 (by decide) ?_
  rw [show (i : Int) + 2 = ((i + 2 : Nat) : Int) by omega]
  refine wv_resS f3_26 (by decide) (by simp) (by simp) (by decide +kernel) (c1 (m := 9) hs (by omega) (by omega)) (by omega) (fun v1 A1 e1 => ?_)
  obtain ⟨⟨k9, hk9, rfl⟩, eA⟩ := e1
  rw [eA]
  have hvv : (zI ((k9 : Int) - 4)).toInt = (k9 : Int) - 4 := Int32.toInt_ofInt_of_le (by omega) (by omega)
  have hv0 : (zI 0).toInt = 0 := by decide
  have q4 : Wc sc 7 8 [.ref o, .int (zI 4), .int (zI f1.length), .int (zI 0), .int (zI 0), .int (zI 0)] A (fun v A' => v = .inl (some (.int (zI l0.rs.length))) ∧ A' = A) := aV_4 hob rfl (c90 hO hgi hl0)
  refine wv_icon f3_29 ?_
  refine wv_isub f3_30 ?_
  refine wv_st8 f3_31 rfl (fun _ _ => rfl) ?_
  refine wv_s f3_33 rfl (fun _ => rfl) ?_
  refine wv_icon f3_34 ?_
  refine wv_s f3_35 rfl (fun _ => rfl) ?_
  refine wv_icon f3_37 ?_
  refine wv_icon f3_38 ?_
  refine wv_icon f3_39 ?_
  refine wv_valS f3_40 (by decide) (by simp) (by simp) (by decide +kernel) (q4) (by omega) ?_
  refine wv_bip f3_43 (by decide) ?_
  have main : Wv sc 14 3 53 [some (.ref o), some (.retAddr 0), some (.int (zI i)), some (.ref qa), some (.ref qm), some (.int (zI f1.length)), some (.int (zI what)), some (.int (zI key)), some (.int (zI ((k9 : Int) - 4))), none, none, none, none, none, none, none, none] [.int (bI (decide (6 ≤ l0.rs.length)))] A (WsP A F qm qa rows K o f w s c b fi y me ct) := by
    refine wv_st9 f3_53 rfl (fun _ _ => rfl) ?_
    refine wv_s f3_55 rfl (fun _ => rfl) ?_
    refine wv_bip f3_57 (by decide) ?_
    refine wv_cX_ge f3_59 (by omega) (by omega) (fun hb => ?_) (fun hb => ?_)
    · refine wv_icon f3_289 ?_
      refine wv_s f3_290 rfl (fun _ => rfl) ?_
      refine wv_s f3_291 rfl (fun _ => rfl) ?_
      refine wv_icon f3_292 ?_
      refine wv_iadd f3_293 ?_
      rw [show (i : Int) + 3 = ((i + 3 : Nat) : Int) by omega]
      refine wv_icon f3_294 ?_
      refine wv_resS f3_295 (by decide) (by simp) (by simp) (by decide +kernel) (c1 (m := 3) hs (by omega) (by omega)) (by omega) (fun v1 A1 e1 => ?_)
      obtain ⟨⟨k3, hk3, rfl⟩, eA⟩ := e1
      rw [eA]
      refine wv_iadd f3_298 ?_
      rw [show (1 : Int) + (k3 : Nat) = ((k3 + 1 : Nat) : Int) by omega]
      obtain ⟨step, hstep⟩ : ∃ step, k3 + 1 = step := ⟨_, rfl⟩
      rw [hstep]
      refine wv_st12 f3_299 rfl (fun _ _ => rfl) ?_
      refine wv_icon f3_301 ?_
      refine wv_s f3_302 rfl (fun _ => rfl) ?_
      refine wv_s f3_303 rfl (fun _ => rfl) ?_
      refine wv_icon f3_304 ?_
      refine wv_iadd f3_305 ?_
      rw [show (i : Int) + 4 = ((i + 4 : Nat) : Int) by omega]
      refine wv_icon f3_306 ?_
      refine wv_resS f3_307 (by decide) (by simp) (by simp) (by decide +kernel) (c1 (m := 3) hs (by omega) (by omega)) (by omega) (fun v1 A1 e1 => ?_)
      obtain ⟨⟨k4, hk4, rfl⟩, eA⟩ := e1
      rw [eA]
      refine wv_iadd f3_310 ?_
      rw [show (1 : Int) + (k4 : Nat) = ((k4 + 1 : Nat) : Int) by omega]
      obtain ⟨cnt, hcnt⟩ : ∃ cnt, k4 + 1 = cnt := ⟨_, rfl⟩
      rw [hcnt]
      refine wv_st13 f3_311 rfl (fun _ _ => rfl) ?_
      refine wv_s f3_313 rfl (fun _ => rfl) ?_
      refine wv_valV f3_314 (by decide) (by simp) (by simp) (by decide +kernel) (hob) (by rfl) (by decide +kernel) rfl (c97 hO) (by omega) ?_
      refine wv_st14 f3_317 rfl (fun _ _ => rfl) ?_
      refine wv_s f3_319 rfl (fun _ => rfl) ?_
      refine wv_icon f3_320 ?_
      refine wv_s f3_321 rfl (fun _ => rfl) ?_
      refine wv_s f3_323 rfl (fun _ => rfl) ?_
      refine wv_s f3_325 rfl (fun _ => rfl) ?_
      refine wv_s f3_327 rfl (fun _ => rfl) ?_
      refine wv_s f3_329 rfl (fun _ => rfl) ?_
      refine wv_imul f3_331 ?_
      refine wv_iadd f3_332 ?_
      refine wv_icon f3_333 ?_
      refine wv_isub f3_334 ?_
      obtain ⟨last, hlast⟩ : ∃ last, last = key + step * cnt - 1 := ⟨_, rfl⟩
      obtain ⟨lt2, hlt2⟩ : ∃ lt2, lt2 = key + step * (cnt - 1) := ⟨_, rfl⟩
      have hst3 : step = 1 ∨ step = 2 ∨ step = 3 := by omega
      have hcn3 : cnt = 1 ∨ cnt = 2 ∨ cnt = 3 := by omega
      have hfacts : (key : Int) + (step : Int) * (cnt : Int) - 1 = ((last : Nat) : Int) ∧ key ≤ last ∧ last < 30 ∧ (last - key) / step = cnt - 1 ∧ last - (last - key) % step = lt2 ∧ lt2 < 18 := by
        rw [hlast, hlt2]
        rcases hst3 with h | h | h <;> rcases hcn3 with h2 | h2 | h2 <;> rw [h, h2] <;> omega
      obtain ⟨p1, p2, p3, p4, p5, p6⟩ := hfacts
      rw [p1]
      rw [hlt2] at p5 p6
      have dbr : Wc sc 13 2 [.ref o, .int (zI 5), .int (zI f1.length), .int (zI key), .int (zI last), .int (zI step), .int (zI ((k9 : Int) - 4))] A (BwY A F (lwL qm qa fm rows K) o f w s c b fi y me ct l0.rs.length g.g key step cnt (zI ((k9 : Int) - 4))) :=
        c2_w (c13_5 hob rfl (c28_x hO hG (by omega) hf hg (by omega) (by omega) (by omega) p6 p2 (by omega) p4 p5 (by omega) hid (by omega)) bwX_R (d := 12) (by omega)) bwX_R (by omega) (fun v A' h => bwX_Y h)
      refine wv_s f3_335 rfl (fun _ => rfl) ?_
      refine wv_s f3_337 rfl (fun _ => rfl) ?_
      refine wv_resS f3_339 (by decide) (by simp) (by simp) (by decide +kernel) (dbr) (by omega) (fun v8 A1 hv => ?_)
      rcases hv with ⟨h6, rfl, rfl⟩ | ⟨h6, hv⟩
      · rw [decide_eq_true h6]
        refine wv_st10 f3_342 rfl (fun _ _ => rfl) ?_
        refine wv_s f3_344 rfl (fun _ => rfl) ?_
        refine wv_bF f3_346 (rfl) ?_
        refine wv_s f3_349 rfl (fun _ => rfl) ?_
        refine wv_ldcI (k := -2000003) f3_351 (by decide) ?_
        refine wv_cF_ne f3_353 (by omega) (by omega) (by omega) ?_
        refine wv_icon f3_356 ?_
        refine wv_s (pc' := 361) f3_357 rfl (fun _ => rfl) ?_
        exact wv_iretB (p := true) f3_361 (by decide +kernel) ( ⟨rfl, F, f, w, ct, rows, fm, 0, 0, Ext.refl, hO.thr, hfm, hR, hG, Same.refl, hM, Nat.le_refl _, Nat.le_succ _, Kpt.refl, rfl, by omega, by omega, by show 5 * (A.2.1 + 1) ≤ _; omega, by show A.2.2 + 6 ≤ _; omega⟩)
      · rw [decide_eq_false (by omega)]
        obtain ⟨jl, F', f', w', ct', xa, ca, df, rfl, hjl, hE, hO1, hdf, hw', hG1, hS, hct, hC, hSl⟩ := hv
        refine wv_st10 f3_342 rfl (fun _ _ => rfl) ?_
        refine wv_s f3_344 rfl (fun _ => rfl) ?_
        refine wv_bT f3_346 (rfl) ?_
        refine wv_icon f3_362 ?_
        refine wv_st15 f3_363 rfl (fun _ _ => rfl) ?_
        refine wv_icon f3_365 ?_
        refine wv_st16 f3_366 rfl (fun _ _ => rfl) ?_
        rw [hgg, ← hlt2] at hw' hdf
        rw [← hlt2] at p6
        have hwz := hO.wz
        have hwo : ∀ x, x ∈ w.2.2 → WOk x ∧ x.g ≤ 3 := fun x hx => ⟨hG.2.2.1 x hx, (hwz x hx).2⟩
        have hk := ctK_0 hct
        have hm1 := hO1.lm
        have fin : ∀ (A2 : gA) (rows2 : List LrD) (x16 : Option Value), okO A2 F' (lwL qm qa fm rows2 K) o f' w' s c b fi y me ct' → RowsOk rows2 (if tchd f1.length key ((lt2 : Nat) : Int) w.2.2 = true then w.2.2.map (flW f1.length) else w.2.2) → Kpt rows rows2 → A2.2 = A1.2 → Wv sc 14 3 471 [some (.ref o), some (.retAddr 0), some (.int (zI i)), some (.ref qa), some (.ref qm), some (.int (zI f1.length)), some (.int (zI what)), some (.int (zI key)), some (.int (zI ((k9 : Int) - 4))), some (.int (bI false)), some (.int (zI jl)), none, some (.int (zI step)), some (.int (zI cnt)), some (.int (zI ct.2.2.2.2.1)), some (.int (bI (tchd f1.length key ((lt2 : Nat) : Int) w.2.2))), x16] [] A2 (WsP A F qm qa rows K o f w s c b fi y me ct) := by
          intro A2 rows2 x16 hO2 hR2 hK2 hA2
          have hln : (if tchd f1.length key ((lt2 : Nat) : Int) w.2.2 = true then w.2.2.map (flW f1.length) else w.2.2).length = w.2.2.length := by
            split
            · exact List.length_map ..
            · rfl
          have hlw' : w'.2.2.length = w.2.2.length + 1 := by
            rw [hw', List.length_append, hln]
            rfl
          have hM' : MemI w'.2.2 b.2.2 := by
            rw [hw']
            have hM1 : MemI (if tchd f1.length key ((lt2 : Nat) : Int) w.2.2 = true then w.2.2.map (flW f1.length) else w.2.2) b.2.2 := by
              split
              · exact hM.map zo_fl (fun w => fl_m)
              · exact hM
            refine hM1.snoc (fun j => ?_)
            rw [cntM_br rfl]
            exact (hM1 j).1
          refine c3_b hO2 hfm hR2 hln (by omega) hw' (by rw [hk.2.2.2.1, hdf]) (by omega) hjl hj3 (by omega) (by omega) (by omega) (by omega) hlt2 (fun A3 fm3 rows3 hfm3 hR3 hO3 hK3 hA3 => ⟨rfl, F', f', w', ct', rows3, fm3, df, df, hE, hO3, hfm3, hR3, hG1, hS, hM', by omega, by omega, hK2.trans hK3, hct, ?_, ?_, ?_, ?_⟩)
          · rw [hdf]
            split <;> omega
          · rw [hdf]
            split <;> omega
          · rw [hA3, hA2]
            show 5 * (A1.2.1 + 1) ≤ _
            omega
          · rw [hA3, hA2]
            show A1.2.2 + 20 ≤ _
            omega
        refine c3_t (p := false) (last := lt2) hO1 hfm hR hwo (by omega) hj3 (by omega) (by omega) (by omega) (by omega) hlt2 w.2.2.length 0 (by omega) (fun x16 => ?_)
        rw [List.drop_zero, Bool.false_or]
        cases ht : tchd f1.length key ((lt2 : Nat) : Int) w.2.2 with
        | true =>
          rw [ht] at fin
          refine wv_s f3_456 rfl (fun _ => rfl) ?_
          refine wv_bF f3_458 (rfl) ?_
          refine wv_s f3_461 rfl (fun _ => rfl) ?_
          refine wv_s f3_462 rfl (fun _ => rfl) ?_
          refine wv_icon f3_464 ?_
          refine wv_iaload (j := 0) f3_465 (hm1) (by first | rfl | omega) (by omega) (by omega) ?_
          rw [hfm]
          refine wv_s f3_466 rfl (fun _ => rfl) ?_
          refine wv_effS f3_468 (by decide) (by simp) (by simp) (by decide +kernel) (c5_o hO1 hR (fun x hx => hwz x hx) (by omega) hj3) (by omega) (fun A2 hA2 => ?_)
          exact fin A2 _ x16 hA2.1 (by rw [if_pos rfl]; exact hR.map (fun r w hw hr => flQ_ok hr (hwz w hw).1 (hwz w hw).2 hj3)) (Kpt.map (fun r j hj => flQ_k hj)) hA2.2
        | false =>
          rw [ht] at fin
          refine wv_s f3_456 rfl (fun _ => rfl) ?_
          refine wv_bT f3_458 (rfl) ?_
          exact fin A1 _ x16 hO1 (by rw [if_neg (by decide)]; exact hR) Kpt.refl rfl
    · have rest : ∀ to_ : Nat, ((what ≤ 7 ∧ to_ = key) ∨ (8 ≤ what ∧ key ≤ to_ ∧ to_ ≤ key + 3)) → Wv sc 14 3 85 [some (.ref o), some (.retAddr 0), some (.int (zI i)), some (.ref qa), some (.ref qm), some (.int (zI f1.length)), some (.int (zI what)), some (.int (zI key)), some (.int (zI ((k9 : Int) - 4))), some (.int (bI (decide (6 ≤ l0.rs.length)))), none, none, none, none, none, none, none] [.int (zI to_)] A (WsP A F qm qa rows K o f w s c b fi y me ct) := by
        intro to_ hto
        refine wv_st12 f3_85 rfl (fun _ _ => rfl) ?_
        refine wv_s f3_87 rfl (fun _ => rfl) ?_
        refine wv_icon f3_89 ?_
        refine wv_cX_ge f3_90 (by omega) (by omega) (fun hb1 => ?_) (fun hb1 => ?_)
        · refine wv_s f3_109 rfl (fun _ => rfl) ?_
          refine wv_bip f3_111 (by decide) ?_
          refine wv_cX_ge f3_113 (by omega) (by omega) (fun hb2 => ?_) (fun hb2 => ?_)
          · refine wv_s f3_131 rfl (fun _ => rfl) ?_
            refine wv_bip f3_133 (by decide) ?_
            refine wv_cX_ge f3_135 (by omega) (by omega) (fun hb3 => ?_) (fun hb3 => ?_)
            · have d3 : Wc sc 12 2 [.ref o, .int (zI 3), .int (zI f1.length), .int (zI key), .int (zI to_), .int (zI 0), .int (zI 0)] A (WrY A F (lwL qm qa fm rows K) o f w s c b fi y me ct f1 g f2 l0 lt 3 key to_ (zI 0)) :=
                c2_w (c13_3 hob rfl (c40_w hob rfl (c99_x (k := 3) hO hf hg (by omega) (by omega) (by omega) (by omega) (by omega) (by omega)) wrX_R) wrX_R (d := 11) (by omega)) wrX_R (by omega) (fun v A' h => wrX_Y h)
              refine wv_s f3_154 rfl (fun _ => rfl) ?_
              refine wv_icon f3_155 ?_
              refine wv_s f3_156 rfl (fun _ => rfl) ?_
              refine wv_s f3_158 rfl (fun _ => rfl) ?_
              refine wv_s f3_160 rfl (fun _ => rfl) ?_
              refine wv_icon f3_162 ?_
              refine wv_icon f3_163 ?_
              refine wv_resS f3_164 (by decide) (by simp) (by simp) (by decide +kernel) (d3) (by omega) (fun v8 A1 hv => ?_)
              exact c3_a hO hfm hR hG hM hlw hf hg hj3 (.inr (.inr (.inr ⟨rfl, by omega, by omega⟩))) (by omega) (.inr ⟨rfl, by omega, by omega⟩) (fun q => absurd q (by omega)) (by omega) hv
            · have d4 : Wc sc 12 2 [.ref o, .int (zI 4), .int (zI f1.length), .int (zI key), .int (zI ((k9 : Int) - 4)), .int (zI 0), .int (zI 0)] A (WrY A F (lwL qm qa fm rows K) o f w s c b fi y me ct f1 g f2 l0 lt 4 key key (zI ((k9 : Int) - 4))) :=
                c2_w (c13_4 hob rfl (c75_w hob rfl (c99_x (k := 4) hO hf hg (by omega) (by omega) (by omega) (by omega) (by omega) (by omega)) wrX_R) wrX_R (d := 11) (by omega)) wrX_R (by omega) (fun v A' h => wrX_Y h)
              refine wv_s f3_138 rfl (fun _ => rfl) ?_
              refine wv_icon f3_139 ?_
              refine wv_s f3_140 rfl (fun _ => rfl) ?_
              refine wv_s f3_142 rfl (fun _ => rfl) ?_
              refine wv_s f3_144 rfl (fun _ => rfl) ?_
              refine wv_icon f3_146 ?_
              refine wv_icon f3_147 ?_
              refine wv_resS f3_148 (by decide) (by simp) (by simp) (by decide +kernel) (d4) (by omega) (fun v8 A1 hv => ?_)
              refine wv_s (pc' := 167) f3_151 rfl (fun _ => rfl) ?_
              obtain rfl : to_ = key := by omega
              exact c3_a hO hfm hR hG hM hlw hf hg hj3 (.inr (.inr (.inl ⟨rfl, by omega, by omega⟩))) (by omega) (.inl ⟨by omega, rfl⟩) (fun _ => rfl) (by omega) hv
          · have d2 : Wc sc 12 2 [.ref o, .int (zI 2), .int (zI f1.length), .int (zI key), .int (zI 0), .int (zI 0), .int (zI 0)] A (WrY A F (lwL qm qa fm rows K) o f w s c b fi y me ct f1 g f2 l0 lt 2 key key (zI 0)) :=
              c2_w (c13_2 hob rfl (c39_w hob rfl (c99_x (k := 2) hO hf hg (by omega) (by omega) (by omega) (by omega) (by omega) (by omega)) wrX_R) wrX_R (d := 11) (by omega)) wrX_R (by omega) (fun v A' h => wrX_Y h)
            refine wv_s f3_116 rfl (fun _ => rfl) ?_
            refine wv_icon f3_117 ?_
            refine wv_s f3_118 rfl (fun _ => rfl) ?_
            refine wv_s f3_120 rfl (fun _ => rfl) ?_
            refine wv_icon f3_122 ?_
            refine wv_icon f3_123 ?_
            refine wv_icon f3_124 ?_
            refine wv_resS f3_125 (by decide) (by simp) (by simp) (by decide +kernel) (d2) (by omega) (fun v8 A1 hv => ?_)
            refine wv_s (pc' := 167) f3_128 rfl (fun _ => rfl) ?_
            obtain rfl : to_ = key := by omega
            exact c3_a hO hfm hR hG hM hlw hf hg hj3 (.inr (.inl ⟨rfl, by omega, by omega⟩)) (by omega) (.inl ⟨by omega, rfl⟩) (fun q => absurd q (by omega)) (by omega) hv
        · have d1 : Wc sc 12 2 [.ref o, .int (zI 1), .int (zI f1.length), .int (zI key), .int (zI ((k9 : Int) - 4)), .int (zI 0), .int (zI 0)] A (WrY A F (lwL qm qa fm rows K) o f w s c b fi y me ct f1 g f2 l0 lt 1 key key (zI ((k9 : Int) - 4))) :=
            c2_w (c13_1 hob rfl (c85_w (x0 := .null) (x1 := .null) (x2 := .null) hob rfl (c99_x (k := 1) hO hf hg (by omega) (by omega) (by omega) (by omega) (by omega) (by omega)) wrX_R) wrX_R (d := 11) (by omega)) wrX_R (by omega) (fun v A' h => wrX_Y h)
          refine wv_s f3_93 rfl (fun _ => rfl) ?_
          refine wv_icon f3_94 ?_
          refine wv_s f3_95 rfl (fun _ => rfl) ?_
          refine wv_s f3_97 rfl (fun _ => rfl) ?_
          refine wv_s f3_99 rfl (fun _ => rfl) ?_
          refine wv_icon f3_101 ?_
          refine wv_icon f3_102 ?_
          refine wv_resS f3_103 (by decide) (by simp) (by simp) (by decide +kernel) (d1) (by omega) (fun v8 A1 hv => ?_)
          refine wv_s (pc' := 167) f3_106 rfl (fun _ => rfl) ?_
          obtain rfl : to_ = key := by omega
          exact c3_a hO hfm hR hG hM hlw hf hg hj3 (.inl ⟨rfl, by omega⟩) (by omega) (.inl ⟨by omega, rfl⟩) (fun _ => rfl) (by omega) hv
      refine wv_s f3_62 rfl (fun _ => rfl) ?_
      refine wv_bip f3_64 (by decide) ?_
      refine wv_cX_le f3_66 (by omega) (by omega) (fun hb1 => ?_) (fun hb1 => ?_)
      · refine wv_s f3_83 rfl (fun _ => rfl) ?_
        exact rest key (.inl ⟨by omega, rfl⟩)
      · refine wv_s f3_69 rfl (fun _ => rfl) ?_
        refine wv_s f3_71 rfl (fun _ => rfl) ?_
        refine wv_s f3_72 rfl (fun _ => rfl) ?_
        refine wv_icon f3_73 ?_
        refine wv_iadd f3_74 ?_
        rw [show (i : Int) + 3 = ((i + 3 : Nat) : Int) by omega]
        refine wv_icon f3_75 ?_
        refine wv_resS f3_76 (by decide) (by simp) (by simp) (by decide +kernel) (c1 (m := 4) hs (by omega) (by omega)) (by omega) (fun v1 A1 e1 => ?_)
        obtain ⟨⟨k4, hk4, rfl⟩, eA⟩ := e1
        rw [eA]
        refine wv_iadd f3_79 ?_
        rw [show (key : Int) + (k4 : Nat) = ((key + k4 : Nat) : Int) by omega]
        refine wv_s (pc' := 85) f3_80 rfl (fun _ => rfl) ?_
        exact rest (key + k4) (.inr ⟨by omega, by omega, by omega⟩)
  refine wv_cX_lt f3_45 (by omega) (by omega) (fun hb => ?_) (fun hb => ?_)
  · refine wv_icon f3_52 ?_
    rw [decide_eq_false (by omega)] at main
    exact main
  · refine wv_icon f3_48 ?_
    refine wv_s (pc' := 53) f3_49 rfl (fun _ => rfl) ?_
    rw [decide_eq_true (by omega)] at main
    exact main
end IX
