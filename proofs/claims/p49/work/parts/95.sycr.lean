/-! SYNC, CRASH -/
theorem rf_mid {R1 R2 : List LrD} {r : LrD} {i : Nat} (h : R1.length = i) : va_rf (allG (R1 ++ r :: R2) (i + 1)) = .ref r.1 := by
  show va_rf (((R1 ++ r :: R2)[i]?).map Prod.fst) = _
  rw [List.getElem?_append_right (by omega), show i - R1.length = 0 by omega]
  rfl
theorem sy_0 : ∀ {ws : List WrD}, cntU (ws.map synW) = 0
  | [] => rfl
  | w :: ws => by
    rw [List.map_cons, cntU_cons, @sy_0 ws, if_neg]
    unfold synW
    by_cases h : w.z = 1
    · rw [if_pos h]
      show ¬ (2 : Nat) = 1
      omega
    · rw [if_neg h]
      exact h
theorem sy_m {w : WrD} (h : (synW w).z = 1 ∨ (synW w).z = 2) : w.z = 1 ∨ w.z = 2 := syn_z.2.1.mp h
section TY
variable {sc : gSc} {d : Nat} {A A0 : gA} {Q : gO → gA → Prop} {o qa qm qo qh qt ql nF hM mk bM i j k what C S kS kn : Nat} {fo fm : Nat → Int32} {x17 x18 x19 x20 x4 : Option Value} {F : Nat → Option vC} {f : Ls FamD} {w : Ls WrD} {s : Ls SnD} {c : Ls CuD} {b : Ls BkD} {fi : Nat × FiD} {y : Ls ChD} {me : Option MeD} {ct : CtD} {rows : List LrD} {K : List (Nat × vC)} {ws : List WrD}
theorem ty_l (hR : RowsOk rows ws) (hz : ∀ x, x ∈ ws → x.z ≤ 3 ∧ x.s ≤ 20) (hl : ws.length ≤ 120) (hfm : fm 0 = zI ws.length) {kS9 : Nat × Nat}
    (hQ : ∀ A' x18, okO A' F (lwL qm qa fm (rows.map syQ) K) o f w s c b fi y me ct → A'.2 = kS9 → Wv sc 16 0 718 [some (.retAddr 0), some (.ref o), some (.int (zI nF)), some (.ref qo), x4, some (.ref qa), some (.ref qm), some (.ref qh), some (.ref qt), some (.int (zI hM)), some (.int (zI mk)), some (.int (zI bM)), some (.ref ql), some (.int (zI k)), some (.int (zI i)), some (.int (zI j)), some (.int (zI what)), x17, x18, x19, x20] [] A' Q) : ∀ (n i9 : Nat) (A : gA), i9 + n = ws.length → okO A F (lwL qm qa fm ((rows.take i9).map syQ ++ rows.drop i9) K) o f w s c b fi y me ct → A.2 = kS9 →
    Wv sc 16 0 662 [some (.retAddr 0), some (.ref o), some (.int (zI nF)), some (.ref qo), x4, some (.ref qa), some (.ref qm), some (.ref qh), some (.ref qt), some (.int (zI hM)), some (.int (zI mk)), some (.int (zI bM)), some (.ref ql), some (.int (zI k)), some (.int (zI i)), some (.int (zI j)), some (.int (zI what)), x17, some (.int (zI ((i9 + 1 : Nat) : Int))), x19, x20] [] A Q
  | 0, i9, A, hin, hO, hA => by
    have hm := hO.lm
    have e1 : rows.take i9 = rows := List.take_of_length_le (by rw [hR.1]; omega)
    have e2 : rows.drop i9 = [] := List.drop_of_length_le (by rw [hR.1]; omega)
    rw [e1, e2, List.append_nil] at hO
    refine wv_s f0_662 rfl (fun _ => rfl) ?_
    refine wv_s f0_664 rfl (fun _ => rfl) ?_
    refine wv_icon f0_666 ?_
    refine wv_iaload (j := 0) f0_667 (hm) (by first | rfl | omega) (by omega) (by omega) ?_
    rw [hfm]
    refine wv_cT_gt f0_668 (by omega) (by omega) (by omega) ?_
    exact hQ A _ hO hA
  | n + 1, i9, A, hin, hO, hA => by
    obtain ⟨r, hrm, hr, -, hd, ht⟩ := at_i (l := rows) (i := i9) (by rw [hR.1]; omega)
    obtain ⟨u, hum, hu, -, -, -⟩ := at_i (l := ws) (i := i9) (by omega)
    have hrw := hR.2 i9 r u hr hu
    obtain ⟨hz1, hz2⟩ := hz u hum
    rw [hd] at hO
    have hm := hO.lm
    have hI1 := hO.lr.1
    have hq := hO.lr.2 r (List.mem_append_right _ (List.mem_cons_self ..))
    have hrf : va_rf (allG ((rows.take i9).map syQ ++ r :: rows.drop (i9 + 1)) (i9 + 1)) = .ref r.1 := rf_mid (by rw [List.length_map, List.length_take, hR.1]; omega)
    have next : ∀ X : Int32, X = (if r.2 5 = zI 0 ∧ r.2 8 = zI 0 then zI 1 else r.2 7) → Wv sc 16 0 711 [some (.retAddr 0), some (.ref o), some (.int (zI nF)), some (.ref qo), x4, some (.ref qa), some (.ref qm), some (.ref qh), some (.ref qt), some (.int (zI hM)), some (.int (zI mk)), some (.int (zI bM)), some (.ref ql), some (.int (zI k)), some (.int (zI i)), some (.int (zI j)), some (.int (zI what)), x17, some (.int (zI ((i9 + 1 : Nat) : Int))), x19, x20] [.int X, .int (zI 7), .ref r.1] A Q := by
      intro X hX
      refine wv_iastore (j := 7) f0_711 (hq) (by first | rfl | omega) (by omega) (by omega) ?_
      refine wv_inc18 f0_712 ?_
      refine wv_s (pc' := 662) f0_715 rfl (fun _ => rfl) ?_
      refine ty_l hR hz hl hfm hQ n (i9 + 1) _ (by omega) ?_ hA
      have h9 := okO.setRow (fn := upd r.2 7 X) hO
      rw [hX] at h9 ⊢
      rw [ht, List.map_append, List.append_assoc]
      exact h9
    have r5 := hrw.2.2.2.2.2.1
    have r8 := hrw.2.2.2.2.2.2.2.2.1
    have no : ¬ (r.2 5 = zI 0 ∧ r.2 8 = zI 0) → Wv sc 16 0 703 [some (.retAddr 0), some (.ref o), some (.int (zI nF)), some (.ref qo), x4, some (.ref qa), some (.ref qm), some (.ref qh), some (.ref qt), some (.int (zI hM)), some (.int (zI mk)), some (.int (zI bM)), some (.ref ql), some (.int (zI k)), some (.int (zI i)), some (.int (zI j)), some (.int (zI what)), x17, some (.int (zI ((i9 + 1 : Nat) : Int))), x19, x20] [.int (zI 7), .ref r.1] A Q := by
      intro h
      refine wv_s f0_703 rfl (fun _ => rfl) ?_
      refine wv_s f0_705 rfl (fun _ => rfl) ?_
      refine wv_aaload (j := i9 + 1) f0_707 (by assumption) (by rfl) (by first | rfl | omega) (by omega) (by omega) (hrf) ?_
      refine wv_bip f0_708 (by decide) ?_
      refine wv_iaload (j := 7) f0_710 (hq) (by first | rfl | omega) (by omega) (by omega) ?_
      exact next _ (by rw [if_neg h])
    refine wv_s f0_662 rfl (fun _ => rfl) ?_
    refine wv_s f0_664 rfl (fun _ => rfl) ?_
    refine wv_icon f0_666 ?_
    refine wv_iaload (j := 0) f0_667 (hm) (by first | rfl | omega) (by omega) (by omega) ?_
    rw [hfm]
    refine wv_cF_gt f0_668 (by omega) (by omega) (by omega) ?_
    refine wv_s f0_671 rfl (fun _ => rfl) ?_
    refine wv_s f0_673 rfl (fun _ => rfl) ?_
    refine wv_aaload (j := i9 + 1) f0_675 (by assumption) (by rfl) (by first | rfl | omega) (by omega) (by omega) (hrf) ?_
    refine wv_bip f0_676 (by decide) ?_
    refine wv_s f0_678 rfl (fun _ => rfl) ?_
    refine wv_s f0_680 rfl (fun _ => rfl) ?_
    refine wv_aaload (j := i9 + 1) f0_682 (by assumption) (by rfl) (by first | rfl | omega) (by omega) (by omega) (hrf) ?_
    refine wv_icon f0_683 ?_
    refine wv_iaload (j := 5) f0_684 (hq) (by first | rfl | omega) (by omega) (by omega) ?_
    rw [r5]
    refine wv_zX_ne f0_685 (by omega) (fun hb => ?_) (fun hb => ?_)
    · refine no (fun q => hb ?_)
      have h9 := zI_inj2 (a := u.s) (b := 0) (by omega) (by omega) (r5.symm.trans q.1)
      omega
    · refine wv_s f0_688 rfl (fun _ => rfl) ?_
      refine wv_s f0_690 rfl (fun _ => rfl) ?_
      refine wv_aaload (j := i9 + 1) f0_692 (by assumption) (by rfl) (by first | rfl | omega) (by omega) (by omega) (hrf) ?_
      refine wv_bip f0_693 (by decide) ?_
      refine wv_iaload (j := 8) f0_695 (hq) (by first | rfl | omega) (by omega) (by omega) ?_
      by_cases h0 : u.z = 0
      · rw [if_pos h0] at r8
        rw [r8]
        refine wv_zT_ne f0_696 (by omega) (by omega) ?_
        exact no (fun q => absurd (r8.symm.trans q.2) (by decide))
      · rw [if_neg h0] at r8
        rw [r8]
        refine wv_zF_ne f0_696 (by omega) (by omega) ?_
        refine wv_icon f0_699 ?_
        refine wv_s (pc' := 711) f0_700 rfl (fun _ => rfl) ?_
        exact next _ (by rw [if_pos ⟨by rw [r5]; exact congrArg zI (by omega), r8⟩])
/-- 20: sync -/
theorem tn_sy (hk : k < 120) (hL : LI A o qa qm qo qh qt ql nF fo (k) (kn) (kS) (C) (S) (hM) (mk) (bM))
    (hQ : ∀ A' x17 x18 x19 x20, LI A' o qa qm qo qh qt ql nF fo (k + 1) (kn) (kS) (C + 1000) (S + 15000) (hM) (mk) (bM) → Wv sc 16 0 1221 [some (.retAddr 0), some (.ref o), some (.int (zI nF)), some (.ref qo), some (.int (zI 1)), some (.ref qa), some (.ref qm), some (.ref qh), some (.ref qt), some (.int (zI hM)), some (.int (zI mk)), some (.int (zI bM)), some (.ref ql), some (.int (zI k)), some (.int (zI i)), some (.int (zI j)), some (.int (zI what)), x17, x18, x19, x20] [] A' Q) :
    Wv sc 16 0 624 [some (.retAddr 0), some (.ref o), some (.int (zI nF)), some (.ref qo), some (.int (zI 1)), some (.ref qa), some (.ref qm), some (.ref qh), some (.ref qt), some (.int (zI hM)), some (.int (zI mk)), some (.int (zI bM)), some (.ref ql), some (.int (zI k)), some (.int (zI i)), some (.int (zI j)), some (.int (zI what)), x17, x18, x19, x20] [] A Q := by
  obtain ⟨F, f, w, s, ca, cc, b, fi, y, me, ct, fm, rows, fh, ft, fl, hl, hO, hfm, hR, hG, hM9, hH, hhl, hmk, hB, hbM, hN, hnF, hop, hC, hS⟩ := hL
  obtain ⟨n1, n2, n3, n4, n5, n6, n7, n8, n9, n10⟩ := hN
  have hm := hO.lm
  have hob := hO.ob
  have hwz : ∀ x, x ∈ w.2.2 → x.z ≤ 3 ∧ x.s ≤ 20 := fun x hx => ⟨(hO.2.2.1 x hx).2.2.2, (hO.2.2.1 x hx).2.2.1⟩
  have hu : lgR true w.2.2 = cntU w.2.2 := lgR_u (fun x hx h1 => (hG.2.2.1 x hx).2.1 (.inl h1))
  have h6 := c6 (sc := sc) (A := A) (p := true) hR hO.lr hwz (by omega)
  rw [hu] at h6
  have hcu : cntU w.2.2 ≤ w.2.2.length := List.length_filter_le _ _
  refine wv_s f0_624 rfl (fun _ => rfl) ?_
  refine wv_s f0_626 rfl (fun _ => rfl) ?_
  refine wv_icon f0_628 ?_
  refine wv_iaload (j := 0) f0_629 (hm) (by first | rfl | omega) (by omega) (by omega) ?_
  rw [hfm]
  refine wv_icon f0_630 ?_
  refine wv_valS f0_631 (by decide) (by simp) (by simp) (by decide +kernel) (h6) (by omega) ?_
  refine wv_st17 f0_634 rfl (fun _ _ => rfl) ?_
  refine wv_s f0_636 rfl (fun _ => rfl) ?_
  refine wv_resV f0_637 (by decide) (by simp) (by simp) (by decide +kernel) hob (by rfl) (by decide +kernel) rfl (Wc.res (c95 hO)) (by omega) (fun v9 A1 hv => ?_)
  obtain ⟨rfl, hO1, hA1⟩ := hv
  have hob1 := hO1.ob
  refine wv_s f0_640 rfl (fun _ => rfl) ?_
  refine wv_cF_ne f0_642 (by omega) (by omega) (by omega) ?_
  refine wv_s f0_645 rfl (fun _ => rfl) ?_
  refine wv_resV f0_646 (by decide) (by simp) (by simp) (by decide +kernel) hob1 (by rfl) (by decide +kernel) rfl (Wc.res (c95 hO1)) (by omega) (fun v9 A2 hv => ?_)
  obtain ⟨rfl, hO2, hA2⟩ := hv
  have e0 : cntU (w.2.2.map synW) = 0 := sy_0
  have hlm : (w.2.2.map synW).length = w.2.2.length := List.length_map ..
  have e00 : cntU ((w.1, w.2.1, w.2.2.map synW) : Ls WrD).2.2 = 0 := e0
  rw [e00]
  refine wv_zF_ne f0_649 (by omega) (by omega) ?_
  refine wv_icon f0_652 ?_
  refine wv_s (pc' := 657) f0_653 rfl (fun _ => rfl) ?_
  refine wv_st4 f0_657 rfl (fun _ _ => rfl) ?_
  refine wv_icon f0_659 ?_
  refine wv_st18 f0_660 rfl (fun _ _ => rfl) ?_
  have emm : (w.2.2.map synW).map synW = w.2.2.map synW := by
    rw [List.map_map]
    refine List.map_congr_left (fun x _ => ?_)
    show synW (synW x) = synW x
    unfold synW
    by_cases h : x.z = 1
    · rw [if_pos h, if_neg (by show ¬ (2 : Nat) = 1; omega)]
    · rw [if_neg h, if_neg h]
  have hO3 : okO A2 F (lwL qm qa fm ((rows.take 0).map syQ ++ rows.drop 0) (KL qo qh qt ql fo fh ft fl)) o f (w.1, w.2.1, w.2.2.map synW) s (ca, cc, []) b fi y me ct := by
    have h9 := hO2
    rw [show (((w.1, w.2.1, w.2.2.map synW) : Ls WrD).2.2.map synW) = w.2.2.map synW from emm] at h9
    exact h9
  refine ty_l (kS9 := A2.2) hR hwz (by omega) hfm (fun A3 x18 hO4 hA3 => ?_) w.2.2.length 0 A2 (by omega) hO3 rfl
  refine wv_s (pc' := 1221) f0_718 rfl (fun _ => rfl) ?_
  have hA : A3.2.1 = A.2.1 ∧ A3.2.2 = A.2.2 := by
    rw [hA3, hA2, hA1]
    exact ⟨rfl, rfl⟩
  have hR4 : RowsOk (rows.map syQ) (w.2.2.map synW) := hR.map (fun r u hu hr => syQ_ok hr (hG.2.2.1 u hu) (hwz u hu).2)
  exact hQ A3 _ _ _ _ ⟨F, f, (w.1, w.2.1, w.2.2.map synW), s, ca, cc, b, fi, y, me, ct, fm, _, fh, ft, fl, hl, hO4, by rw [hfm]; show _ = zI ((w.2.2.map synW).length : Nat); rw [hlm], hR4, hG.sync, hM9.map zo_syn (fun w => sy_m), by show HeldI _ _ (w.2.2.map synW).length _ _ _; rw [hlm]; exact hH, hhl, hmk, by show BkR _ (w.2.2.map synW).length _ _; rw [hlm]; exact hB.mono hR.1 (Kpt.map (fun r j hj => syQ_k hj)) (Nat.le_refl _), hbM, ⟨by show (w.2.2.map synW).length ≤ _; omega, n2, fun m hm => ⟨(n3 m hm).1, by have := (n3 m hm).2; omega⟩, by omega, n5, by omega, by omega, n8, n9, n10⟩, hnF, hop, by omega, by omega⟩
theorem tc_l (hR : RowsOk rows ws) (hz : ∀ x, x ∈ ws → x.z ≤ 3 ∧ x.s ≤ 20) (hl : ws.length ≤ 120) (hfm : fm 0 = zI ws.length) {kS9 : Nat × Nat} {N : Nat} (hN : N ≤ 120)
    (hQ : ∀ A' x18 x19, okO A' F (lwL qm qa fm (rows.map crQ) K) o f w s c b fi y me ct → A'.2 = kS9 → Wv sc 16 0 824 [some (.retAddr 0), some (.ref o), some (.int (zI nF)), some (.ref qo), x4, some (.ref qa), some (.ref qm), some (.ref qh), some (.ref qt), some (.int (zI hM)), some (.int (zI mk)), some (.int (zI bM)), some (.ref ql), some (.int (zI k)), some (.int (zI i)), some (.int (zI j)), some (.int (zI what)), some (.int (zI (N : Nat))), x18, x19, x20] [] A' Q) : ∀ (n i9 p : Nat) (A : gA) (x19 : Option Value), i9 + n = ws.length → p + cntU (ws.drop i9) = N → p ≤ 120 → okO A F (lwL qm qa fm ((rows.take i9).map crQ ++ rows.drop i9) K) o f w s c b fi y me ct → A.2 = kS9 →
    Wv sc 16 0 734 [some (.retAddr 0), some (.ref o), some (.int (zI nF)), some (.ref qo), x4, some (.ref qa), some (.ref qm), some (.ref qh), some (.ref qt), some (.int (zI hM)), some (.int (zI mk)), some (.int (zI bM)), some (.ref ql), some (.int (zI k)), some (.int (zI i)), some (.int (zI j)), some (.int (zI what)), some (.int (zI (p : Nat))), some (.int (zI ((i9 + 1 : Nat) : Int))), x19, x20] [] A Q
  | 0, i9, p, A, x19, hin, hp, hp2, hO, hA => by
    have hm := hO.lm
    have e1 : rows.take i9 = rows := List.take_of_length_le (by rw [hR.1]; omega)
    have e2 : rows.drop i9 = [] := List.drop_of_length_le (by rw [hR.1]; omega)
    have e3 : ws.drop i9 = [] := List.drop_of_length_le (by omega)
    rw [e1, e2, List.append_nil] at hO
    rw [e3] at hp
    obtain rfl : p = N := hp
    refine wv_s f0_734 rfl (fun _ => rfl) ?_
    refine wv_s f0_736 rfl (fun _ => rfl) ?_
    refine wv_icon f0_738 ?_
    refine wv_iaload (j := 0) f0_739 (hm) (by first | rfl | omega) (by omega) (by omega) ?_
    rw [hfm]
    refine wv_cT_gt f0_740 (by omega) (by omega) (by omega) ?_
    exact hQ A _ _ hO hA
  | n + 1, i9, p, A, x19, hin, hp, hp2, hO, hA => by
    obtain ⟨r, hrm, hr, -, hd, ht⟩ := at_i (l := rows) (i := i9) (by rw [hR.1]; omega)
    obtain ⟨u, hum, hu, -, hdu, -⟩ := at_i (l := ws) (i := i9) (by omega)
    have hrw := hR.2 i9 r u hr hu
    obtain ⟨hz1, hz2⟩ := hz u hum
    have hcr := (crQ_ok hrw hz1).2
    rw [hdu, cntU_cons] at hp
    have hcl : cntU (ws.drop (i9 + 1)) ≤ ws.length := Nat.le_trans (List.length_filter_le _ _) (by rw [List.length_drop]; omega)
    have hpl : p ≤ i9 ∨ 0 ≤ p := .inr (Nat.zero_le _)
    rw [hd] at hO
    have hm := hO.lm
    have hI1 := hO.lr.1
    have hq := hO.lr.2 r (List.mem_append_right _ (List.mem_cons_self ..))
    have hrf : va_rf (allG ((rows.take i9).map crQ ++ r :: rows.drop (i9 + 1)) (i9 + 1)) = .ref r.1 := rf_mid (by rw [List.length_map, List.length_take, hR.1]; omega)
    have fin : ∀ (X : Int32) (p' : Nat) (x19 : Option Value), X = (if r.2 8 = zI 0 ∧ r.2 6 = zI 0 ∧ r.2 7 = zI 0 then zI 1 else r.2 8) → p' + cntU (ws.drop (i9 + 1)) = N → p' ≤ 120 → Wv sc 16 0 817 [some (.retAddr 0), some (.ref o), some (.int (zI nF)), some (.ref qo), x4, some (.ref qa), some (.ref qm), some (.ref qh), some (.ref qt), some (.int (zI hM)), some (.int (zI mk)), some (.int (zI bM)), some (.ref ql), some (.int (zI k)), some (.int (zI i)), some (.int (zI j)), some (.int (zI what)), some (.int (zI (p' : Nat))), some (.int (zI ((i9 + 1 : Nat) : Int))), x19, x20] [.int X, .int (zI 8), .ref r.1] A Q := by
      intro X p' x19 hX hp' hp9
      refine wv_iastore (j := 8) f0_817 (hq) (by first | rfl | omega) (by omega) (by omega) ?_
      refine wv_inc18 f0_818 ?_
      refine wv_s (pc' := 734) f0_821 rfl (fun _ => rfl) ?_
      refine tc_l hR hz hl hfm hN hQ n (i9 + 1) p' _ _ (by omega) hp' hp9 ?_ hA
      have h9 := okO.setRow (fn := upd r.2 8 X) hO
      rw [hX] at h9 ⊢
      rw [ht, List.map_append, List.append_assoc]
      exact h9
    have yes : (r.2 8 = zI 0 ∧ r.2 6 = zI 0 ∧ r.2 7 = zI 0) → Wv sc 16 0 776 [some (.retAddr 0), some (.ref o), some (.int (zI nF)), some (.ref qo), x4, some (.ref qa), some (.ref qm), some (.ref qh), some (.ref qt), some (.int (zI hM)), some (.int (zI mk)), some (.int (zI bM)), some (.ref ql), some (.int (zI k)), some (.int (zI i)), some (.int (zI j)), some (.int (zI what)), some (.int (zI (p : Nat))), some (.int (zI ((i9 + 1 : Nat) : Int))), x19, x20] [] A Q := by
      intro h
      rw [if_pos (hcr.mp h)] at hp
      refine wv_icon f0_776 ?_
      refine wv_s (pc' := 781) f0_777 rfl (fun _ => rfl) ?_
      refine wv_st19 f0_781 rfl (fun _ _ => rfl) ?_
      refine wv_s f0_783 rfl (fun _ => rfl) ?_
      refine wv_s f0_785 rfl (fun _ => rfl) ?_
      refine wv_valS f0_787 (by decide) (by simp) (by simp) (by decide +kernel) (c7 (p := true)) (by omega) ?_
      refine wv_iadd f0_790 ?_
      refine wv_st17 f0_791 rfl (fun _ _ => rfl) ?_
      refine wv_s f0_793 rfl (fun _ => rfl) ?_
      refine wv_s f0_795 rfl (fun _ => rfl) ?_
      refine wv_aaload (j := i9 + 1) f0_797 (by assumption) (by rfl) (by first | rfl | omega) (by omega) (by omega) (hrf) ?_
      refine wv_bip f0_798 (by decide) ?_
      refine wv_s f0_800 rfl (fun _ => rfl) ?_
      refine wv_zF_eq f0_802 (by omega) (by omega) ?_
      refine wv_icon f0_805 ?_
      refine wv_s (pc' := 817) f0_806 rfl (fun _ => rfl) ?_
      rw [show (p : Int) + (if true = true then 1 else 0) = ((p + 1 : Nat) : Int) by rw [if_pos rfl]; omega]
      exact fin _ (p + 1) _ (by rw [if_pos h]) (by omega) (by omega)
    have no : ¬ (r.2 8 = zI 0 ∧ r.2 6 = zI 0 ∧ r.2 7 = zI 0) → Wv sc 16 0 780 [some (.retAddr 0), some (.ref o), some (.int (zI nF)), some (.ref qo), x4, some (.ref qa), some (.ref qm), some (.ref qh), some (.ref qt), some (.int (zI hM)), some (.int (zI mk)), some (.int (zI bM)), some (.ref ql), some (.int (zI k)), some (.int (zI i)), some (.int (zI j)), some (.int (zI what)), some (.int (zI (p : Nat))), some (.int (zI ((i9 + 1 : Nat) : Int))), x19, x20] [] A Q := by
      intro h
      rw [if_neg (fun q => h (hcr.mpr q))] at hp
      refine wv_icon f0_780 ?_
      refine wv_st19 f0_781 rfl (fun _ _ => rfl) ?_
      refine wv_s f0_783 rfl (fun _ => rfl) ?_
      refine wv_s f0_785 rfl (fun _ => rfl) ?_
      refine wv_valS f0_787 (by decide) (by simp) (by simp) (by decide +kernel) (c7 (p := false)) (by omega) ?_
      refine wv_iadd f0_790 ?_
      refine wv_st17 f0_791 rfl (fun _ _ => rfl) ?_
      refine wv_s f0_793 rfl (fun _ => rfl) ?_
      refine wv_s f0_795 rfl (fun _ => rfl) ?_
      refine wv_aaload (j := i9 + 1) f0_797 (by assumption) (by rfl) (by first | rfl | omega) (by omega) (by omega) (hrf) ?_
      refine wv_bip f0_798 (by decide) ?_
      refine wv_s f0_800 rfl (fun _ => rfl) ?_
      refine wv_zT_eq f0_802 (by omega) (by omega) ?_
      refine wv_s f0_809 rfl (fun _ => rfl) ?_
      refine wv_s f0_811 rfl (fun _ => rfl) ?_
      refine wv_aaload (j := i9 + 1) f0_813 (by assumption) (by rfl) (by first | rfl | omega) (by omega) (by omega) (hrf) ?_
      refine wv_bip f0_814 (by decide) ?_
      refine wv_iaload (j := 8) f0_816 (hq) (by first | rfl | omega) (by omega) (by omega) ?_
      rw [show (p : Int) + (if false = true then 1 else 0) = ((p : Nat) : Int) by rw [if_neg (by decide)]; omega]
      exact fin _ p _ (by rw [if_neg h]) (by omega) hp2
    obtain ⟨e6, e7, a1, a2, r6, r7, a3, a4, a5, a6⟩ := hrw.m hz1
    have r8 := hrw.2.2.2.2.2.2.2.2.1
    have z10 : ∀ e : Nat, e ≤ 1 → zI e = zI 0 → e = 0 := fun e he h => zI_inj2 (b := 0) (by omega) (by omega) h
    refine wv_s f0_734 rfl (fun _ => rfl) ?_
    refine wv_s f0_736 rfl (fun _ => rfl) ?_
    refine wv_icon f0_738 ?_
    refine wv_iaload (j := 0) f0_739 (hm) (by first | rfl | omega) (by omega) (by omega) ?_
    rw [hfm]
    refine wv_cF_gt f0_740 (by omega) (by omega) (by omega) ?_
    refine wv_s f0_743 rfl (fun _ => rfl) ?_
    refine wv_s f0_745 rfl (fun _ => rfl) ?_
    refine wv_aaload (j := i9 + 1) f0_747 (by assumption) (by rfl) (by first | rfl | omega) (by omega) (by omega) (hrf) ?_
    refine wv_bip f0_748 (by decide) ?_
    refine wv_iaload (j := 8) f0_750 (hq) (by first | rfl | omega) (by omega) (by omega) ?_
    by_cases h0 : u.z = 0
    · rw [if_pos h0] at r8
      rw [r8]
      refine wv_zT_ne f0_751 (by omega) (by omega) ?_
      exact no (fun q => absurd (r8.symm.trans q.1) (by decide))
    · rw [if_neg h0] at r8
      rw [r8]
      refine wv_zF_ne f0_751 (by omega) (by omega) ?_
      refine wv_s f0_754 rfl (fun _ => rfl) ?_
      refine wv_s f0_756 rfl (fun _ => rfl) ?_
      refine wv_aaload (j := i9 + 1) f0_758 (by assumption) (by rfl) (by first | rfl | omega) (by omega) (by omega) (hrf) ?_
      refine wv_bip f0_759 (by decide) ?_
      refine wv_iaload (j := 6) f0_761 (hq) (by first | rfl | omega) (by omega) (by omega) ?_
      rw [r6]
      refine wv_zX_ne f0_762 (by omega) (fun hb => ?_) (fun hb => ?_)
      · refine no (fun q => hb ?_)
        have := z10 e6 a1 (r6.symm.trans q.2.1)
        omega
      · refine wv_s f0_765 rfl (fun _ => rfl) ?_
        refine wv_s f0_767 rfl (fun _ => rfl) ?_
        refine wv_aaload (j := i9 + 1) f0_769 (by assumption) (by rfl) (by first | rfl | omega) (by omega) (by omega) (hrf) ?_
        refine wv_bip f0_770 (by decide) ?_
        refine wv_iaload (j := 7) f0_772 (hq) (by first | rfl | omega) (by omega) (by omega) ?_
        rw [r7]
        refine wv_zX_ne f0_773 (by omega) (fun hb2 => ?_) (fun hb2 => ?_)
        · refine no (fun q => hb2 ?_)
          have := z10 e7 a2 (r7.symm.trans q.2.2)
          omega
        · exact yes ⟨r8, by rw [r6]; exact congrArg zI (by omega), by rw [r7]; exact congrArg zI (by omega)⟩
/-- 21: a crash -/
theorem tn_cr (hk : k < 120) (hj : j < nF) (hn3 : nF ≤ 3) (h6 : hM ≤ 6) (hL : LI A o qa qm qo qh qt ql nF fo (k) (kn) (kS) (C) (S) (hM) (mk) (bM))
    (hQ : ∀ A' x17 x18 x19 x20, LI A' o qa qm qo qh qt ql nF fo (k + 1) (kn) (kS) (C + 1000) (S + 15000) (0) (mk) (bM) → Wv sc 16 0 1221 [some (.retAddr 0), some (.ref o), some (.int (zI nF)), some (.ref qo), some (.int (zI 1)), some (.ref qa), some (.ref qm), some (.ref qh), some (.ref qt), some (.int (zI 0)), some (.int (zI mk)), some (.int (zI bM)), some (.ref ql), some (.int (zI k)), some (.int (zI i)), some (.int (zI j)), some (.int (zI what)), x17, x18, x19, x20] [] A' Q) :
    Wv sc 16 0 728 [some (.retAddr 0), some (.ref o), some (.int (zI nF)), some (.ref qo), some (.int (zI 1)), some (.ref qa), some (.ref qm), some (.ref qh), some (.ref qt), some (.int (zI hM)), some (.int (zI mk)), some (.int (zI bM)), some (.ref ql), some (.int (zI k)), some (.int (zI i)), some (.int (zI j)), some (.int (zI what)), x17, x18, x19, x20] [] A Q := by
  obtain ⟨F, f, w, s, ca, cc, b, fi, y, me, ct, fm, rows, fh, ft, fl, hl, hO, hfm, hR, hG, hM9, hH, hhl, hmk, hB, hbM, hN, hnF, hop, hC, hS⟩ := hL
  obtain ⟨n1, n2, n3, n4, n5, n6, n7, n8, n9, n10⟩ := hN
  have hwz : ∀ x, x ∈ w.2.2 → x.z ≤ 3 ∧ x.s ≤ 20 := fun x hx => ⟨(hO.2.2.1 x hx).2.2.2, (hO.2.2.1 x hx).2.2.1⟩
  have hcu : cntU w.2.2 ≤ w.2.2.length := List.length_filter_le _ _
  refine wv_icon f0_728 ?_
  refine wv_st17 f0_729 rfl (fun _ _ => rfl) ?_
  refine wv_icon f0_731 ?_
  refine wv_st18 f0_732 rfl (fun _ _ => rfl) ?_
  refine tc_l (kS9 := A.2) (N := cntU w.2.2) hR hwz (by omega) hfm (by omega) (fun A1 x18 x19 hO1 hA1 => ?_) w.2.2.length 0 0 A _ (by omega) (by rw [List.drop_zero]; omega) (by omega) (by rw [List.take_zero, List.drop_zero]; exact hO) rfl
  have hob1 := hO1.ob
  refine wv_s f0_824 rfl (fun _ => rfl) ?_
  refine wv_resV f0_825 (by decide) (by simp) (by simp) (by decide +kernel) hob1 (by rfl) (by decide +kernel) rfl (Wc.res (c34 hO1)) (by omega) (fun v9 A2 hv => ?_)
  obtain ⟨rfl, hO2, hA2⟩ := hv
  have hob2 := hO2.ob
  have hlm : (w.2.2.map crW).length = w.2.2.length := List.length_map ..
  have hR4 : RowsOk (rows.map crQ) (w.2.2.map crW) := hR.map (fun r u hu hr => (crQ_ok hr (hwz u hu).1).1)
  have hA : A2.2.1 = A.2.1 ∧ A2.2.2 = A.2.2 := by
    rw [hA2, hA1]
    exact ⟨rfl, rfl⟩
  have fin : ∀ A3 : gA, okO A3 F (lwL qm qa fm (rows.map crQ) (KL qo qh qt ql fo fh ft fl)) o f (w.1, w.2.1, w.2.2.map crW) (s.1, s.2.1, []) (ca, cc, []) b fi y none ct → A3.2.1 ≤ A.2.1 + 1 → A3.2.2 ≤ A.2.2 + 6 → LI A3 o qa qm qo qh qt ql nF fo (k + 1) (kn) (kS) (C + 1000) (S + 15000) (0) (mk) (bM) := by
    intro A3 hO3 hC3 hS3
    exact ⟨F, f, (w.1, w.2.1, w.2.2.map crW), (s.1, s.2.1, []), ca, cc, b, fi, y, none, ct, fm, _, fh, ft, fl, [], hO3, by rw [hfm]; show _ = zI ((w.2.2.map crW).length : Nat); rw [hlm], hR4, hG.crash, hM9.map zo_cr (fun w => cr_z.2.1), HeldI.nil, rfl, hmk, by show BkR _ (w.2.2.map crW).length _ _; rw [hlm]; exact hB.mono hR.1 (Kpt.map (fun r j hj => crQ_k hj)) (Nat.le_refl _), hbM, ⟨by show (w.2.2.map crW).length ≤ _; omega, n2, fun m hm => (by cases hm), by omega, n5, by omega, by omega, n8, n9, n10⟩, hnF, hop, by omega, by omega⟩
  refine wv_s f0_828 rfl (fun _ => rfl) ?_
  refine wv_cF_ne f0_830 (by omega) (by omega) (by omega) ?_
  refine wv_s f0_833 rfl (fun _ => rfl) ?_
  refine wv_valV f0_834 (by decide) (by simp) (by simp) (by decide +kernel) (hob2) (by rfl) (by decide +kernel) rfl (c61 hO2) (by omega) ?_
  refine wv_nF f0_837 (rfl) ?_
  refine wv_s f0_840 rfl (fun _ => rfl) ?_
  refine wv_zX_eq f0_842 (by omega) (fun hb => ?_) (fun hb => ?_)
  · refine wv_icon f0_863 ?_
    refine wv_s (pc' := 868) f0_864 rfl (fun _ => rfl) ?_
    refine wv_st4 f0_868 rfl (fun _ _ => rfl) ?_
    refine wv_icon f0_870 ?_
    refine wv_st9 f0_871 rfl (fun _ _ => rfl) ?_
    refine wv_s (pc' := 1221) f0_873 rfl (fun _ => rfl) ?_
    exact hQ A2 _ _ _ _ (fin A2 hO2 (by omega) (by omega))
  · obtain ⟨p, hp⟩ : ∃ p, hl[0]? = some p := ⟨_, List.getElem?_eq_getElem (by omega)⟩
    have hfp := hH.2.1 0 p hp
    obtain ⟨x, hx, hxp⟩ := List.mem_map.mp (hH.2.2.1.mem_iff.mp (List.mem_of_getElem? hp))
    have hxi : x.i = p.1 := congrArg Prod.fst hxp
    have hxl := hH.2.2.2.2 x hx
    have hh2 : A2.1 qh = some (vN .int 40 fh) := hO2.lk (p := (qh, vN .int 40 fh)) (by simp [KL])
    obtain ⟨g, hgi⟩ : ∃ g, f.2.2[j]? = some g := ⟨_, List.getElem?_eq_getElem (by omega)⟩
    have a0 : Wc sc 12 8 [.ref o, .int (zI 0), .int (zI j), .int (zI 0), .int (zI (p.1 : Nat)), .int (zI 0)] A2 (fun v A' => v = .inl (some (.int (zI (-2000001)))) ∧ A' = aThr A2) :=
      c8_w (c15_0 hob2 rfl (c55_t (x := 0) hO2 hgi (c76_t hO2 (by omega) (by omega) rfl)) (fun v A' hv => .inr ⟨0, hv.1⟩) (d := 11) (by omega)) (fun v A' hv => .inr ⟨0, hv.1⟩) (by omega) (fun v A' hv => ⟨by rw [hv.1]; rfl, hv.2⟩) (fun A' hv => by cases hv.1)
    refine wv_s f0_845 rfl (fun _ => rfl) ?_
    refine wv_icon f0_846 ?_
    refine wv_s f0_847 rfl (fun _ => rfl) ?_
    refine wv_icon f0_849 ?_
    refine wv_s f0_850 rfl (fun _ => rfl) ?_
    refine wv_icon f0_852 ?_
    refine wv_iaload (j := 0) f0_853 (hh2) (by first | rfl | omega) (by omega) (by omega) ?_
    rw [hfp.1]
    refine wv_icon f0_854 ?_
    refine wv_resS f0_855 (by decide) (by simp) (by simp) (by decide +kernel) (Wc.res a0) (by omega) (fun v9 A3 hv => ?_)
    obtain ⟨rfl, rfl⟩ := hv
    refine wv_ldcI (k := -2000001) f0_858 (by decide) ?_
    refine wv_cF_ne f0_860 (by omega) (by omega) (by omega) ?_
    refine wv_icon f0_863 ?_
    refine wv_s (pc' := 868) f0_864 rfl (fun _ => rfl) ?_
    refine wv_st4 f0_868 rfl (fun _ _ => rfl) ?_
    refine wv_icon f0_870 ?_
    refine wv_st9 f0_871 rfl (fun _ _ => rfl) ?_
    refine wv_s (pc' := 1221) f0_873 rfl (fun _ => rfl) ?_
    exact hQ (aThr A2) _ _ _ _ (fin (aThr A2) hO2.thr (by show A2.2.1 + 1 ≤ _; omega) (by show A2.2.2 + 6 ≤ _; omega))
end TY
