/-! BACKUP, RESTORE -/
def sfX (r : LrD) : Int32 := if r.2 8 = zI 0 ∧ (r.2 6 = zI 1 ∨ r.2 7 = zI 1) then zI 0 else zI 1
def bkQ (β : Nat) (r : LrD) : LrD := (r.1, upd (upd r.2 (10 + 3 * β) (r.2 6)) (12 + 3 * β) (sfX r))
theorem bkQ_ne {β j : Nat} {r : LrD} (h1 : j ≠ 10 + 3 * β) (h2 : j ≠ 12 + 3 * β) : (bkQ β r).2 j = r.2 j := (upd_ne h2).trans (upd_ne h1)
theorem bkQ_x {β : Nat} {r : LrD} : (bkQ β r).2 (10 + 3 * β) = r.2 6 := (upd_ne (show 10 + 3 * β ≠ 12 + 3 * β by omega)).trans upd_self
theorem bkQ_y {β : Nat} {r : LrD} : (bkQ β r).2 (12 + 3 * β) = sfX r := upd_self
theorem bkQ_ok {β : Nat} {w : WrD} {r : LrD} (h : LwR w r.2) : LwR w (bkQ β r).2 := by
  obtain ⟨r0, r1, r2, r3, r4, r5, r6, r7, r8, a1, a2, a3, a4⟩ := h
  have u : ∀ k : Nat, k < 9 → (bkQ β r).2 k = r.2 k := fun k hk => bkQ_ne (by omega) (by omega)
  unfold LwR
  rw [u 0 (by omega), u 1 (by omega), u 2 (by omega), u 3 (by omega), u 4 (by omega), u 5 (by omega), u 6 (by omega), u 7 (by omega), u 8 (by omega)]
  exact ⟨r0, r1, r2, r3, r4, r5, r6, r7, r8, a1, a2, a3, a4⟩
/-- what is saved says what the write would be -/
theorem sv_bk {w : WrD} {r : LrD} (h : LwR w r.2) (hz : w.z ≤ 3) : SvR (if w.z = 1 then 0 else w.z) (r.2 6) (sfX r) := by
  obtain ⟨r0, r1, r2, r3, r4, r5, r6, r7, r8, a1, a2, a3, a4⟩ := h
  refine ⟨r6, ?_⟩
  have n10 : ¬ zI 1 = zI 0 := by decide
  have n01 : ¬ zI 0 = zI 1 := by decide
  by_cases h1 : w.z = 1
  · rw [if_pos h1]
    refine .inl ⟨rfl, if_neg (fun q => ?_)⟩
    rcases q.2 with q | q
    · exact n01 ((a2 (.inl h1)).symm.trans q)
    · exact n01 ((a3 h1).symm.trans q)
  · rw [if_neg h1]
    by_cases h0 : w.z = 0
    · refine .inl ⟨h0, if_neg (fun q => ?_)⟩
      rw [if_pos h0] at r8
      exact n10 (r8.symm.trans q.1)
    · rw [if_neg h0] at r8
      by_cases h2 : w.z = 2
      · exact .inr (.inl ⟨h2, if_pos ⟨r8, .inr (a4 h2)⟩, a2 (.inr h2)⟩)
      · have h3 : w.z = 3 := by omega
        exact .inr (.inr ⟨h3, if_pos ⟨r8, .inl (a1 h3)⟩, a1 h3⟩)
def rsF (β : Nat) (p : Bool) (fn : Nat → Int32) : Nat → Int32 := upd (upd (upd fn 8 (if p = true then zI 1 else fn (12 + 3 * β))) 6 (if p = true then zI 1 else fn (10 + 3 * β))) 7 (zI 1)
theorem rsF_k {β : Nat} {p : Bool} {fn : Nat → Int32} {j : Nat} (hj : j ≠ 6 ∧ j ≠ 7 ∧ j ≠ 8) : rsF β p fn j = fn j := (upd_ne hj.2.1).trans ((upd_ne hj.1).trans (upd_ne hj.2.2))
theorem rsF_ok {β t : Nat} {p : Bool} {w : WrD} {fn : Nat → Int32} (h : LwR w fn) (hp : p = true → t = 0) (hn : p = false → SvR t (fn (10 + 3 * β)) (fn (12 + 3 * β))) : LwR (w.a, w.g, w.c, w.s, t) (rsF β p fn) := by
  obtain ⟨r0, r1, r2, r3, r4, r5, r6, r7, r8, a1, a2, a3, a4⟩ := h
  have u : ∀ k : Nat, k < 6 → rsF β p fn k = fn k := fun k hk => rsF_k (by omega)
  have u8 : rsF β p fn 8 = if p = true then zI 1 else fn (12 + 3 * β) := (upd_ne (show (8 : Nat) ≠ 7 by omega)).trans ((upd_ne (show (8 : Nat) ≠ 6 by omega)).trans upd_self)
  have u6 : rsF β p fn 6 = if p = true then zI 1 else fn (10 + 3 * β) := (upd_ne (show (6 : Nat) ≠ 7 by omega)).trans upd_self
  have u7 : rsF β p fn 7 = zI 1 := upd_self
  unfold LwR
  rw [u 0 (by omega), u 1 (by omega), u 2 (by omega), u 3 (by omega), u 4 (by omega), u 5 (by omega), u6, u7, u8]
  cases p with
  | true =>
    have ht := hp rfl
    subst ht
    refine ⟨r0, r1, r2, r3, r4, r5, .inr rfl, .inr rfl, rfl, fun _ => rfl, fun q => ?_, fun q => ?_, fun _ => rfl⟩
    · have q' : (0 : Nat) = 1 ∨ (0 : Nat) = 2 := q
      omega
    · have q' : (0 : Nat) = 1 := q
      omega
  | false =>
    obtain ⟨h1, h2⟩ := hn rfl
    refine ⟨r0, r1, r2, r3, r4, r5, h1, .inr rfl, ?_, fun q => ?_, fun q => ?_, fun q => ?_, fun _ => rfl⟩
    · rcases h2 with ⟨rfl, h3⟩ | ⟨rfl, h3, -⟩ | ⟨rfl, h3, -⟩
      · exact h3
      · exact h3
      · exact h3
    · have q' : t = 3 := q
      rcases h2 with ⟨h4, h3⟩ | ⟨h4, h3, -⟩ | ⟨h4, h3, h5⟩
      · omega
      · omega
      · exact h5
    · have q' : t = 1 ∨ t = 2 := q
      rcases h2 with ⟨h4, h3⟩ | ⟨h4, h3, h5⟩ | ⟨h4, h3, h5⟩
      · omega
      · exact h5
      · omega
    · have q' : t = 1 := q
      rcases h2 with ⟨h4, h3⟩ | ⟨h4, h3, h5⟩ | ⟨h4, h3, h5⟩ <;> omega
section TB
variable {sc : gSc} {d : Nat} {A A0 : gA} {Q : gO → gA → Prop} {o qa qm qo qh qt ql nF hM mk bM i j k what C S kS kn : Nat} {fo fm : Nat → Int32} {x17 x18 x19 x20 x4 : Option Value} {F : Nat → Option vC} {f : Ls FamD} {w : Ls WrD} {s : Ls SnD} {c : Ls CuD} {b : Ls BkD} {fi : Nat × FiD} {y : Ls ChD} {me : Option MeD} {ct : CtD} {rows : List LrD} {K : List (Nat × vC)} {ws : List WrD} {β : Nat}
theorem tb_l (hR : RowsOk rows ws) (hz : ∀ x, x ∈ ws → x.z ≤ 3 ∧ x.s ≤ 20) (hl : ws.length ≤ 120) (hfm : fm 0 = zI ws.length) (hβ : β ≤ 2) {kS9 : Nat × Nat}
    (hQ : ∀ A' x18 x19, okO A' F (lwL qm qa fm (rows.map (bkQ β)) K) o f w s c b fi y me ct → A'.2 = kS9 → Wv sc 16 0 1039 [some (.retAddr 0), some (.ref o), some (.int (zI nF)), some (.ref qo), x4, some (.ref qa), some (.ref qm), some (.ref qh), some (.ref qt), some (.int (zI hM)), some (.int (zI mk)), some (.int (zI bM)), some (.ref ql), some (.int (zI k)), some (.int (zI i)), some (.int (zI j)), some (.int (zI what)), some (.int (zI β)), x18, x19, x20] [] A' Q) : ∀ (n i9 : Nat) (A : gA) (x19 : Option Value), i9 + n = ws.length → okO A F (lwL qm qa fm ((rows.take i9).map (bkQ β) ++ rows.drop i9) K) o f w s c b fi y me ct → A.2 = kS9 →
    Wv sc 16 0 938 [some (.retAddr 0), some (.ref o), some (.int (zI nF)), some (.ref qo), x4, some (.ref qa), some (.ref qm), some (.ref qh), some (.ref qt), some (.int (zI hM)), some (.int (zI mk)), some (.int (zI bM)), some (.ref ql), some (.int (zI k)), some (.int (zI i)), some (.int (zI j)), some (.int (zI what)), some (.int (zI β)), some (.int (zI ((i9 + 1 : Nat) : Int))), x19, x20] [] A Q
  | 0, i9, A, x19, hin, hO, hA => by
    have hm := hO.lm
    have e1 : rows.take i9 = rows := List.take_of_length_le (by rw [hR.1]; omega)
    have e2 : rows.drop i9 = [] := List.drop_of_length_le (by rw [hR.1]; omega)
    rw [e1, e2, List.append_nil] at hO
    refine wv_s f0_938 rfl (fun _ => rfl) ?_
    refine wv_s f0_940 rfl (fun _ => rfl) ?_
    refine wv_icon f0_942 ?_
    refine wv_iaload (j := 0) f0_943 (hm) (by first | rfl | omega) (by omega) (by omega) ?_
    rw [hfm]
    refine wv_cT_gt f0_944 (by omega) (by omega) (by omega) ?_
    exact hQ A _ _ hO hA
  | n + 1, i9, A, x19, hin, hO, hA => by
    obtain ⟨r, hrm, hr, -, hd, ht⟩ := at_i (l := rows) (i := i9) (by rw [hR.1]; omega)
    obtain ⟨u, hum, hu, -, -, -⟩ := at_i (l := ws) (i := i9) (by omega)
    have hrw := hR.2 i9 r u hr hu
    obtain ⟨hz1, hz2⟩ := hz u hum
    rw [hd] at hO
    have hm := hO.lm
    have hI1 := hO.lr.1
    have hq := hO.lr.2 r (List.mem_append_right _ (List.mem_cons_self ..))
    have hrf : va_rf (allG ((rows.take i9).map (bkQ β) ++ r :: rows.drop (i9 + 1)) (i9 + 1)) = .ref r.1 := rf_mid (by rw [List.length_map, List.length_take, hR.1]; omega)
    have ex : (10 : Int) + 3 * (β : Int) = ((10 + 3 * β : Nat) : Int) := by omega
    have ey : (12 : Int) + 3 * (β : Int) = ((12 + 3 * β : Nat) : Int) := by omega
    have main : ∀ p : Bool, sfX r = (if p = true then zI 0 else zI 1) → Wv sc 16 0 987 [some (.retAddr 0), some (.ref o), some (.int (zI nF)), some (.ref qo), x4, some (.ref qa), some (.ref qm), some (.ref qh), some (.ref qt), some (.int (zI hM)), some (.int (zI mk)), some (.int (zI bM)), some (.ref ql), some (.int (zI k)), some (.int (zI i)), some (.int (zI j)), some (.int (zI what)), some (.int (zI β)), some (.int (zI ((i9 + 1 : Nat) : Int))), x19, x20] [.int (bI p)] A Q := by
      intro p hp
      refine wv_st19 f0_987 rfl (fun _ _ => rfl) ?_
      refine wv_s f0_989 rfl (fun _ => rfl) ?_
      refine wv_s f0_991 rfl (fun _ => rfl) ?_
      refine wv_aaload (j := i9 + 1) f0_993 (by assumption) (by rfl) (by first | rfl | omega) (by omega) (by omega) (hrf) ?_
      refine wv_bip f0_994 (by decide) ?_
      refine wv_icon f0_996 ?_
      refine wv_s f0_997 rfl (fun _ => rfl) ?_
      refine wv_imul f0_999 ?_
      refine wv_iadd f0_1000 ?_
      rw [ex]
      refine wv_s f0_1001 rfl (fun _ => rfl) ?_
      refine wv_s f0_1003 rfl (fun _ => rfl) ?_
      refine wv_aaload (j := i9 + 1) f0_1005 (by assumption) (by rfl) (by first | rfl | omega) (by omega) (by omega) (hrf) ?_
      refine wv_bip f0_1006 (by decide) ?_
      refine wv_iaload (j := 6) f0_1008 (hq) (by first | rfl | omega) (by omega) (by omega) ?_
      refine wv_iastore (j := 10 + 3 * β) f0_1009 (hq) (by first | rfl | omega) (by omega) (by omega) ?_
      have hO1 := okO.setRow (fn := upd r.2 (10 + 3 * β) (r.2 6)) hO
      have hI2 := hO1.lr.1
      have hq2 := hO1.lr.2 (r.1, upd r.2 (10 + 3 * β) (r.2 6)) (List.mem_append_right _ (List.mem_cons_self ..))
      have hrf2 : va_rf (allG ((rows.take i9).map (bkQ β) ++ (r.1, upd r.2 (10 + 3 * β) (r.2 6)) :: rows.drop (i9 + 1)) (i9 + 1)) = .ref r.1 := rf_mid (by rw [List.length_map, List.length_take, hR.1]; omega)
      have fin : ∀ X : Int32, X = sfX r → Wv sc 16 0 1032 [some (.retAddr 0), some (.ref o), some (.int (zI nF)), some (.ref qo), x4, some (.ref qa), some (.ref qm), some (.ref qh), some (.ref qt), some (.int (zI hM)), some (.int (zI mk)), some (.int (zI bM)), some (.ref ql), some (.int (zI k)), some (.int (zI i)), some (.int (zI j)), some (.int (zI what)), some (.int (zI β)), some (.int (zI ((i9 + 1 : Nat) : Int))), some (.int (bI p)), x20] [.int X, .int (zI ((12 + 3 * β : Nat) : Int)), .ref r.1] (aPut A r.1 (vN .int 20 (upd r.2 (10 + 3 * β) (r.2 6)))) Q := by
        intro X hX
        refine wv_iastore (j := 12 + 3 * β) f0_1032 (hq2) (by first | rfl | omega) (by omega) (by omega) ?_
        refine wv_inc18 f0_1033 ?_
        refine wv_s (pc' := 938) f0_1036 rfl (fun _ => rfl) ?_
        refine tb_l hR hz hl hfm hβ hQ n (i9 + 1) _ _ (by omega) ?_ hA
        have h9 := okO.setRow (fn := upd (upd r.2 (10 + 3 * β) (r.2 6)) (12 + 3 * β) X) hO1
        rw [hX] at h9 ⊢
        rw [ht, List.map_append, List.append_assoc]
        exact h9
      refine wv_s f0_1010 rfl (fun _ => rfl) ?_
      refine wv_s f0_1012 rfl (fun _ => rfl) ?_
      refine wv_aaload (j := i9 + 1) f0_1014 (by assumption) (by rfl) (by first | rfl | omega) (by omega) (by omega) (hrf2) ?_
      refine wv_bip f0_1015 (by decide) ?_
      refine wv_icon f0_1017 ?_
      refine wv_s f0_1018 rfl (fun _ => rfl) ?_
      refine wv_imul f0_1020 ?_
      refine wv_iadd f0_1021 ?_
      rw [ey]
      cases p with
      | true =>
        refine wv_s f0_1022 rfl (fun _ => rfl) ?_
        refine wv_bF f0_1024 (rfl) ?_
        refine wv_icon f0_1027 ?_
        refine wv_s (pc' := 1032) f0_1028 rfl (fun _ => rfl) ?_
        exact fin _ (by rw [hp]; rfl)
      | false =>
        refine wv_s f0_1022 rfl (fun _ => rfl) ?_
        refine wv_bT f0_1024 (rfl) ?_
        refine wv_icon f0_1031 ?_
        exact fin _ (by rw [hp]; rfl)
    obtain ⟨e6, e7, a1, a2, r6, r7, a3, a4, a5, a6⟩ := hrw.m hz1
    have r8 := hrw.2.2.2.2.2.2.2.2.1
    have z10 : ∀ e : Nat, e ≤ 1 → zI e = zI 1 → e = 1 := fun e he h => zI_inj2 (b := 1) (by omega) (by omega) h
    have yes : sfX r = zI 0 → Wv sc 16 0 982 [some (.retAddr 0), some (.ref o), some (.int (zI nF)), some (.ref qo), x4, some (.ref qa), some (.ref qm), some (.ref qh), some (.ref qt), some (.int (zI hM)), some (.int (zI mk)), some (.int (zI bM)), some (.ref ql), some (.int (zI k)), some (.int (zI i)), some (.int (zI j)), some (.int (zI what)), some (.int (zI β)), some (.int (zI ((i9 + 1 : Nat) : Int))), x19, x20] [] A Q := by
      intro h
      refine wv_icon f0_982 ?_
      refine wv_s (pc' := 987) f0_983 rfl (fun _ => rfl) ?_
      exact main true (by rw [h]; rfl)
    have no : sfX r = zI 1 → Wv sc 16 0 986 [some (.retAddr 0), some (.ref o), some (.int (zI nF)), some (.ref qo), x4, some (.ref qa), some (.ref qm), some (.ref qh), some (.ref qt), some (.int (zI hM)), some (.int (zI mk)), some (.int (zI bM)), some (.ref ql), some (.int (zI k)), some (.int (zI i)), some (.int (zI j)), some (.int (zI what)), some (.int (zI β)), some (.int (zI ((i9 + 1 : Nat) : Int))), x19, x20] [] A Q := by
      intro h
      refine wv_icon f0_986 ?_
      exact main false (by rw [h]; rfl)
    refine wv_s f0_938 rfl (fun _ => rfl) ?_
    refine wv_s f0_940 rfl (fun _ => rfl) ?_
    refine wv_icon f0_942 ?_
    refine wv_iaload (j := 0) f0_943 (hm) (by first | rfl | omega) (by omega) (by omega) ?_
    rw [hfm]
    refine wv_cF_gt f0_944 (by omega) (by omega) (by omega) ?_
    refine wv_s f0_947 rfl (fun _ => rfl) ?_
    refine wv_s f0_949 rfl (fun _ => rfl) ?_
    refine wv_aaload (j := i9 + 1) f0_951 (by assumption) (by rfl) (by first | rfl | omega) (by omega) (by omega) (hrf) ?_
    refine wv_bip f0_952 (by decide) ?_
    refine wv_iaload (j := 8) f0_954 (hq) (by first | rfl | omega) (by omega) (by omega) ?_
    by_cases h0 : u.z = 0
    · rw [if_pos h0] at r8
      rw [r8]
      refine wv_zT_ne f0_955 (by omega) (by omega) ?_
      exact no (if_neg (fun q => absurd (r8.symm.trans q.1) (by decide)))
    · rw [if_neg h0] at r8
      rw [r8]
      refine wv_zF_ne f0_955 (by omega) (by omega) ?_
      refine wv_s f0_958 rfl (fun _ => rfl) ?_
      refine wv_s f0_960 rfl (fun _ => rfl) ?_
      refine wv_aaload (j := i9 + 1) f0_962 (by assumption) (by rfl) (by first | rfl | omega) (by omega) (by omega) (hrf) ?_
      refine wv_bip f0_963 (by decide) ?_
      refine wv_iaload (j := 6) f0_965 (hq) (by first | rfl | omega) (by omega) (by omega) ?_
      refine wv_icon f0_966 ?_
      rw [r6]
      refine wv_cX_eq f0_967 (by omega) (by omega) (fun hb => ?_) (fun hb => ?_)
      · exact yes (if_pos ⟨r8, .inl (by rw [r6]; exact congrArg zI (by omega))⟩)
      · refine wv_s f0_970 rfl (fun _ => rfl) ?_
        refine wv_s f0_972 rfl (fun _ => rfl) ?_
        refine wv_aaload (j := i9 + 1) f0_974 (by assumption) (by rfl) (by first | rfl | omega) (by omega) (by omega) (hrf) ?_
        refine wv_bip f0_975 (by decide) ?_
        refine wv_iaload (j := 7) f0_977 (hq) (by first | rfl | omega) (by omega) (by omega) ?_
        refine wv_icon f0_978 ?_
        rw [r7]
        refine wv_cX_ne f0_979 (by omega) (by omega) (fun hb2 => ?_) (fun hb2 => ?_)
        · refine no (if_neg (fun q => ?_))
          rcases q.2 with q | q
          · have := z10 e6 a1 (r6.symm.trans q)
            omega
          · have := z10 e7 a2 (r7.symm.trans q)
            omega
        · exact yes (if_pos ⟨r8, .inr (by rw [r7]; exact congrArg zI (by omega))⟩)
/-- 22: a backup -/
theorem tn_bk (hk : k < 120) (hn3 : nF ≤ 3) (hL : LI A o qa qm qo qh qt ql nF fo (k) (kn) (kS) (C) (S) (hM) (mk) (bM))
    (hQ : ∀ A' bM x17 x18 x19 x20, bM ≤ 3 → LI A' o qa qm qo qh qt ql nF fo (k + 1) (kn) (kS) (C + 3000) (S + 48000) (hM) (mk) (bM) → Wv sc 16 0 1221 [some (.retAddr 0), some (.ref o), some (.int (zI nF)), some (.ref qo), some (.int (zI 1)), some (.ref qa), some (.ref qm), some (.ref qh), some (.ref qt), some (.int (zI hM)), some (.int (zI mk)), some (.int (zI bM)), some (.ref ql), some (.int (zI k)), some (.int (zI i)), some (.int (zI j)), some (.int (zI what)), x17, x18, x19, x20] [] A' Q) :
    Wv sc 16 0 883 [some (.retAddr 0), some (.ref o), some (.int (zI nF)), some (.ref qo), some (.int (zI 1)), some (.ref qa), some (.ref qm), some (.ref qh), some (.ref qt), some (.int (zI hM)), some (.int (zI mk)), some (.int (zI bM)), some (.ref ql), some (.int (zI k)), some (.int (zI i)), some (.int (zI j)), some (.int (zI what)), x17, x18, x19, x20] [] A Q := by
  obtain ⟨F, f, w, s, ca, cc, b, fi, y, me, ct, fm, rows, fh, ft, fl, hl, hO, hfm, hR, hG, hM9, hH, hhl, hmk, hB, hbM, hN, hnF, hop, hC, hS⟩ := hL
  obtain ⟨n1, n2, n3, n4, n5, n6, n7, n8, n9, n10⟩ := hN
  have hb3 := hB.1
  have hwz : ∀ x, x ∈ w.2.2 → x.z ≤ 3 ∧ x.s ≤ 20 := fun x hx => ⟨(hO.2.2.1 x hx).2.2.2, (hO.2.2.1 x hx).2.2.1⟩
  by_cases h3 : bM = 3
  · have d16 : Wc sc 12 2 [.ref o, .int (zI 16), .int (zI 0), .int (zI 0), .int (zI 0), .int (zI 0), .int (zI 0)] A (fun v A' => ∃ v9, v = .inl (some v9) ∧ (v9 = .int (zI (-2000003)) ∧ A' = aThr A)) :=
      c2_w (c13_16 hO.ob rfl (c23_t hO (by omega)) (fun v A' hv => .inr ⟨_, hv.1⟩) (d := 11) (by omega)) (fun v A' hv => .inr ⟨_, hv.1⟩) (by omega) (fun v A' hv => ⟨_, by rw [hv.1]; rfl, rfl, hv.2⟩)
    refine wv_s f0_883 rfl (fun _ => rfl) ?_
    refine wv_bip f0_884 (by decide) ?_
    refine wv_icon f0_886 ?_
    refine wv_icon f0_887 ?_
    refine wv_icon f0_888 ?_
    refine wv_icon f0_889 ?_
    refine wv_icon f0_890 ?_
    refine wv_resS f0_891 (by decide) (by simp) (by simp) (by decide +kernel) (d16) (by omega) (fun v9 A1 hv => ?_)
    obtain ⟨rfl, rfl⟩ := hv
    refine wv_st17 f0_894 rfl (fun _ _ => rfl) ?_
    refine wv_s f0_896 rfl (fun _ => rfl) ?_
    refine wv_s f0_898 rfl (fun _ => rfl) ?_
    refine wv_icon f0_900 ?_
    refine wv_cF_ne f0_901 (by omega) (by omega) (by omega) ?_
    refine wv_ldcI (k := -2000003) f0_904 (by decide) ?_
    refine wv_s (pc' := 911) f0_906 rfl (fun _ => rfl) ?_
    refine wv_cF_ne f0_911 (by omega) (by omega) (by omega) ?_
    refine wv_icon f0_914 ?_
    refine wv_s (pc' := 919) f0_915 rfl (fun _ => rfl) ?_
    refine wv_st4 f0_919 rfl (fun _ _ => rfl) ?_
    refine wv_s f0_921 rfl (fun _ => rfl) ?_
    refine wv_zT_lt f0_923 (by omega) (by omega) ?_
    refine wv_s (pc' := 1221) f0_1042 rfl (fun _ => rfl) ?_
    exact hQ (aThr A) _ _ _ _ _ (by omega) ⟨F, f, w, s, ca, cc, b, fi, y, me, ct, fm, rows, fh, ft, fl, hl, hO.thr, hfm, hR, hG, hM9, hH, hhl, hmk, hB, hbM, ⟨by omega, n2, fun m hm => ⟨(n3 m hm).1, by have := (n3 m hm).2; omega⟩, by omega, n5, by omega, by omega, n8, n9, n10⟩, hnF, hop, by show A.2.1 + 1 ≤ _; omega, by show A.2.2 + 6 ≤ _; omega⟩
  · have d16 : Wc sc 12 2 [.ref o, .int (zI 16), .int (zI 0), .int (zI 0), .int (zI 0), .int (zI 0), .int (zI 0)] A (fun v A' => ∃ v9, v = .inl (some v9) ∧ (v9 = .int (zI b.2.2.length) ∧ ∃ bk F' c', Ext F F' ∧ bk.fams.map FamD.dat = f.2.2.map FamD.dat ∧ bk.sts = stB w.2.2 ∧ okO A' F' (lwL qm qa fm rows (KL qo qh qt ql fo fh ft fl)) o f w s (ca, cc, []) (b.1, c', b.2.2 ++ [bk]) fi y me ct ∧ 5 * A'.2.1 ≤ 5 * A.2.1 + 50 + 3 * (90 + 8 * 480) ∧ A'.2.2 ≤ A.2.2 + 140 + 3 * (187 + 32 * 480) + w.2.2.length)) :=
      c2_w (c13_16 hO.ob rfl (c23 (B := 480) hO (by omega) (fun g hg l hl9 => (lv_wt hO hG (by omega) hg hl9).2) (by omega) (by omega)) (fun v A' hv => .inl ⟨_, hv.1⟩) (d := 11) (by omega)) (fun v A' hv => .inl ⟨_, hv.1⟩) (by omega) (fun v A' hv => ⟨_, by rw [hv.1]; rfl, rfl, hv.2⟩)
    refine wv_s f0_883 rfl (fun _ => rfl) ?_
    refine wv_bip f0_884 (by decide) ?_
    refine wv_icon f0_886 ?_
    refine wv_icon f0_887 ?_
    refine wv_icon f0_888 ?_
    refine wv_icon f0_889 ?_
    refine wv_icon f0_890 ?_
    refine wv_resS f0_891 (by decide) (by simp) (by simp) (by decide +kernel) (d16) (by omega) (fun v9 A1 hv => ?_)
    obtain ⟨rfl, bk, F', c', e1, e2, e3, hO1, hC1, hS1⟩ := hv
    rw [hbM]
    have hm1 := hO1.lm
    have hl1 : A1.1 ql = some (vN .int 3 fl) := hO1.lk (p := (ql, vN .int 3 fl)) (by simp [KL])
    refine wv_st17 f0_894 rfl (fun _ _ => rfl) ?_
    refine wv_s f0_896 rfl (fun _ => rfl) ?_
    refine wv_s f0_898 rfl (fun _ => rfl) ?_
    refine wv_icon f0_900 ?_
    refine wv_cT_ne f0_901 (by omega) (by omega) (by omega) ?_
    refine wv_s f0_909 rfl (fun _ => rfl) ?_
    refine wv_cF_ne f0_911 (by omega) (by omega) (by omega) ?_
    refine wv_icon f0_914 ?_
    refine wv_s (pc' := 919) f0_915 rfl (fun _ => rfl) ?_
    refine wv_st4 f0_919 rfl (fun _ _ => rfl) ?_
    refine wv_s f0_921 rfl (fun _ => rfl) ?_
    refine wv_zF_lt f0_923 (by omega) (by omega) ?_
    refine wv_s f0_926 rfl (fun _ => rfl) ?_
    refine wv_s f0_928 rfl (fun _ => rfl) ?_
    refine wv_s f0_930 rfl (fun _ => rfl) ?_
    refine wv_icon f0_932 ?_
    refine wv_iaload (j := 0) f0_933 (hm1) (by first | rfl | omega) (by omega) (by omega) ?_
    rw [hfm]
    refine wv_iastore (j := bM) f0_934 (hl1) (by first | rfl | omega) (by omega) (by omega) ?_
    refine wv_icon f0_935 ?_
    refine wv_st18 f0_936 rfl (fun _ _ => rfl) ?_
    have hO2 : okO (aPut A1 ql (vN .int 3 (upd fl bM (zI w.2.2.length)))) F' (lwL qm qa fm rows (KL qo qh qt ql fo fh ft (upd fl bM (zI w.2.2.length)))) o f w s (ca, cc, []) (b.1, c', b.2.2 ++ [bk]) fi y me ct := okO.setK (K1 := [(qo, vN .char 3 fo), (qh, vN .int 40 fh), (qt, vN .int 40 ft)]) (K2 := []) (q := ql) (c0 := vN .int 3 fl) (c1 := vN .int 3 (upd fl bM (zI w.2.2.length))) hO1
    refine tb_l (β := bM) (kS9 := A1.2) hR hwz (by omega) hfm (by omega) (fun A3 x18 x19 hO3 hA3 => ?_) w.2.2.length 0 _ _ (by omega) (by rw [List.take_zero, List.drop_zero]; exact hO2) rfl
    refine wv_inc11 f0_1039 ?_
    refine wv_s (pc' := 1221) f0_1042 rfl (fun _ => rfl) ?_
    have hlen : stB w.2.2 = bk.sts := e3.symm
    have hsl : bk.sts.length = w.2.2.length := by rw [e3]; exact stB_len
    have hM' : MemI w.2.2 (b.2.2 ++ [bk]) := fun j => by
      refine ⟨(hM9 j).1, fun z hz => ?_⟩
      rcases List.mem_append.mp hz with hz | hz
      · exact (hM9 j).2 z hz
      · rw [List.mem_singleton.mp hz]
        refine ⟨by omega, ?_⟩
        rw [e3, show setSt (stB w.2.2) 0 w.2.2 = w.2.2.map crW from setSt_stB (p := [])]
        refine Nat.lt_of_le_of_lt (cntM_map (fun v hv => ?_)) (hM9 j).1
        have h9 := of_decide_eq_true (show decide _ = true from hv)
        exact decide_eq_true ⟨by rw [← (zo_cr v).2.1]; exact h9.1, cr_z.2.1 h9.2⟩
    have hR3 : RowsOk (rows.map (bkQ bM)) w.2.2 := by
      have h9 := hR.map (φ := bkQ bM) (ψ := id) (fun r u hu hr => bkQ_ok hr)
      rw [List.map_id] at h9
      exact h9
    have hB3 : BkR (b.2.2 ++ [bk]) w.2.2.length (rows.map (bkQ bM)) (upd fl bM (zI w.2.2.length)) := by
      refine ⟨by rw [List.length_append]; show b.2.2.length + 1 ≤ 3; omega, fun β' bk' hb' => ?_⟩
      by_cases hβ : β' < b.2.2.length
      · rw [List.getElem?_append_left hβ] at hb'
        obtain ⟨g1, g2, g3⟩ := hB.2 β' bk' hb'
        refine ⟨by rw [upd_ne (by omega)]; exact g1, g2, fun i9 r hr hi9 => ?_⟩
        rw [List.getElem?_map] at hr
        cases h9 : rows[i9]? with
        | none => rw [h9] at hr; cases hr
        | some r0 =>
          rw [h9] at hr
          cases hr
          rw [bkQ_ne (by omega) (by omega), bkQ_ne (by omega) (by omega)]
          exact g3 i9 r0 h9 hi9
      · have hβ2 := (List.getElem?_eq_some_iff.mp hb').1
        rw [List.length_append] at hβ2
        have hβ3 : β' < b.2.2.length + 1 := hβ2
        obtain rfl : β' = bM := by omega
        rw [List.getElem?_append_right (by omega), show β' - b.2.2.length = 0 by omega] at hb'
        cases hb'
        refine ⟨by rw [upd_self, hsl], by omega, fun i9 r hr hi9 => ?_⟩
        rw [List.getElem?_map] at hr
        cases h9 : rows[i9]? with
        | none => rw [h9] at hr; cases hr
        | some r0 =>
          rw [h9] at hr
          cases hr
          rw [bkQ_x, bkQ_y]
          obtain ⟨u, hum, hu, -, -, -⟩ := at_i (l := w.2.2) (i := i9) (by omega)
          rw [e3, stB_at hu]
          exact sv_bk (hR.2 i9 r0 u h9 hu) (hwz u hum).1
    rw [show (bM : Int) + 1 = ((bM + 1 : Nat) : Int) by omega]
    have hA : A3.2.1 = A1.2.1 ∧ A3.2.2 = A1.2.2 := by rw [hA3]; exact ⟨rfl, rfl⟩
    exact hQ A3 (bM + 1) _ _ _ _ (by omega) ⟨F', f, w, s, ca, cc, (b.1, c', b.2.2 ++ [bk]), fi, y, me, ct, fm, _, fh, ft, _, hl, hO3, hfm, hR3, hG.backup e3 e2, hM', hH, hhl, hmk, hB3, by show (b.2.2 ++ [bk]).length = _; rw [List.length_append]; show b.2.2.length + 1 = _; omega, ⟨by omega, n2, fun m hm => ⟨(n3 m hm).1, by have := (n3 m hm).2; omega⟩, by omega, n5, by omega, by omega, n8, n9, n10⟩, hnF, hop, by omega, by omega⟩
end TB
