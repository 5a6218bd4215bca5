/-! RESTORE -/
def rsXL (β L : Nat) : Nat → List LrD → List LrD
  | _, [] => []
  | i, r :: l => (r.1, rsF β (decide (L ≤ i)) r.2) :: rsXL β L (i + 1) l
theorem rsXL_snoc {β L : Nat} {r : LrD} : ∀ {l : List LrD} {i : Nat}, rsXL β L i (l ++ [r]) = rsXL β L i l ++ [(r.1, rsF β (decide (L ≤ i + l.length)) r.2)]
  | [], i => rfl
  | x :: l, i => by
    have ih := @rsXL_snoc β L r l (i + 1)
    show _ :: rsXL β L (i + 1) (l ++ [r]) = _ :: (rsXL β L (i + 1) l ++ _)
    rw [ih, show i + 1 + l.length = i + (x :: l).length by rw [List.length_cons]; omega]
theorem rsXL_len {β L : Nat} : ∀ {l : List LrD} {i : Nat}, (rsXL β L i l).length = l.length
  | [], i => rfl
  | x :: l, i => by
    show (rsXL β L (i + 1) l).length + 1 = l.length + 1
    rw [rsXL_len]
theorem rsXL_at {β L : Nat} : ∀ {l : List LrD} {i j : Nat}, (rsXL β L i l)[j]? = (l[j]?).map (fun r => (r.1, rsF β (decide (L ≤ i + j)) r.2))
  | [], i, j => by
    show ([] : List LrD)[j]? = _
    simp
  | x :: l, i, 0 => rfl
  | x :: l, i, j + 1 => by
    show (rsXL β L (i + 1) l)[j]? = (l[j]?).map _
    rw [rsXL_at, show i + 1 + j = i + (j + 1) by omega]
section TR
variable {sc : gSc} {d : Nat} {A A0 : gA} {Q : gO → gA → Prop} {o qa qm qo qh qt ql nF hM mk bM i j k what C S kS kn L9 : Nat} {fo fm fl : Nat → Int32} {x17 x18 x19 x20 x4 : Option Value} {F : Nat → Option vC} {f : Ls FamD} {w : Ls WrD} {s : Ls SnD} {c : Ls CuD} {b : Ls BkD} {fi : Nat × FiD} {y : Ls ChD} {me : Option MeD} {ct : CtD} {rows : List LrD} {K : List (Nat × vC)} {ws : List WrD} {β : Nat}
theorem tr_l (hR : RowsOk rows ws) (hl : ws.length ≤ 120) (hfm : fm 0 = zI ws.length) (hβ : β ≤ 2) (hK : (ql, vN .int 3 fl) ∈ K) (hfl : fl β = zI L9) (hL9 : L9 ≤ 120) {kS9 : Nat × Nat}
    (hQ : ∀ A' x18, okO A' F (lwL qm qa fm (rsXL β L9 0 rows) K) o f w s c b fi y me ct → A'.2 = kS9 → Wv sc 16 0 1218 [some (.retAddr 0), some (.ref o), some (.int (zI nF)), some (.ref qo), x4, some (.ref qa), some (.ref qm), some (.ref qh), some (.ref qt), some (.int (zI hM)), some (.int (zI mk)), some (.int (zI bM)), some (.ref ql), some (.int (zI k)), some (.int (zI i)), some (.int (zI j)), some (.int (zI what)), some (.int (zI β)), x18, x19, x20] [] A' Q) : ∀ (n i9 : Nat) (A : gA), i9 + n = ws.length → okO A F (lwL qm qa fm (rsXL β L9 0 (rows.take i9) ++ rows.drop i9) K) o f w s c b fi y me ct → A.2 = kS9 →
    Wv sc 16 0 1124 [some (.retAddr 0), some (.ref o), some (.int (zI nF)), some (.ref qo), x4, some (.ref qa), some (.ref qm), some (.ref qh), some (.ref qt), some (.int (zI hM)), some (.int (zI mk)), some (.int (zI bM)), some (.ref ql), some (.int (zI k)), some (.int (zI i)), some (.int (zI j)), some (.int (zI what)), some (.int (zI β)), some (.int (zI ((i9 + 1 : Nat) : Int))), x19, x20] [] A Q
  | 0, i9, A, hin, hO, hA => by
    have hm := hO.lm
    have e1 : rows.take i9 = rows := List.take_of_length_le (by rw [hR.1]; omega)
    have e2 : rows.drop i9 = [] := List.drop_of_length_le (by rw [hR.1]; omega)
    rw [e1, e2, List.append_nil] at hO
    refine wv_s f0_1124 rfl (fun _ => rfl) ?_
    refine wv_s f0_1126 rfl (fun _ => rfl) ?_
    refine wv_icon f0_1128 ?_
    refine wv_iaload (j := 0) f0_1129 (hm) (by first | rfl | omega) (by omega) (by omega) ?_
    rw [hfm]
    refine wv_cT_gt f0_1130 (by omega) (by omega) (by omega) ?_
    exact hQ A _ hO hA
  | n + 1, i9, A, hin, hO, hA => by
    obtain ⟨r, hrm, hr, -, hd, ht⟩ := at_i (l := rows) (i := i9) (by rw [hR.1]; omega)
    rw [hd] at hO
    have hm := hO.lm
    have hI1 := hO.lr.1
    have hq := hO.lr.2 r (List.mem_append_right _ (List.mem_cons_self ..))
    have hlen : (rsXL β L9 0 (rows.take i9)).length = i9 := by rw [rsXL_len, List.length_take, hR.1]; omega
    have hrf : va_rf (allG (rsXL β L9 0 (rows.take i9) ++ r :: rows.drop (i9 + 1)) (i9 + 1)) = .ref r.1 := rf_mid hlen
    have ex : (10 : Int) + 3 * (β : Int) = ((10 + 3 * β : Nat) : Int) := by omega
    have ey : (12 : Int) + 3 * (β : Int) = ((12 + 3 * β : Nat) : Int) := by omega
    have hl0 : A.1 ql = some (vN .int 3 fl) := hO.lk hK
    have third : ∀ (A2 : gA) (fn : Nat → Int32), upd fn 7 (zI 1) = rsF β (decide (L9 ≤ i9)) r.2 → okO A2 F (lwL qm qa fm (rsXL β L9 0 (rows.take i9) ++ (r.1, fn) :: rows.drop (i9 + 1)) K) o f w s c b fi y me ct → A2.2 = A.2 → Wv sc 16 0 1203 [some (.retAddr 0), some (.ref o), some (.int (zI nF)), some (.ref qo), x4, some (.ref qa), some (.ref qm), some (.ref qh), some (.ref qt), some (.int (zI hM)), some (.int (zI mk)), some (.int (zI bM)), some (.ref ql), some (.int (zI k)), some (.int (zI i)), some (.int (zI j)), some (.int (zI what)), some (.int (zI β)), some (.int (zI ((i9 + 1 : Nat) : Int))), x19, x20] [] A2 Q := by
      intro A2 fn hfn hO2 hA2
      have hI2 := hO2.lr.1
      have hq2 := hO2.lr.2 (r.1, fn) (List.mem_append_right _ (List.mem_cons_self ..))
      have hrf2 : va_rf (allG (rsXL β L9 0 (rows.take i9) ++ (r.1, fn) :: rows.drop (i9 + 1)) (i9 + 1)) = .ref r.1 := rf_mid hlen
      refine wv_s f0_1203 rfl (fun _ => rfl) ?_
      refine wv_s f0_1205 rfl (fun _ => rfl) ?_
      refine wv_aaload (j := i9 + 1) f0_1207 (by assumption) (by rfl) (by first | rfl | omega) (by omega) (by omega) (hrf2) ?_
      refine wv_bip f0_1208 (by decide) ?_
      refine wv_icon f0_1210 ?_
      refine wv_iastore (j := 7) f0_1211 (hq2) (by first | rfl | omega) (by omega) (by omega) ?_
      refine wv_inc18 f0_1212 ?_
      refine wv_s (pc' := 1124) f0_1215 rfl (fun _ => rfl) ?_
      refine tr_l hR hl hfm hβ hK hfl hL9 hQ n (i9 + 1) _ (by omega) ?_ (hA2.trans hA)
      have h9 := okO.setRow (fn := upd fn 7 (zI 1)) hO2
      have e9 : rsXL β L9 0 (rows.take (i9 + 1)) = rsXL β L9 0 (rows.take i9) ++ [(r.1, rsF β (decide (L9 ≤ i9)) r.2)] := by
        rw [ht, rsXL_snoc, Nat.zero_add, show (rows.take i9).length = i9 by rw [List.length_take, hR.1]; omega]
      rw [hfn] at h9 ⊢
      rw [e9, List.append_assoc]
      exact h9
    have second : ∀ (X : Int32), X = (if decide (L9 ≤ i9) = true then zI 1 else r.2 (12 + 3 * β)) → Wv sc 16 0 1167 [some (.retAddr 0), some (.ref o), some (.int (zI nF)), some (.ref qo), x4, some (.ref qa), some (.ref qm), some (.ref qh), some (.ref qt), some (.int (zI hM)), some (.int (zI mk)), some (.int (zI bM)), some (.ref ql), some (.int (zI k)), some (.int (zI i)), some (.int (zI j)), some (.int (zI what)), some (.int (zI β)), some (.int (zI ((i9 + 1 : Nat) : Int))), x19, x20] [.int X, .int (zI 8), .ref r.1] A Q := by
      intro X hX
      refine wv_iastore (j := 8) f0_1167 (hq) (by first | rfl | omega) (by omega) (by omega) ?_
      have hO1 := okO.setRow (fn := upd r.2 8 X) hO
      have hI2 := hO1.lr.1
      have hq2 := hO1.lr.2 (r.1, upd r.2 8 X) (List.mem_append_right _ (List.mem_cons_self ..))
      have hrf2 : va_rf (allG (rsXL β L9 0 (rows.take i9) ++ (r.1, upd r.2 8 X) :: rows.drop (i9 + 1)) (i9 + 1)) = .ref r.1 := rf_mid hlen
      have hl1 : (aPut A r.1 (vN .int 20 (upd r.2 8 X))).1 ql = some (vN .int 3 fl) := hO1.lk hK
      refine wv_s f0_1168 rfl (fun _ => rfl) ?_
      refine wv_s f0_1170 rfl (fun _ => rfl) ?_
      refine wv_aaload (j := i9 + 1) f0_1172 (by assumption) (by rfl) (by first | rfl | omega) (by omega) (by omega) (hrf2) ?_
      refine wv_bip f0_1173 (by decide) ?_
      refine wv_s f0_1175 rfl (fun _ => rfl) ?_
      refine wv_s f0_1177 rfl (fun _ => rfl) ?_
      refine wv_s f0_1179 rfl (fun _ => rfl) ?_
      refine wv_iaload (j := β) f0_1181 (hl1) (by first | rfl | omega) (by omega) (by omega) ?_
      rw [hfl]
      refine wv_cX_le f0_1182 (by omega) (by omega) (fun hb => ?_) (fun hb => ?_)
      · have hp : decide (L9 ≤ i9) = false := decide_eq_false (by omega)
        refine wv_s f0_1189 rfl (fun _ => rfl) ?_
        refine wv_s f0_1191 rfl (fun _ => rfl) ?_
        refine wv_aaload (j := i9 + 1) f0_1193 (by assumption) (by rfl) (by first | rfl | omega) (by omega) (by omega) (hrf2) ?_
        refine wv_bip f0_1194 (by decide) ?_
        refine wv_icon f0_1196 ?_
        refine wv_s f0_1197 rfl (fun _ => rfl) ?_
        refine wv_imul f0_1199 ?_
        refine wv_iadd f0_1200 ?_
        rw [ex]
        have e10 : upd r.2 8 X (10 + 3 * β) = r.2 (10 + 3 * β) := upd_ne (by omega)
        refine wv_iaload (j := 10 + 3 * β) f0_1201 (hq2) (by first | rfl | omega) (by omega) (by omega) ?_
        refine wv_iastore (j := 6) f0_1202 (hq2) (by first | rfl | omega) (by omega) (by omega) ?_
        refine third _ (upd (upd r.2 8 X) 6 (upd r.2 8 X (10 + 3 * β))) ?_ (okO.setRow (r := (r.1, upd r.2 8 X)) (fn := upd (upd r.2 8 X) 6 (upd r.2 8 X (10 + 3 * β))) hO1) rfl
        rw [e10, hX, hp]
        rfl
      · have hp : decide (L9 ≤ i9) = true := decide_eq_true (by omega)
        refine wv_icon f0_1185 ?_
        refine wv_s (pc' := 1202) f0_1186 rfl (fun _ => rfl) ?_
        refine wv_iastore (j := 6) f0_1202 (hq2) (by first | rfl | omega) (by omega) (by omega) ?_
        refine third _ (upd (upd r.2 8 X) 6 (zI 1)) ?_ (okO.setRow (r := (r.1, upd r.2 8 X)) (fn := upd (upd r.2 8 X) 6 (zI 1)) hO1) rfl
        rw [hX, hp]
        rfl
    refine wv_s f0_1124 rfl (fun _ => rfl) ?_
    refine wv_s f0_1126 rfl (fun _ => rfl) ?_
    refine wv_icon f0_1128 ?_
    refine wv_iaload (j := 0) f0_1129 (hm) (by first | rfl | omega) (by omega) (by omega) ?_
    rw [hfm]
    refine wv_cF_gt f0_1130 (by omega) (by omega) (by omega) ?_
    refine wv_s f0_1133 rfl (fun _ => rfl) ?_
    refine wv_s f0_1135 rfl (fun _ => rfl) ?_
    refine wv_aaload (j := i9 + 1) f0_1137 (by assumption) (by rfl) (by first | rfl | omega) (by omega) (by omega) (hrf) ?_
    refine wv_bip f0_1138 (by decide) ?_
    refine wv_s f0_1140 rfl (fun _ => rfl) ?_
    refine wv_s f0_1142 rfl (fun _ => rfl) ?_
    refine wv_s f0_1144 rfl (fun _ => rfl) ?_
    refine wv_iaload (j := β) f0_1146 (hl0) (by first | rfl | omega) (by omega) (by omega) ?_
    rw [hfl]
    refine wv_cX_le f0_1147 (by omega) (by omega) (fun hb => ?_) (fun hb => ?_)
    · have hp : decide (L9 ≤ i9) = false := decide_eq_false (by omega)
      refine wv_s f0_1154 rfl (fun _ => rfl) ?_
      refine wv_s f0_1156 rfl (fun _ => rfl) ?_
      refine wv_aaload (j := i9 + 1) f0_1158 (by assumption) (by rfl) (by first | rfl | omega) (by omega) (by omega) (hrf) ?_
      refine wv_bip f0_1159 (by decide) ?_
      refine wv_icon f0_1161 ?_
      refine wv_s f0_1162 rfl (fun _ => rfl) ?_
      refine wv_imul f0_1164 ?_
      refine wv_iadd f0_1165 ?_
      rw [ey]
      refine wv_iaload (j := 12 + 3 * β) f0_1166 (hq) (by first | rfl | omega) (by omega) (by omega) ?_
      exact second _ (by rw [hp]; rfl)
    · have hp : decide (L9 ≤ i9) = true := decide_eq_true (by omega)
      refine wv_icon f0_1150 ?_
      refine wv_s (pc' := 1167) f0_1151 rfl (fun _ => rfl) ?_
      exact second _ (by rw [hp]; rfl)
/-- 23: restoring -/
theorem tn_rs (hs : sc.1 ≤ 260) (hi : i + 6 ≤ 2000) (hk : k < 120) (hn3 : nF ≤ 3) (h0 : 0 < bM) (hL : LI A o qa qm qo qh qt ql nF fo (k) (kn) (kS) (C) (S) (hM) (mk) (bM))
    (hQ : ∀ A' x17 x18 x19 x20, LI A' o qa qm qo qh qt ql nF fo (k + 1) (kn) (kS) (C + 3000) (S + 48000) (0) (mk) (bM) → Wv sc 16 0 1221 [some (.retAddr 0), some (.ref o), some (.int (zI nF)), some (.ref qo), some (.int (zI 1)), some (.ref qa), some (.ref qm), some (.ref qh), some (.ref qt), some (.int (zI 0)), some (.int (zI mk)), some (.int (zI bM)), some (.ref ql), some (.int (zI k)), some (.int (zI i)), some (.int (zI j)), some (.int (zI what)), x17, x18, x19, x20] [] A' Q) :
    Wv sc 16 0 1057 [some (.retAddr 0), some (.ref o), some (.int (zI nF)), some (.ref qo), some (.int (zI 1)), some (.ref qa), some (.ref qm), some (.ref qh), some (.ref qt), some (.int (zI hM)), some (.int (zI mk)), some (.int (zI bM)), some (.ref ql), some (.int (zI k)), some (.int (zI i)), some (.int (zI j)), some (.int (zI what)), x17, x18, x19, x20] [] A Q := by
  obtain ⟨F, f, w, s, ca, cc, b, fi, y, me, ct, fm, rows, fh, ft, fl, hl, hO, hfm, hR, hG, hM9, hH, hhl, hmk, hB, hbM, hN, hnF, hop, hC, hS⟩ := hL
  obtain ⟨n1, n2, n3, n4, n5, n6, n7, n8, n9, n10⟩ := hN
  have hb3 := hB.1
  have hwz : ∀ x, x ∈ w.2.2 → x.z ≤ 3 ∧ x.s ≤ 20 := fun x hx => ⟨(hO.2.2.1 x hx).2.2.2, (hO.2.2.1 x hx).2.2.1⟩
  refine wv_s f0_1057 rfl (fun _ => rfl) ?_
  refine wv_s f0_1058 rfl (fun _ => rfl) ?_
  refine wv_s f0_1060 rfl (fun _ => rfl) ?_
  refine wv_resS f0_1062 (by decide) (by simp) (by simp) (by decide +kernel) (c1 (m := bM) hs (by omega) (by omega)) (by omega) (fun v1 A1 e1 => ?_)
  obtain ⟨⟨β, hβ, rfl⟩, eA⟩ := e1
  rw [eA]
  obtain ⟨bk, hbk⟩ : ∃ bk, b.2.2[β]? = some bk := ⟨_, List.getElem?_eq_getElem (by omega)⟩
  have hbm := List.mem_of_getElem? hbk
  obtain ⟨b1, b2, b3, b4, b5⟩ := hG.2.2.2.2.1 bk hbm
  have hob := hO.bk hbm
  have hB480 : ∀ g, g ∈ bk.fams → ∀ l, l ∈ g.lv → l.rs.length ≤ 480 := by
    intro h hh l hl9
    obtain ⟨i9, hi9⟩ := List.getElem?_of_mem hh
    have hi2 := (List.getElem?_eq_some_iff.mp hi9).1
    obtain ⟨g, hg⟩ : ∃ g, f.2.2[i9]? = some g := ⟨_, List.getElem?_eq_getElem (by omega)⟩
    have hT := (b5 i9 h g hi9 hg).2.2
    have h9 := hT.wtL b3 (rs := l.rs) (List.mem_map_of_mem hl9) (fun r hr c hc => (((((hob.2.2.2.1 h hh).2 l hl9).2.2.2) r hr).c100 c hc).1)
    rw [setSt_len] at h9
    omega
  have d17 : Wc sc 11 2 [.ref o, .int (zI 17), .int (zI β), .int (zI 0), .int (zI 0), .int (zI 0), .int (zI 0)] A (fun v A' => ∃ v9, v = .inl (some v9) ∧ (∃ n : Nat, v9 = .int (zI n) ∧ n ≤ 48000 ∧ ∃ fs' ct', Rs f.2.2 bk.fams fs' ∧ ctK ct' = ctKs ct 0 1 ∧ okO A' F (lwL qm qa fm rows (KL qo qh qt ql fo fh ft fl)) o (f.1, f.2.1, fs') (w.1, w.2.1, setSt bk.sts 0 w.2.2) (s.1, s.2.1, []) (ca, cc, []) b fi y none ct' ∧ 5 * A'.2.1 ≤ 5 * A.2.1 + 3 * (40 + 8 * 480) ∧ A'.2.2 ≤ A.2.2 + 3 * (160 + 32 * 480))) := by
    have hR9 : isR (fun v A' => ∃ v9, v = .inl (some v9) ∧ ∃ n : Nat, v9 = .int (zI n) ∧ n ≤ 48000 ∧ ∃ fs' ct', Rs f.2.2 bk.fams fs' ∧ ctK ct' = ctKs ct 0 1 ∧ okO A' F (lwL qm qa fm rows (KL qo qh qt ql fo fh ft fl)) o (f.1, f.2.1, fs') (w.1, w.2.1, setSt bk.sts 0 w.2.2) (s.1, s.2.1, []) (ca, cc, []) b fi y none ct' ∧ 5 * A'.2.1 ≤ 5 * A.2.1 + 3 * (40 + 8 * 480) ∧ A'.2.2 ≤ A.2.2 + 3 * (160 + 32 * 480)) := by
      rintro v A' ⟨v9, rfl, n, rfl, -⟩
      exact .inl ⟨_, rfl⟩
    refine c2_w (c13_17 hO.ob rfl (c88 (B := 480) hO hbk hB480 (by omega) (by omega) b1.symm (by omega) (by omega)) hR9 (d := 10) (by omega)) hR9 (by omega) (fun v A' hv => ?_)
    obtain ⟨v9, rfl, hv⟩ := hv
    exact ⟨v9, rfl, hv⟩
  refine wv_st17 f0_1065 rfl (fun _ _ => rfl) ?_
  refine wv_s f0_1067 rfl (fun _ => rfl) ?_
  refine wv_bip f0_1068 (by decide) ?_
  refine wv_s f0_1070 rfl (fun _ => rfl) ?_
  refine wv_icon f0_1072 ?_
  refine wv_icon f0_1073 ?_
  refine wv_icon f0_1074 ?_
  refine wv_icon f0_1075 ?_
  refine wv_resS f0_1076 (by decide) (by simp) (by simp) (by decide +kernel) (d17) (by omega) (fun v9 A1 hv => ?_)
  obtain ⟨n, rfl, hn, fs', ct', hRs, hct, hO1, hC1, hS1⟩ := hv
  have d17t : Wc sc 11 2 [.ref o, .int (zI 17), .int (zI bM), .int (zI 0), .int (zI 0), .int (zI 0), .int (zI 0)] A1 (fun v A' => ∃ v9, v = .inl (some v9) ∧ (v9 = .int (zI (-2000001)) ∧ A' = aThr A1)) :=
    c2_w (c13_17 hO1.ob rfl (c88_t hO1 hbM.symm) (fun v A' hv => .inr ⟨_, hv.1⟩) (d := 10) (by omega)) (fun v A' hv => .inr ⟨_, hv.1⟩) (by omega) (fun v A' hv => ⟨_, by rw [hv.1]; rfl, rfl, hv.2⟩)
  refine wv_zF_lt f0_1079 (by omega) (by omega) ?_
  refine wv_s f0_1082 rfl (fun _ => rfl) ?_
  refine wv_bip f0_1083 (by decide) ?_
  refine wv_s f0_1085 rfl (fun _ => rfl) ?_
  refine wv_icon f0_1087 ?_
  refine wv_icon f0_1088 ?_
  refine wv_icon f0_1089 ?_
  refine wv_icon f0_1090 ?_
  refine wv_resS f0_1091 (by decide) (by simp) (by simp) (by decide +kernel) (d17t) (by omega) (fun v9 A2 hv => ?_)
  obtain ⟨rfl, rfl⟩ := hv
  have hO2 := hO1.thr
  have a11 : Wc sc 8 8 [.ref o, .int (zI 11), .int (zI β), .int (zI β), .int (zI 0), .int (zI 0)] (aThr A1) (fun v A' => ∃ v9, v = .inl (some v9) ∧ (∃ n : Nat, v9 = .int (zI n) ∧ n ≤ 48000 ∧ A' = aThr A1)) := by
    have hR9 : isR (fun v A' => ∃ v9, v = .inl (some v9) ∧ ∃ n : Nat, v9 = .int (zI n) ∧ n ≤ 48000 ∧ A' = aThr A1) := by
      rintro v A' ⟨v9, rfl, n, rfl, -⟩
      exact .inl ⟨_, rfl⟩
    refine c8_w (c15_11 hO2.ob rfl (c91 hO2 hbk (by omega)) hR9 (d := 7) (by omega)) hR9 (by omega) (fun v A' hv => ?_) (fun A' hv => ?_)
    · obtain ⟨v9, rfl, hv⟩ := hv
      exact ⟨v9, rfl, hv⟩
    · obtain ⟨v9, hv, -⟩ := hv
      cases hv
  refine wv_ldcI (k := -2000001) f0_1094 (by decide) ?_
  refine wv_cF_ne f0_1096 (by omega) (by omega) (by omega) ?_
  refine wv_s f0_1099 rfl (fun _ => rfl) ?_
  refine wv_bip f0_1100 (by decide) ?_
  refine wv_s f0_1102 rfl (fun _ => rfl) ?_
  refine wv_s f0_1104 rfl (fun _ => rfl) ?_
  refine wv_icon f0_1106 ?_
  refine wv_icon f0_1107 ?_
  refine wv_resS f0_1108 (by decide) (by simp) (by simp) (by decide +kernel) (a11) (by omega) (fun v9 A2 hv => ?_)
  obtain ⟨n9, rfl, hn9, eA2⟩ := hv
  rw [eA2]
  have hk9 := ctK_0 hct
  obtain ⟨g1, g2, g3⟩ := hB.2 β bk hbk
  refine wv_zF_lt f0_1111 (by omega) (by omega) ?_
  refine wv_icon f0_1114 ?_
  refine wv_s (pc' := 1119) f0_1115 rfl (fun _ => rfl) ?_
  refine wv_st4 f0_1119 rfl (fun _ _ => rfl) ?_
  refine wv_icon f0_1121 ?_
  refine wv_st18 f0_1122 rfl (fun _ _ => rfl) ?_
  refine tr_l (K := KL qo qh qt ql fo fh ft fl) (β := β) (L9 := bk.sts.length) (kS9 := (aThr A1).2) hR (by omega) hfm (by omega) (fl := fl) (by simp [KL]) g1 (by omega) (fun A3 x18 hO3 hA3 => ?_) w.2.2.length 0 _ (by omega) (by rw [List.take_zero, List.drop_zero]; exact hO2) rfl
  refine wv_icon f0_1218 ?_
  refine wv_st9 f0_1219 rfl (fun _ _ => rfl) ?_
  have hls : (setSt bk.sts 0 w.2.2).length = w.2.2.length := setSt_len
  have hR3 : RowsOk (rsXL β bk.sts.length 0 rows) (setSt bk.sts 0 w.2.2) := by
    refine ⟨by rw [rsXL_len, hls, hR.1], fun i9 r' w' hr hw => ?_⟩
    rw [rsXL_at] at hr
    obtain ⟨v, hv, rfl⟩ := setSt_at hw
    cases h9 : rows[i9]? with
    | none => rw [h9] at hr; cases hr
    | some r =>
      rw [h9] at hr
      cases hr
      rw [Nat.zero_add]
      refine rsF_ok (hR.2 i9 r v h9 hv) (fun q => ?_) (fun q => ?_)
      · have := of_decide_eq_true q
        rw [List.getD_eq_getElem?_getD, List.getElem?_eq_none this]
        rfl
      · have := of_decide_eq_false q
        exact g3 i9 r h9 (by omega)
  have hK3 : Kpt rows (rsXL β bk.sts.length 0 rows) := by
    intro i9 r hr
    refine ⟨_, by rw [rsXL_at, hr]; rfl, fun j9 hj9 => rsF_k (j := j9) (by omega)⟩
  have hM3 : MemI (setSt bk.sts 0 w.2.2) b.2.2 := fun j9 => by
    refine ⟨((hM9 j9).2 bk hbm).2, fun z hz => ?_⟩
    rw [setSt_set, hls]
    exact (hM9 j9).2 z hz
  have hop3 : OpI fo fs' := fun i9 g' hg' => by
    obtain ⟨g, h, q1, q2, q3, q4, -⟩ := Rs_at hRs hg'
    rw [q4]
    exact hop i9 g q1
  have hcS : cS ct' = cS ct := by unfold cS; omega
  have hA : A3.2.1 = A1.2.1 + 1 ∧ A3.2.2 = A1.2.2 + 6 := by rw [hA3]; exact ⟨rfl, rfl⟩
  have hG3 := hG.restore hbm hRs
  rw [show ct.2.2.1 = ct'.2.2.1 by omega] at hG3
  exact hQ A3 _ _ _ _ ⟨F, (f.1, f.2.1, fs'), (w.1, w.2.1, setSt bk.sts 0 w.2.2), (s.1, s.2.1, []), ca, cc, b, fi, y, none, ct', fm, _, fh, ft, fl, [], hO3, by rw [hfm]; show _ = zI ((setSt bk.sts 0 w.2.2).length : Nat); rw [hls], hR3, hG3, hM3, HeldI.nil, rfl, by omega, by show BkR _ (setSt bk.sts 0 w.2.2).length _ _; rw [hls]; exact hB.mono hR.1 hK3 (Nat.le_refl _), hbM, ⟨by show (setSt bk.sts 0 w.2.2).length ≤ _; omega, n2, fun m hm => (by cases hm), by omega, by omega, by omega, by omega, by omega, by omega, by omega⟩, by rw [← hnF]; exact Rs_len hRs, hop3, by omega, by omega⟩
end TR
