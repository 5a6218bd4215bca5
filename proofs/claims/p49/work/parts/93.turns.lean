/-! BETWEEN TURNS OF THE LAW -/
def KL (qo qh qt ql : Nat) (fo fh ft fl : Nat → Int32) : List (Nat × vC) := [(qo, vN .char 3 fo), (qh, vN .int 40 fh), (qt, vN .int 40 ft), (ql, vN .int 3 fl)]
def HeldI (s : List SnD) (mk len : Nat) (hl : List (Nat × Nat)) (fh ft : Nat → Int32) : Prop :=
  hl.length ≤ 6 ∧ (∀ (j : Nat) (p : Nat × Nat), hl[j]? = some p → fh j = zI p.1 ∧ ft j = zI p.2) ∧ hl.Perm (s.map (fun x => (x.i, x.m))) ∧ (s.map SnD.i).Nodup ∧ ∀ x, x ∈ s → x.i < mk ∧ x.m ≤ len
theorem HeldI.mono {s : List SnD} {mk len len' : Nat} {hl : List (Nat × Nat)} {fh ft : Nat → Int32} (h : HeldI s mk len hl fh ft) (hl2 : len ≤ len') : HeldI s mk len' hl fh ft := ⟨h.1, h.2.1, h.2.2.1, h.2.2.2.1, fun x hx => ⟨(h.2.2.2.2 x hx).1, Nat.le_trans (h.2.2.2.2 x hx).2 hl2⟩⟩
theorem HeldI.nil {mk len : Nat} {fh ft : Nat → Int32} : HeldI [] mk len [] fh ft := ⟨by decide, fun j p h => (by simp at h), List.Perm.refl _, List.nodup_nil, fun x hx => (by cases hx)⟩
theorem HeldI.len {s : List SnD} {mk len : Nat} {hl : List (Nat × Nat)} {fh ft : Nat → Int32} (h : HeldI s mk len hl fh ft) : s.length = hl.length := by
  have := h.2.2.1.length_eq
  rw [List.length_map] at this
  exact this.symm
/-- what a saved row says -/
def SvR (t : Nat) (X Y : Int32) : Prop := (X = zI 0 ∨ X = zI 1) ∧ ((t = 0 ∧ Y = zI 1) ∨ (t = 2 ∧ Y = zI 0 ∧ X = zI 0) ∨ (t = 3 ∧ Y = zI 0 ∧ X = zI 1))
def BkR (bs : List BkD) (len : Nat) (rows : List LrD) (fl : Nat → Int32) : Prop :=
  bs.length ≤ 3 ∧ ∀ (β : Nat) (bk : BkD), bs[β]? = some bk → fl β = zI bk.sts.length ∧ bk.sts.length ≤ len ∧ ∀ (i : Nat) (r : LrD), rows[i]? = some r → i < bk.sts.length → SvR (bk.sts.getD i 0) (r.2 (10 + 3 * β)) (r.2 (12 + 3 * β))
theorem BkR.mono {bs : List BkD} {len len' : Nat} {rows rows' : List LrD} {fl : Nat → Int32} (h : BkR bs len rows fl) (hr : rows.length = len) (hk : Kpt rows rows') (hl : len ≤ len') : BkR bs len' rows' fl := by
  refine ⟨h.1, fun β bk hb => ?_⟩
  obtain ⟨h1, h2, h3⟩ := h.2 β bk hb
  refine ⟨h1, by omega, fun i r hr' hi => ?_⟩
  have hi2 : i < rows.length := by omega
  obtain ⟨r', h4, h5⟩ := hk i _ (List.getElem?_eq_getElem hi2)
  rw [hr'] at h4
  cases h4
  rw [h5 _ (by omega), h5 _ (by omega)]
  exact h3 i _ (List.getElem?_eq_getElem hi2) hi
def NumI (k kn kS : Nat) (f : Ls FamD) (w : Ls WrD) (y : Ls ChD) (me : Option MeD) (ct : CtD) : Prop :=
  w.2.2.length ≤ k ∧ y.2.1 ≤ 260 ∧ (∀ m, me = some m → m.kc ≤ 1210 ∧ m.dn ≤ 50 * k) ∧ ct.1 ≤ k ∧ ct.2.1 ≤ kn ∧ ct.2.2.1 ≤ 101 * k ∧ ct.2.2.2.2.1 ≤ 3 * k ∧ cS ct ≤ kS ∧ ct.2.2.2.2.2.2.2.1 ≤ ct.2.2.2.2.2.1 ∧ ct.2.2.2.2.2.2.2.1 ≤ ct.2.2.2.2.2.2.1
def OpI (fo : Nat → Int32) (fs : List FamD) : Prop := ∀ (i : Nat) (g : FamD), fs[i]? = some g → fo i = zI g.o
theorem OpI.same {fo : Nat → Int32} {fs fs' : List FamD} (h : OpI fo fs) (hs : Same fs fs') : OpI fo fs' ∧ fs'.length = fs.length := by
  have hl : fs'.length = fs.length := by
    have := congrArg List.length hs
    rw [List.length_map, List.length_map] at this
    exact this
  refine ⟨fun i g hg => ?_, hl⟩
  have hi := (List.getElem?_eq_some_iff.mp hg).1
  have h1 : (fs'.map (fun g : FamD => (g.a, g.g, g.o)))[i]? = some (g.a, g.g, g.o) := by rw [List.getElem?_map, hg]; rfl
  have h2 : fs[i]? = some (fs[i]'(by omega)) := List.getElem?_eq_getElem _
  rw [hs, List.getElem?_map, h2] at h1
  have h3 := h _ _ h2
  have h4 : ((fs[i]'(by omega)).a, (fs[i]'(by omega)).g, (fs[i]'(by omega)).o) = (g.a, g.g, g.o) := Option.some.inj h1
  rw [h3]
  rw [show (fs[i]'(by omega)).o = g.o from congrArg (fun t : Nat × Nat × Nat => t.2.2) h4]
def LI (A : gA) (o qa qm qo qh qt ql nF : Nat) (fo : Nat → Int32) (k kn kS C S hM mk bM : Nat) : Prop :=
  ∃ F f w s ca cc b fi y me ct fm rows fh ft fl hl, okO A F (lwL qm qa fm rows (KL qo qh qt ql fo fh ft fl)) o f w s (ca, cc, []) b fi y me ct ∧ fm 0 = zI w.2.2.length ∧ RowsOk rows w.2.2 ∧ GI (s.2.2.map SnD.m) ct.2.2.1 f.2.2 w.2.2 b.2.2 me ∧ MemI w.2.2 b.2.2 ∧ HeldI s.2.2 ct.1 w.2.2.length hl fh ft ∧ hl.length = hM ∧ ct.1 = mk ∧ BkR b.2.2 w.2.2.length rows fl ∧ b.2.2.length = bM ∧ NumI k kn kS f w y me ct ∧ f.2.2.length = nF ∧ OpI fo f.2.2 ∧ A.2.1 ≤ C ∧ A.2.2 ≤ S
theorem fl_id {j : Nat} {ws : List WrD} (h : cntM j ws = 0) : ws.map (flW j) = ws := by
  have h1 : ∀ w, w ∈ ws → flW j w = w := fun w hw => by
    cases hm : w.memOf j with
    | true =>
      have h2 : 0 < cntM j ws := List.length_pos_of_mem (List.mem_filter.mpr ⟨hw, hm⟩)
      omega
    | false => exact flW_f hm
  calc ws.map (flW j) = ws.map id := List.map_congr_left h1
    _ = ws := List.map_id ws
section TU
variable {sc : gSc} {d : Nat} {A A0 : gA} {Q : gO → gA → Prop} {o qa qm qo qh qt ql nF hM mk bM i j k what C S kS kn : Nat} {fo : Nat → Int32} {x17 x18 x19 x20 : Option Value}
/-- 0 to 12: a write -/
theorem tn_wr (hs : sc.1 ≤ 260) (hi : i + 6 ≤ 2000) (hk : k < 120) (hj : j < nF) (hn3 : nF ≤ 3) (hkS : kS ≤ 900000000) (hL : LI A o qa qm qo qh qt ql nF fo (k) (kn) (kS) (C) (S) (hM) (mk) (bM))
    (hQ : ∀ A' x17 x18 x19 x20, LI A' o qa qm qo qh qt ql nF fo (k + 1) (kn) (kS) (C + 1000) (S + 15000) (hM) (mk) (bM) → Wv sc 16 0 1221 [some (.retAddr 0), some (.ref o), some (.int (zI nF)), some (.ref qo), some (.int (zI 1)), some (.ref qa), some (.ref qm), some (.ref qh), some (.ref qt), some (.int (zI hM)), some (.int (zI mk)), some (.int (zI bM)), some (.ref ql), some (.int (zI k)), some (.int (zI i)), some (.int (zI j)), some (.int (zI what)), x17, x18, x19, x20] [] A' Q) :
    Wv sc 16 0 182 [some (.retAddr 0), some (.ref o), some (.int (zI nF)), some (.ref qo), some (.int (zI 1)), some (.ref qa), some (.ref qm), some (.ref qh), some (.ref qt), some (.int (zI hM)), some (.int (zI mk)), some (.int (zI bM)), some (.ref ql), some (.int (zI k)), some (.int (zI i)), some (.int (zI j)), some (.int (zI what)), x17, x18, x19, x20] [] A Q := by
  obtain ⟨F, f, w, s, ca, cc, b, fi, y, me, ct, fm, rows, fh, ft, fl, hl, hO, hfm, hR, hG, hM9, hH, hhl, hmk, hB, hbM, hN, hnF, hop, hC, hS⟩ := hL
  obtain ⟨n1, n2, n3, n4, n5, n6, n7, n8, n9, n10⟩ := hN
  have hgi : f.2.2[j]? = some (f.2.2[j]'(by omega)) := List.getElem?_eq_getElem _
  have h3 := (c3 (sc := sc) (i := i) hs (by omega) hO hfm hR hG hM9 (by omega) hgi (by omega) (by omega) (by omega)).up (Nat.le_refl _) (d' := 14) (Q' := fun v A' => ∃ v9, v = .inl (some v9) ∧ (v9 = .int (bI true) ∧ WsP A F qm qa rows (KL qo qh qt ql fo fh ft fl) o f w s (ca, cc, []) b fi y me ct (.inl (some v9)) A')) (fun v A' h => by
    have e := h.1
    subst e
    exact ⟨_, rfl, rfl, h⟩)
  refine wv_s f0_182 rfl (fun _ => rfl) ?_
  refine wv_s f0_183 rfl (fun _ => rfl) ?_
  refine wv_s f0_184 rfl (fun _ => rfl) ?_
  refine wv_s f0_186 rfl (fun _ => rfl) ?_
  refine wv_s f0_188 rfl (fun _ => rfl) ?_
  refine wv_s f0_190 rfl (fun _ => rfl) ?_
  refine wv_resS f0_192 (by decide) (by simp) (by simp) (by decide +kernel) (h3) (by omega) (fun v9 A1 hv => ?_)
  obtain ⟨rfl, -, F', f', w', ct', rows', fm', df, dv, e1, e2, e3, e4, e5, e6, e7, e8, e9, e10, e11, e12, e13, e14, e15⟩ := hv
  have hc := ctK_0 e11
  have ho := hop.same e6
  refine wv_st4 f0_195 rfl (fun _ _ => rfl) ?_
  refine wv_s (pc' := 1221) f0_197 rfl (fun _ => rfl) ?_
  have hcS : cS ct' = cS ct := by unfold cS; omega
  exact hQ A1 _ _ _ _ ⟨F', f', w', s, ca, cc, b, fi, y, me, ct', fm', rows', fh, ft, fl, hl, e2, e3, e4, e5, e7, by rw [hc.1]; exact hH.mono e8, hhl, by omega, hB.mono hR.1 e10 e8, hbM, ⟨by omega, n2, fun m hm => ⟨(n3 m hm).1, by have := (n3 m hm).2; omega⟩, by omega, by omega, by omega, by omega, by omega, by omega, by omega⟩, by omega, ho.1, by omega, by omega⟩
/-- 13: a flush -/
theorem tn_fl (hk : k < 120) (hj : j < nF) (hn3 : nF ≤ 3) (hL : LI A o qa qm qo qh qt ql nF fo (k) (kn) (kS) (C) (S) (hM) (mk) (bM))
    (hQ : ∀ A' x17 x18 x19 x20, LI A' o qa qm qo qh qt ql nF fo (k + 1) (kn) (kS) (C + 1000) (S + 15000) (hM) (mk) (bM) → Wv sc 16 0 1221 [some (.retAddr 0), some (.ref o), some (.int (zI nF)), some (.ref qo), some (.int (zI 1)), some (.ref qa), some (.ref qm), some (.ref qh), some (.ref qt), some (.int (zI hM)), some (.int (zI mk)), some (.int (zI bM)), some (.ref ql), some (.int (zI k)), some (.int (zI i)), some (.int (zI j)), some (.int (zI what)), x17, x18, x19, x20] [] A' Q) :
    Wv sc 16 0 207 [some (.retAddr 0), some (.ref o), some (.int (zI nF)), some (.ref qo), some (.int (zI 1)), some (.ref qa), some (.ref qm), some (.ref qh), some (.ref qt), some (.int (zI hM)), some (.int (zI mk)), some (.int (zI bM)), some (.ref ql), some (.int (zI k)), some (.int (zI i)), some (.int (zI j)), some (.int (zI what)), x17, x18, x19, x20] [] A Q := by
  obtain ⟨F, f, w, s, ca, cc, b, fi, y, me, ct, fm, rows, fh, ft, fl, hl, hO, hfm, hR, hG, hM9, hH, hhl, hmk, hB, hbM, hN, hnF, hop, hC, hS⟩ := hL
  obtain ⟨n1, n2, n3, n4, n5, n6, n7, n8, n9, n10⟩ := hN
  obtain ⟨g, hgi⟩ : ∃ g, f.2.2[j]? = some g := ⟨_, List.getElem?_eq_getElem (by omega)⟩
  obtain ⟨f1, f2, hf, rfl⟩ : ∃ f1 f2, f.2.2 = f1 ++ g :: f2 ∧ f1.length = j := ⟨_, _, (at_mid hgi).1, (at_mid hgi).2⟩
  have hgm := List.mem_of_getElem? hgi
  have h4 := hO.l4 g hgm
  have hgg := (hG.2.2.2.1 _ _ hgi).1
  obtain ⟨l0, lt, hg⟩ : ∃ l0 lt, g.lv = l0 :: lt := by
    cases hh : g.lv with
    | nil => rw [hh] at h4; cases h4
    | cons l0 lt => exact ⟨l0, lt, rfl⟩
  have hl0 : g.lv[0]? = some l0 := by rw [hg]; rfl
  have hl480 := (lv_wt hO hG (by omega) hgm (List.mem_of_getElem? hl0)).2
  have hm := hO.lm
  have hwz := hO.wz
  have hc4 := c4 (sc := sc) (A := A) (g := f1.length) hR hO.lr hwz (by omega) (by omega)
  have hcm := @cntM_le f1.length w.2.2
  refine wv_s f0_207 rfl (fun _ => rfl) ?_
  refine wv_s f0_209 rfl (fun _ => rfl) ?_
  refine wv_icon f0_211 ?_
  refine wv_iaload (j := 0) f0_212 (hm) (by first | rfl | omega) (by omega) (by omega) ?_
  rw [hfm]
  refine wv_s f0_213 rfl (fun _ => rfl) ?_
  refine wv_valS f0_215 (by decide) (by simp) (by simp) (by decide +kernel) (hc4) (by omega) ?_
  refine wv_st17 f0_218 rfl (fun _ _ => rfl) ?_
  refine wv_s f0_220 rfl (fun _ => rfl) ?_
  refine wv_bip f0_221 (by decide) ?_
  refine wv_s f0_223 rfl (fun _ => rfl) ?_
  refine wv_icon f0_225 ?_
  refine wv_icon f0_226 ?_
  refine wv_icon f0_227 ?_
  refine wv_icon f0_228 ?_
  by_cases h0 : cntM f1.length w.2.2 = 0
  · have d12 : Wc sc 11 2 [.ref o, .int (zI 12), .int (zI f1.length), .int (zI 0), .int (zI 0), .int (zI 0), .int (zI 0)] A (fun v A' => ∃ v9, v = .inl (some v9) ∧ (v9 = .int (zI (-2000003)) ∧ A' = aThr A)) :=
      c2_w (c13_12 hO.ob rfl (c51_t hO hf (by rw [hgg]; exact h0)) (fun v A' hv => .inr ⟨_, hv.1⟩) (d := 10) (by omega)) (fun v A' hv => .inr ⟨_, hv.1⟩) (by omega) (fun v A' hv => ⟨_, by rw [hv.1]; rfl, rfl, hv.2⟩)
    refine wv_resS f0_229 (by decide) (by simp) (by simp) (by decide +kernel) (d12) (by omega) (fun v9 A1 hv => ?_)
    obtain ⟨rfl, rfl⟩ := hv
    have hO1 := hO.thr
    have hm1 := hO1.lm
    refine wv_st18 f0_232 rfl (fun _ _ => rfl) ?_
    refine wv_s f0_234 rfl (fun _ => rfl) ?_
    refine wv_zF_ne f0_236 (by omega) (by omega) ?_
    refine wv_s f0_239 rfl (fun _ => rfl) ?_
    refine wv_ldcI (k := -2000003) f0_241 (by decide) ?_
    refine wv_cF_ne f0_243 (by omega) (by omega) (by omega) ?_
    refine wv_icon f0_246 ?_
    refine wv_s (pc' := 264) f0_247 rfl (fun _ => rfl) ?_
    refine wv_st4 f0_264 rfl (fun _ _ => rfl) ?_
    refine wv_s f0_266 rfl (fun _ => rfl) ?_
    refine wv_s f0_268 rfl (fun _ => rfl) ?_
    refine wv_icon f0_270 ?_
    refine wv_iaload (j := 0) f0_271 (hm1) (by first | rfl | omega) (by omega) (by omega) ?_
    rw [hfm]
    refine wv_s f0_272 rfl (fun _ => rfl) ?_
    refine wv_effS f0_274 (by decide) (by simp) (by simp) (by decide +kernel) (c5_o hO1 hR hwz (by omega) (by omega)) (by omega) (fun A2 hA2 => ?_)
    refine wv_s (pc' := 1221) f0_277 rfl (fun _ => rfl) ?_
    have hR2 : RowsOk (rows.map (flQ f1.length)) w.2.2 := by
      have h9 := hR.map (φ := flQ f1.length) (ψ := flW f1.length) (fun r w hw hr => flQ_ok hr (hwz w hw).1 (hwz w hw).2 (by omega))
      rw [fl_id h0] at h9
      exact h9
    have hA : A2.2 = (A.2.1 + 1, A.2.2 + 6) := hA2.2
    exact hQ A2 _ _ _ _ ⟨F, f, w, s, ca, cc, b, fi, y, me, ct, fm, _, fh, ft, fl, hl, hA2.1, hfm, hR2, hG, hM9, hH, hhl, hmk, hB.mono hR.1 (Kpt.map (fun r j hj => flQ_k hj)) (Nat.le_refl _), hbM, ⟨by omega, n2, fun m hm => ⟨(n3 m hm).1, by have := (n3 m hm).2; omega⟩, by omega, n5, by omega, by omega, n8, n9, n10⟩, hnF, hop, by rw [hA]; show A.2.1 + 1 ≤ _; omega, by rw [hA]; show A.2.2 + 6 ≤ _; omega⟩
  · have d12 := c2_w (a2 := zI 0) (a3 := zI 0) (a4 := zI 0) (a5 := zI 0) (d := 11) (Q := fun v A' => ∃ v9, v = .inl (some v9) ∧ (∃ r F' ct' c', v9 = .int (zI r.id) ∧ r.id = ct.2.2.1 + 1 ∧ r.mg = false ∧ r.rows = flR g.g [] w.2.2 ∧ r.spans = flS g.g w.2.2 ∧ Ext F F' ∧ okRun F' r ∧ ctK ct' = ctKs ct 1 1 ∧ okO A' F' (lwL qm qa fm rows (KL qo qh qt ql fo fh ft fl)) o (f.1, f.2.1, f1 ++ setLv g ((l0.a, l0.mu, l0.la, c', r :: l0.rs) :: lt) :: f2) (w.1, w.2.1, w.2.2.map (flW g.g)) s (ca, cc, []) b fi y me ct' ∧
      5 * A'.2.1 ≤ 5 * A.2.1 + 60 + 4 * w.2.2.length + 2 * l0.rs.length ∧ A'.2.2 ≤ A.2.2 + 150 + 24 * w.2.2.length + 8 * l0.rs.length)) (c13_12 (d := 10) hO.ob rfl (c51 (sc := sc) hO hf hg (by omega) (by omega) (by omega) (by omega) (by rw [hgg]; omega)) (fun v A' hv => by
      obtain ⟨v9, rfl, r, -, -, -, rfl, -⟩ := hv
      exact .inl ⟨_, rfl⟩) (by omega)) (fun v A' hv => by
      obtain ⟨v9, rfl, r, -, -, -, rfl, -⟩ := hv
      exact .inl ⟨_, rfl⟩) (by omega) (fun v A' hv => by
      obtain ⟨v9, rfl, hv⟩ := hv
      exact ⟨v9, rfl, hv⟩)
    refine wv_resS f0_229 (by decide) (by simp) (by simp) (by decide +kernel) (d12) (by omega) (fun v9 A1 hv => ?_)
    obtain ⟨r, F', ct', c', rfl, r1, r2, r3, r4, e1, r5, e2, hO1, hC1, hS1⟩ := hv
    have hm1 := hO1.lm
    have hk9 := ctK_0 e2
    rw [hgg] at hO1
    refine wv_st18 f0_232 rfl (fun _ _ => rfl) ?_
    refine wv_s f0_234 rfl (fun _ => rfl) ?_
    refine wv_zT_ne f0_236 (by omega) (by omega) ?_
    refine wv_s f0_254 rfl (fun _ => rfl) ?_
    refine wv_zF_le f0_256 (by omega) (by omega) ?_
    refine wv_icon f0_259 ?_
    refine wv_s (pc' := 264) f0_260 rfl (fun _ => rfl) ?_
    refine wv_st4 f0_264 rfl (fun _ _ => rfl) ?_
    refine wv_s f0_266 rfl (fun _ => rfl) ?_
    refine wv_s f0_268 rfl (fun _ => rfl) ?_
    refine wv_icon f0_270 ?_
    refine wv_iaload (j := 0) f0_271 (hm1) (by first | rfl | omega) (by omega) (by omega) ?_
    rw [hfm]
    refine wv_s f0_272 rfl (fun _ => rfl) ?_
    refine wv_effS f0_274 (by decide) (by simp) (by simp) (by decide +kernel) (c5_o hO1 hR hwz (by omega) (by omega)) (by omega) (fun A2 hA2 => ?_)
    refine wv_s (pc' := 1221) f0_277 rfl (fun _ => rfl) ?_
    have hG1 := hG.flush (l0' := (l0.a, l0.mu, l0.la, c', r :: l0.rs)) hf hg rfl r3 r4 r1 r2 (by rw [hgg]; omega) (by omega)
    rw [hgg, ← hk9.2.2.1] at hG1
    have hlm : (w.2.2.map (flW f1.length)).length = w.2.2.length := List.length_map ..
    have hR2 : RowsOk (rows.map (flQ f1.length)) (w.2.2.map (flW f1.length)) := hR.map (fun r w hw hr => flQ_ok hr (hwz w hw).1 (hwz w hw).2 (by omega))
    have hS9 : Same f.2.2 (f1 ++ setLv g ((l0.a, l0.mu, l0.la, c', r :: l0.rs) :: lt) :: f2) := by rw [hf]; exact same_lv
    have ho := hop.same hS9
    have hcS : cS ct' = cS ct := by unfold cS; omega
    have hA : A2.2 = A1.2 := hA2.2
    have hA' : A2.2.1 = A1.2.1 ∧ A2.2.2 = A1.2.2 := by rw [hA]; exact ⟨rfl, rfl⟩
    exact hQ A2 _ _ _ _ ⟨F', _, (w.1, w.2.1, w.2.2.map (flW f1.length)), s, ca, cc, b, fi, y, me, ct', fm, _, fh, ft, fl, hl, hA2.1, by rw [hfm]; show _ = zI ((w.2.2.map (flW f1.length)).length : Nat); rw [hlm], hR2, hG1, hM9.map zo_fl (fun w => fl_m), by rw [hk9.1]; show HeldI _ _ (w.2.2.map (flW f1.length)).length _ _ _; rw [hlm]; exact hH, hhl, by omega, by show BkR _ (w.2.2.map (flW f1.length)).length _ _; rw [hlm]; exact hB.mono hR.1 (Kpt.map (fun r j hj => flQ_k hj)) (Nat.le_refl _), hbM, ⟨by show (w.2.2.map (flW f1.length)).length ≤ _; omega, n2, fun m hm => ⟨(n3 m hm).1, by have := (n3 m hm).2; omega⟩, by omega, by omega, by omega, by omega, by omega, by omega, by omega⟩, by rw [← hnF]; exact ho.2, ho.1, by omega, by omega⟩
/-- 14 to 16: work on a merging, or a new one -/
theorem tn_mr (hs : sc.1 ≤ 260) (hi : i + 6 ≤ 2000) (hk : k < 120) (hj : j < nF) (hn3 : nF ≤ 3) (hL : LI A o qa qm qo qh qt ql nF fo (k) (kn) (kS) (C) (S) (hM) (mk) (bM))
    (hQ : ∀ A' x17 x18 x19 x20, LI A' o qa qm qo qh qt ql nF fo (k + 1) (kn) (kS) (C + 3000) (S + 40000) (hM) (mk) (bM) → Wv sc 16 0 1221 [some (.retAddr 0), some (.ref o), some (.int (zI nF)), some (.ref qo), some (.int (zI 1)), some (.ref qa), some (.ref qm), some (.ref qh), some (.ref qt), some (.int (zI hM)), some (.int (zI mk)), some (.int (zI bM)), some (.ref ql), some (.int (zI k)), some (.int (zI i)), some (.int (zI j)), some (.int (zI what)), x17, x18, x19, x20] [] A' Q) :
    Wv sc 16 0 287 [some (.retAddr 0), some (.ref o), some (.int (zI nF)), some (.ref qo), some (.int (zI 1)), some (.ref qa), some (.ref qm), some (.ref qh), some (.ref qt), some (.int (zI hM)), some (.int (zI mk)), some (.int (zI bM)), some (.ref ql), some (.int (zI k)), some (.int (zI i)), some (.int (zI j)), some (.int (zI what)), x17, x18, x19, x20] [] A Q := by
  obtain ⟨F, f, w, s, ca, cc, b, fi, y, me, ct, fm, rows, fh, ft, fl, hl, hO, hfm, hR, hG, hM9, hH, hhl, hmk, hB, hbM, hN, hnF, hop, hC, hS⟩ := hL
  obtain ⟨n1, n2, n3, n4, n5, n6, n7, n8, n9, n10⟩ := hN
  obtain ⟨g, hgi⟩ : ∃ g, f.2.2[j]? = some g := ⟨_, List.getElem?_eq_getElem (by omega)⟩
  have hgm := List.mem_of_getElem? hgi
  have h4 := hO.l4 g hgm
  have hob := hO.ob
  refine wv_s f0_287 rfl (fun _ => rfl) ?_
  refine wv_valV f0_288 (by decide) (by simp) (by simp) (by decide +kernel) (hob) (by rfl) (by decide +kernel) rfl (c61 hO) (by omega) ?_
  refine wv_st17 f0_291 rfl (fun _ _ => rfl) ?_
  cases me with
  | some mm =>
    have hn3 := n3 mm rfl
    refine wv_s f0_293 rfl (fun _ => rfl) ?_
    refine wv_bF f0_295 (rfl) ?_
    refine wv_s f0_298 rfl (fun _ => rfl) ?_
    refine wv_bip f0_299 (by decide) ?_
    refine wv_icon f0_301 ?_
    refine wv_s f0_302 rfl (fun _ => rfl) ?_
    refine wv_s f0_303 rfl (fun _ => rfl) ?_
    refine wv_bip f0_305 (by decide) ?_
    refine wv_resS f0_307 (by decide) (by simp) (by simp) (by decide +kernel) (c1 (m := 50) hs (by omega) (by omega)) (by omega) (fun v1 A1 e1 => ?_)
    obtain ⟨⟨kk, hkk, rfl⟩, eA⟩ := e1
    rw [eA]
    refine wv_iadd f0_310 ?_
    rw [show (1 : Int) + (kk : Nat) = ((kk + 1 : Nat) : Int) by omega]
    have d14 : Wc sc 13 2 [.ref o, .int (zI 14), .int (zI ((kk + 1 : Nat) : Int)), .int (zI 0), .int (zI 0), .int (zI 0), .int (zI 0)] A (fun v A' => ∃ v9, v = .inl (some v9) ∧ WkP (s.2.2.map SnD.m) F (lwL qm qa fm rows (KL qo qh qt ql fo fh ft fl)) o f w s (ca, cc, []) b fi y.1 (mm.dn + 50) ct (5 * A.2.1 + 11270) (A.2.2 + 38230) (.inl (some v9)) A') :=
      c2_w (c13_14 hob rfl (c98 (n := kk + 1) (by omega) (by omega) (by omega) hO hG n2 hn3.1 (by omega) (by omega) (by omega)) (fun v A' hv => by
        obtain ⟨t, rfl, -⟩ := hv
        exact .inl ⟨_, rfl⟩) (d := 12) (by omega)) (fun v A' hv => by
        obtain ⟨t, rfl, -⟩ := hv
        exact .inl ⟨_, rfl⟩) (by omega) (fun v A' hv => by
        have h9 := hv
        obtain ⟨t, rfl, -⟩ := h9
        exact ⟨_, rfl, hv⟩)
    refine wv_icon f0_311 ?_
    refine wv_icon f0_312 ?_
    refine wv_icon f0_313 ?_
    refine wv_icon f0_314 ?_
    refine wv_resS f0_315 (by decide) (by simp) (by simp) (by decide +kernel) (d14) (by omega) (fun v9 A1 hv => ?_)
    obtain ⟨t, e9, ht, F', f', y', me', ct', df, dv, e1, hO1, hG1, hS9, e2, e3, e4, e5, e6, e7, hC1, hS1⟩ := hv
    cases e9
    have hk9 := ctK_0 e5
    have ho := hop.same hS9
    have hcS : cS ct' = cS ct := by unfold cS; omega
    have fin : LI A1 o qa qm qo qh qt ql nF fo (k + 1) (kn) (kS) (C + 3000) (S + 40000) (hM) (mk) (bM) := ⟨F', f', w, s, ca, cc, b, fi, y', me', ct', fm, rows, fh, ft, fl, hl, hO1, hfm, hR, hG1, hM9, by rw [hk9.1]; exact hH, hhl, by omega, hB, hbM, ⟨by omega, e3, fun m hm => ⟨(e4 m hm).1, by have := (e4 m hm).2; omega⟩, by omega, by omega, by omega, by omega, by omega, by omega, by omega⟩, by rw [← hnF]; exact ho.2, ho.1, by omega, by omega⟩
    refine wv_s (pc' := 333) f0_318 rfl (fun _ => rfl) ?_
    refine wv_st18 f0_333 rfl (fun _ _ => rfl) ?_
    refine wv_s f0_335 rfl (fun _ => rfl) ?_
    refine wv_bF f0_337 (rfl) ?_
    refine wv_s f0_340 rfl (fun _ => rfl) ?_
    refine wv_icon f0_342 ?_
    refine wv_cX_lt f0_343 (by omega) (by omega) (fun hb => ?_) (fun hb => ?_)
    · omega
    · refine wv_icon f0_346 ?_
      refine wv_s (pc' := 401) f0_347 rfl (fun _ => rfl) ?_
      refine wv_st4 f0_401 rfl (fun _ _ => rfl) ?_
      refine wv_s (pc' := 1221) f0_403 rfl (fun _ => rfl) ?_
      exact hQ A1 _ _ _ _ fin
  | none =>
    have hw480 : ∀ (j : Nat) l, g.lv[j]? = some l → dM j l < 490 := fun j l hl => by
      have h9 := lv_wt hO hG (by omega) hgm (List.mem_of_getElem? hl)
      unfold dM
      split <;> omega
    have d13 : Wc sc 11 2 [.ref o, .int (zI 13), .int (zI j), .int (zI 0), .int (zI 0), .int (zI 0), .int (zI 0)] A (fun v A' => ∃ v9, v = .inl (some v9) ∧ ((v9 = .int (zI (-2000005)) ∧ A' = aThr A) ∨ (v9 ≠ .int (zI (-2000005)) ∧ CoP A F (lwL qm qa fm rows (KL qo qh qt ql fo fh ft fl)) o f w s (ca, cc, []) b fi y ct g (.inl (some v9)) A'))) := by
      have hR9 : isR (CoP A F (lwL qm qa fm rows (KL qo qh qt ql fo fh ft fl)) o f w s (ca, cc, []) b fi y ct g) := by
        rintro v A' (h | ⟨lv, mm, F', l, l2, h, -⟩)
        · exact .inr ⟨_, h.1⟩
        · exact .inl ⟨_, h⟩
      refine c2_w (c13_13 hob rfl (c31 hO hgi hw480 (fun l hl => by have := (lv_wt hO hG (by omega) hgm hl).2; omega)) hR9 (d := 10) (by omega)) hR9 (by omega) (fun v A' hv => ?_)
      have h0 := hv
      rcases hv with ⟨rfl, rfl⟩ | ⟨lv, mm, F', l, l2, rfl, h9, -⟩
      · exact ⟨_, rfl, .inl ⟨rfl, rfl⟩⟩
      · refine ⟨_, rfl, .inr ⟨fun q => ?_, h0⟩⟩
        have q1 : zI lv = zI (-2000005) := by
          injection q
        have q2 := congrArg Int32.toInt q1
        rw [show (zI lv).toInt = lv from Int32.toInt_ofInt_of_le (by omega) (by omega)] at q2
        have q3 : (zI (-2000005)).toInt = -2000005 := by decide
        omega
    refine wv_s f0_293 rfl (fun _ => rfl) ?_
    refine wv_bT f0_295 (rfl) ?_
    refine wv_s f0_321 rfl (fun _ => rfl) ?_
    refine wv_bip f0_322 (by decide) ?_
    refine wv_s f0_324 rfl (fun _ => rfl) ?_
    refine wv_icon f0_326 ?_
    refine wv_icon f0_327 ?_
    refine wv_icon f0_328 ?_
    refine wv_icon f0_329 ?_
    refine wv_resS f0_330 (by decide) (by simp) (by simp) (by decide +kernel) (d13) (by omega) (fun v9 A1 hv => ?_)
    rcases hv with ⟨rfl, rfl⟩ | ⟨-, hv⟩
    · refine wv_st18 f0_333 rfl (fun _ _ => rfl) ?_
      refine wv_s f0_335 rfl (fun _ => rfl) ?_
      refine wv_bT f0_337 (rfl) ?_
      refine wv_s f0_354 rfl (fun _ => rfl) ?_
      refine wv_ldcI (k := -2000005) f0_356 (by decide) ?_
      refine wv_cT_eq f0_358 (by omega) (by omega) (by omega) ?_
      refine wv_icon f0_396 ?_
      refine wv_s (pc' := 401) f0_397 rfl (fun _ => rfl) ?_
      refine wv_st4 f0_401 rfl (fun _ _ => rfl) ?_
      refine wv_s (pc' := 1221) f0_403 rfl (fun _ => rfl) ?_
      exact hQ (aThr A) _ _ _ _ ⟨F, f, w, s, ca, cc, b, fi, y, none, ct, fm, rows, fh, ft, fl, hl, hO.thr, hfm, hR, hG, hM9, hH, hhl, hmk, hB, hbM, ⟨by omega, n2, fun m hm => (by cases hm), by omega, n5, by omega, by omega, n8, n9, n10⟩, hnF, hop, by show A.2.1 + 1 ≤ _; omega, by show A.2.2 + 6 ≤ _; omega⟩
    · rcases hv with ⟨h, -⟩ | ⟨lv, mm, F', l, l2, h, p1, p2, p3, p4, p5, p6, p7, p8, p9, p10, p11, e1, hO1, hC1, hS1⟩
      · cases h
      · cases h
        have hob1 := hO1.ob
        have hil : mm.ins.length ≤ 960 := by
          have h1 := (lv_wt hO hG (by omega) hgm (List.mem_of_getElem? p2)).2
          have h2 := (lv_wt hO hG (by omega) hgm (List.mem_of_getElem? p3)).2
          obtain ⟨S, T, q1, q2, q3, -⟩ := MrQ.new (hG.at hgm) p2 p3
          rw [List.getElem?_map, p2] at q1
          rw [List.getElem?_map, p3] at q2
          cases q1
          cases q2
          have e := congrArg List.length q3
          rw [List.length_append] at e
          have h5 : (amg (insOf lv l l2) l.rs).length ≤ l.rs.length := List.length_filter_le _ _
          have h6 : (amg (insOf lv l l2) l2.rs).length ≤ l2.rs.length := List.length_filter_le _ _
          rw [p6]
          omega
        have hG1 : GI (s.2.2.map SnD.m) ct.2.2.1 f.2.2 w.2.2 b.2.2 (some mm) := hG.start hgi (by omega) (by rw [p5]; exact p2) (by rw [p5]; exact p3) p4 (by rw [p5]; exact p6) p7 p10
        have d13t : Wc sc 11 2 [.ref o, .int (zI 13), .int (zI j), .int (zI 0), .int (zI 0), .int (zI 0), .int (zI 0)] A1 (fun v A' => ∃ v9, v = .inl (some v9) ∧ (v9 = .int (zI (-2000003)) ∧ A' = aThr A1)) :=
          c2_w (c13_13 hob1 rfl (c31_t hO1 hgi) (fun v A' hv => .inr ⟨_, hv.1⟩) (d := 10) (by omega)) (fun v A' hv => .inr ⟨_, hv.1⟩) (by omega) (fun v A' hv => ⟨_, by rw [hv.1]; rfl, rfl, hv.2⟩)
        refine wv_st18 f0_333 rfl (fun _ _ => rfl) ?_
        refine wv_s f0_335 rfl (fun _ => rfl) ?_
        refine wv_bT f0_337 (rfl) ?_
        refine wv_s f0_354 rfl (fun _ => rfl) ?_
        refine wv_ldcI (k := -2000005) f0_356 (by decide) ?_
        refine wv_cF_eq f0_358 (by omega) (by omega) (by omega) ?_
        refine wv_s f0_361 rfl (fun _ => rfl) ?_
        refine wv_zF_lt f0_363 (by omega) (by omega) ?_
        refine wv_s f0_366 rfl (fun _ => rfl) ?_
        refine wv_icon f0_368 ?_
        refine wv_cF_ge f0_369 (by omega) (by omega) (by omega) ?_
        refine wv_s f0_372 rfl (fun _ => rfl) ?_
        refine wv_valV f0_373 (by decide) (by simp) (by simp) (by decide +kernel) (hob1) (by rfl) (by decide +kernel) rfl (c61 hO1) (by omega) ?_
        refine wv_bF f0_376 (rfl) ?_
        refine wv_s f0_379 rfl (fun _ => rfl) ?_
        refine wv_bip f0_380 (by decide) ?_
        refine wv_s f0_382 rfl (fun _ => rfl) ?_
        refine wv_icon f0_384 ?_
        refine wv_icon f0_385 ?_
        refine wv_icon f0_386 ?_
        refine wv_icon f0_387 ?_
        refine wv_resS f0_388 (by decide) (by simp) (by simp) (by decide +kernel) (d13t) (by omega) (fun v9 A2 h2 => ?_)
        obtain ⟨rfl, rfl⟩ := h2
        refine wv_ldcI (k := -2000003) f0_391 (by decide) ?_
        refine wv_cF_ne f0_393 (by omega) (by omega) (by omega) ?_
        refine wv_icon f0_396 ?_
        refine wv_s (pc' := 401) f0_397 rfl (fun _ => rfl) ?_
        refine wv_st4 f0_401 rfl (fun _ _ => rfl) ?_
        refine wv_s (pc' := 1221) f0_403 rfl (fun _ => rfl) ?_
        exact hQ (aThr A1) _ _ _ _ ⟨F', f, w, s, ca, cc, b, fi, y, some mm, ct, fm, rows, fh, ft, fl, hl, hO1.thr, hfm, hR, hG1, hM9, hH, hhl, hmk, hB, hbM, ⟨by omega, n2, fun m hm => (by cases hm; exact ⟨by omega, by omega⟩), by omega, n5, by omega, by omega, n8, n9, n10⟩, hnF, hop, by show A1.2.1 + 1 ≤ _; omega, by show A1.2.2 + 6 ≤ _; omega⟩
/-- 17: a stop -/
theorem tn_st (hk : k < 120) (hL : LI A o qa qm qo qh qt ql nF fo (k) (kn) (kS) (C) (S) (hM) (mk) (bM))
    (hQ : ∀ A' x17 x18 x19 x20, LI A' o qa qm qo qh qt ql nF fo (k + 1) (kn) (kS) (C + 1000) (S + 15000) (hM) (mk) (bM) → Wv sc 16 0 1221 [some (.retAddr 0), some (.ref o), some (.int (zI nF)), some (.ref qo), some (.int (zI 1)), some (.ref qa), some (.ref qm), some (.ref qh), some (.ref qt), some (.int (zI hM)), some (.int (zI mk)), some (.int (zI bM)), some (.ref ql), some (.int (zI k)), some (.int (zI i)), some (.int (zI j)), some (.int (zI what)), x17, x18, x19, x20] [] A' Q) :
    Wv sc 16 0 413 [some (.retAddr 0), some (.ref o), some (.int (zI nF)), some (.ref qo), some (.int (zI 1)), some (.ref qa), some (.ref qm), some (.ref qh), some (.ref qt), some (.int (zI hM)), some (.int (zI mk)), some (.int (zI bM)), some (.ref ql), some (.int (zI k)), some (.int (zI i)), some (.int (zI j)), some (.int (zI what)), x17, x18, x19, x20] [] A Q := by
  obtain ⟨F, f, w, s, ca, cc, b, fi, y, me, ct, fm, rows, fh, ft, fl, hl, hO, hfm, hR, hG, hM9, hH, hhl, hmk, hB, hbM, hN, hnF, hop, hC, hS⟩ := hL
  obtain ⟨n1, n2, n3, n4, n5, n6, n7, n8, n9, n10⟩ := hN
  have d15 : Wc sc 2 2 [.ref o, .int (zI 15), .int (zI 0), .int (zI 0), .int (zI 0), .int (zI 0), .int (zI 0)] A (fun v A' => ∃ v9, v = .inl (some v9) ∧ ((∃ x : Int, -2000003 ≤ x ∧ x ≤ 10000 ∧ x ≠ -2000001 ∧ v9 = .int (zI x)) ∧ okO A' F (lwL qm qa fm rows (KL qo qh qt ql fo fh ft fl)) o f w s (ca, cc, []) b fi y none ct ∧ A'.2.1 ≤ A.2.1 + 1 ∧ A'.2.2 ≤ A.2.2 + 6)) := by
    cases me with
    | none => exact c2_w (c13_15 hO.ob rfl (c94_t hO) (fun v A' hv => .inr ⟨_, hv.1⟩) (d := 1) (by omega)) (fun v A' hv => .inr ⟨_, hv.1⟩) (by omega) (fun v A' hv => by
        obtain ⟨rfl, rfl⟩ := hv
        exact ⟨_, rfl, ⟨-2000003, by omega, by omega, by omega, rfl⟩, hO.thr, Nat.le_refl _, Nat.le_refl _⟩)
    | some mm => exact c2_w (c13_15 hO.ob rfl (c94 hO) (fun v A' hv => .inl ⟨_, hv.1⟩) (d := 1) (by omega)) (fun v A' hv => .inl ⟨_, hv.1⟩) (by omega) (fun v A' hv => by
        obtain ⟨rfl, h2, h3⟩ := hv
        have := (n3 mm rfl).2
        exact ⟨_, rfl, ⟨mm.dn, by omega, by omega, by omega, rfl⟩, h2, by rw [h3]; omega, by rw [h3]; omega⟩)
  refine wv_s f0_413 rfl (fun _ => rfl) ?_
  refine wv_bip f0_414 (by decide) ?_
  refine wv_icon f0_416 ?_
  refine wv_icon f0_417 ?_
  refine wv_icon f0_418 ?_
  refine wv_icon f0_419 ?_
  refine wv_icon f0_420 ?_
  refine wv_resS f0_421 (by decide) (by simp) (by simp) (by decide +kernel) (d15) (by omega) (fun v9 A1 hv => ?_)
  obtain ⟨⟨x, x1, x2, x3, rfl⟩, hO1, hC1, hS1⟩ := hv
  have hob1 := hO1.ob
  refine wv_ldcI (k := -2000001) f0_424 (by decide) ?_
  refine wv_cF_eq f0_426 (by omega) (by omega) (by omega) ?_
  refine wv_s f0_429 rfl (fun _ => rfl) ?_
  refine wv_valV f0_430 (by decide) (by simp) (by simp) (by decide +kernel) (hob1) (by rfl) (by decide +kernel) rfl (c61 hO1) (by omega) ?_
  refine wv_nF f0_433 (rfl) ?_
  refine wv_icon f0_436 ?_
  refine wv_s (pc' := 441) f0_437 rfl (fun _ => rfl) ?_
  refine wv_st4 f0_441 rfl (fun _ _ => rfl) ?_
  refine wv_s (pc' := 1221) f0_443 rfl (fun _ => rfl) ?_
  exact hQ A1 _ _ _ _ ⟨F, f, w, s, ca, cc, b, fi, y, none, ct, fm, rows, fh, ft, fl, hl, hO1, hfm, hR, hG.noMe, hM9, hH, hhl, hmk, hB, hbM, ⟨by omega, n2, fun m hm => (by cases hm), by omega, n5, by omega, by omega, n8, n9, n10⟩, hnF, hop, by omega, by omega⟩
end TU
