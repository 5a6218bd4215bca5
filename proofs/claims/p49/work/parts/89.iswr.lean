/-! THE LAW WRITES -/
theorem wok_new {xa ca gg k n fr to_ : Nat} {v : Int32} (hk : ((k = 1 ∨ k = 2 ∨ k = 4) ∧ fr = to_) ∨ (k = 3 ∧ fr ≤ to_ ∧ to_ ≤ fr + 3)) (ht : to_ < 18) (hv : -4 ≤ v.toInt ∧ v.toInt ≤ 4) : WOk (newWr xa ca gg k n fr to_ v 0 1) :=
  ⟨(by show (1 : Nat) ≤ 3; omega), fun _ => rfl, fun _ => hk, fun q => absurd q (by show ¬ (0 : Nat) < 0; omega), ht, hv⟩
theorem lwr_new {xa ca gg k n fr to_ : Nat} {v : Int32} {fn : Nat → Int32} (h0 : fn 0 = zI gg) (h1 : fn 1 = zI (chK k)) (h2 : fn 2 = zI fr) (h3 : fn 3 = zI to_) (h4 : (k = 1 ∨ k = 4) → fn 4 = v) (h5 : fn 5 = zI 0) (h6 : fn 6 = zI 0) (h7 : fn 7 = zI 0) (h8 : fn 8 = zI 0) : LwR (newWr xa ca gg k n fr to_ v 0 1) fn :=
  ⟨h0, h1, h2, h3, h4, h5, .inl h6, .inl h7, h8, fun q => absurd q (by show ¬ (1 : Nat) = 3; omega), fun _ => h6, fun _ => h7, fun q => absurd q (by show ¬ (1 : Nat) = 2; omega)⟩
theorem Same.refl {fs : List FamD} : Same fs fs := rfl
theorem Same.trans {f1 f2 f3 : List FamD} (h1 : Same f1 f2) (h2 : Same f2 f3) : Same f1 f3 := Eq.trans h2 h1
section IW
variable {sc : gSc} {d : Nat} {A A0 : gA} {F : Nat → Option vC} {L : List (Nat × vC)} {o : Nat} {f : Ls FamD} {w : Ls WrD} {s : Ls SnD} {c : Ls CuD} {b : Ls BkD} {fi : Nat × FiD} {y : Ls ChD} {me : Option MeD} {ct : CtD} {g : FamD} {i j m n k qm qa : Nat} {x z : Int} {fm : Nat → Int32} {rows : List LrD} {K : List (Nat × vC)} {ws : List WrD} {f1 f2 : List FamD} {l0 : LvD} {lt : List LvD}
theorem ctK_0 {ct' : CtD} {df dv : Nat} (h : ctK ct' = ctKs ct df dv) : ct'.1 = ct.1 ∧ ct'.2.1 = ct.2.1 ∧ ct'.2.2.1 = ct.2.2.1 + df ∧ ct'.2.2.2.2.1 = ct.2.2.2.2.1 + dv ∧ ct'.2.2.2.2.2.1 = ct.2.2.2.2.2.1 ∧ ct'.2.2.2.2.2.2.1 = ct.2.2.2.2.2.2.1 ∧ ct'.2.2.2.2.2.2.2.1 = ct.2.2.2.2.2.2.2.1 := by
  simp only [ctK, ctKs, Prod.mk.injEq] at h
  exact h
theorem okO.wz (h : okO A F L o f w s c b fi y me ct) : ∀ x, x ∈ w.2.2 → x.z ≤ 3 ∧ x.g ≤ 3 := fun x hx => ⟨(h.2.2.1 x hx).2.2.2, (h.2.2.1 x hx).2.1⟩
def WrX (A : gA) (F : Nat → Option vC) (L : List (Nat × vC)) (o : Nat) (f : Ls FamD) (w : Ls WrD) (s : Ls SnD) (c : Ls CuD) (b : Ls BkD) (fi : Nat × FiD) (y : Ls ChD) (me : Option MeD) (ct : CtD) (f1 : List FamD) (g : FamD) (f2 : List FamD) (l0 : LvD) (lt : List LvD) (k fr to_ : Nat) (v9 : Int32) (v : gO) (A' : gA) : Prop :=
  (6 ≤ l0.rs.length ∧ v = .inr 2 ∧ A' = aThr A) ∨ (l0.rs.length < 6 ∧ WrP A F L o f w s c b fi y me ct f1 g f2 l0 lt k fr to_ v9 v A')
def WrY (A : gA) (F : Nat → Option vC) (L : List (Nat × vC)) (o : Nat) (f : Ls FamD) (w : Ls WrD) (s : Ls SnD) (c : Ls CuD) (b : Ls BkD) (fi : Nat × FiD) (y : Ls ChD) (me : Option MeD) (ct : CtD) (f1 : List FamD) (g : FamD) (f2 : List FamD) (l0 : LvD) (lt : List LvD) (k fr to_ : Nat) (v9 : Int32) (v : gO) (A' : gA) : Prop :=
  ∃ v8, v = .inl (some v8) ∧ ((6 ≤ l0.rs.length ∧ v8 = .int (zI (-2000003)) ∧ A' = aThr A) ∨ (l0.rs.length < 6 ∧ WrP A F L o f w s c b fi y me ct f1 g f2 l0 lt k fr to_ v9 (.inl (some v8)) A'))
theorem c99_x {k fr to_ : Nat} {v : Int32} (hO : okO A F L o f w s c b fi y me ct) (hf : f.2.2 = f1 ++ g :: f2) (hg : g.lv = l0 :: lt) (hk : k ≤ 4) (hfr : fr ≤ to_) (hto : to_ < 100) (hlen : w.2.2.length < 1900) (hid : ct.2.2.1 + 1 < 1000000) (hvs : ct.2.2.2.2.1 + 1 ≤ 1000000) :
    Wc sc 9 99 [.ref o, .int (zI f1.length), .int (zI k), .int (zI fr), .int (zI to_), .int v] A (WrX A F L o f w s c b fi y me ct f1 g f2 l0 lt k fr to_ v) := by
  by_cases h : l0.rs.length < 6
  · exact (c99 hO hf hg h hk hfr hto hlen hid hvs).up (Nat.le_refl _) (fun v A' hv => .inr ⟨h, hv⟩)
  · exact (c99_t hO hf hg (by omega) hk hfr hto).up (Nat.le_refl _) (fun v A' hv => .inl ⟨by omega, hv⟩)
theorem wrX_R {k fr to_ : Nat} {v9 : Int32} : isR (WrX A F L o f w s c b fi y me ct f1 g f2 l0 lt k fr to_ v9) := by
  rintro v A' (h | h)
  · exact .inr ⟨2, h.2.1⟩
  · exact .inl ⟨_, h.2.1⟩
theorem wrX_Y {k fr to_ : Nat} {v9 : Int32} {v : gO} {A' : gA} (h : WrX A F L o f w s c b fi y me ct f1 g f2 l0 lt k fr to_ v9 v A') : WrY A F L o f w s c b fi y me ct f1 g f2 l0 lt k fr to_ v9 (ctD v) A' := by
  rcases h with h | h
  · obtain ⟨h1, rfl, h2⟩ := h
    exact ⟨_, rfl, .inl ⟨h1, rfl, h2⟩⟩
  · obtain ⟨h1, h2⟩ := h
    have h3 := h2.1
    subst h3
    exact ⟨_, rfl, .inr ⟨h1, h2⟩⟩
/-- what a write of the law leaves -/
def WsP (A : gA) (F : Nat → Option vC) (qm qa : Nat) (rows : List LrD) (K : List (Nat × vC)) (o : Nat) (f : Ls FamD) (w : Ls WrD) (s : Ls SnD) (c : Ls CuD) (b : Ls BkD) (fi : Nat × FiD) (y : Ls ChD) (me : Option MeD) (ct : CtD) (v : gO) (A' : gA) : Prop :=
  v = .inl (some (.int (bI true))) ∧ ∃ F' f' w' ct' rows' fm' df dv, Ext F F' ∧ okO A' F' (lwL qm qa fm' rows' K) o f' w' s c b fi y me ct' ∧ fm' 0 = zI w'.2.2.length ∧ RowsOk rows' w'.2.2 ∧ GI (s.2.2.map SnD.m) ct'.2.2.1 f'.2.2 w'.2.2 b.2.2 me ∧ Same f.2.2 f'.2.2 ∧ MemI w'.2.2 b.2.2 ∧ w.2.2.length ≤ w'.2.2.length ∧ w'.2.2.length ≤ w.2.2.length + 1 ∧ Kpt rows rows' ∧ ctK ct' = ctKs ct df dv ∧ df ≤ 2 ∧ dv ≤ 2 ∧ 5 * A'.2.1 ≤ 5 * A.2.1 + 5000 ∧ A'.2.2 ≤ A.2.2 + 15000
theorem c3_e {Q : gO → gA → Prop} {x1 x2 x3 x5 x6 x7 x8 x9 x11 x12 x13 x14 x15 x16 : Option Value} (hO : okO A F (lwL qm qa fm rows K) o f w s c b fi y me ct) (hfm : fm 0 = zI w.2.2.length) (hw : w.2.2.length ≤ 200) (hq : Q (.inl (some (.int (bI true)))) A) :
    Wv sc 14 3 265 [some (.ref o), x1, x2, x3, some (.ref qm), x5, x6, x7, x8, x9, some (.int (zI w.2.2.length)), x11, x12, x13, x14, x15, x16] [] A Q := by
  have h1 := hO.ob
  have hm := hO.lm
  refine wv_s f3_265 rfl (fun _ => rfl) ?_
  refine wv_s f3_267 rfl (fun _ => rfl) ?_
  refine wv_icon f3_269 ?_
  refine wv_iaload (j := 0) f3_270 (hm) (by first | rfl | omega) (by omega) (by omega) ?_
  rw [hfm]
  refine wv_cF_ne f3_271 (by omega) (by omega) (by omega) ?_
  refine wv_s f3_274 rfl (fun _ => rfl) ?_
  refine wv_valV f3_275 (by decide) (by simp) (by simp) (by decide +kernel) (h1) (by rfl) (by decide +kernel) rfl (c67 hO) (by omega) ?_
  refine wv_s f3_278 rfl (fun _ => rfl) ?_
  refine wv_cF_ne f3_280 (by omega) (by omega) (by omega) ?_
  refine wv_icon f3_283 ?_
  refine wv_s (pc' := 288) f3_284 rfl (fun _ => rfl) ?_
  exact wv_iretB (p := true) f3_288 (by decide +kernel) ( hq)
theorem c3_w {Q : gO → gA → Prop} {kk what key to_ jj n9 : Nat} {v : Int32} {xa ca : Nat} {x1 x2 x9 x11 x13 x14 x15 x16 : Option Value} (hO : okO A F (lwL qm qa fm rows K) o f w s c b fi y me ct) (hfm : fm 0 = zI n9) (hn9 : ws.length = n9) (hR : RowsOk rows ws) (hlw : n9 < 120) (hj : g.g = jj) (hj3 : jj ≤ 3)
    (hrel : (kk = 1 ∧ what < 4) ∨ (kk = 2 ∧ 4 ≤ what ∧ what < 6) ∨ (kk = 4 ∧ 6 ≤ what ∧ what < 8) ∨ (kk = 3 ∧ 8 ≤ what ∧ what < 10)) (hkt : key < 30 ∧ to_ < 30) {v9 : Int32} (hv9 : (kk = 1 ∨ kk = 4) → v = v9) (hwz : ∀ x, x ∈ ws → x.z ≤ 3 ∧ x.g ≤ 3) (hm : ∀ j, cntM j ws < 8)
    (hQ : ∀ A' fm' rows', fm' 0 = zI ((n9 + 1 : Nat) : Int) → RowsOk rows' (if cntM jj (ws ++ [newWr xa ca jj kk (n9 + 1) key to_ v9 0 1]) = 8 then (ws ++ [newWr xa ca jj kk (n9 + 1) key to_ v9 0 1]).map (flW jj) else ws ++ [newWr xa ca jj kk (n9 + 1) key to_ v9 0 1]) → okO A' F (lwL qm qa fm' rows' K) o f w s c b fi y me ct → Kpt rows rows' → A'.2 = (A.2.1 + 1, A.2.2 + 20) → ∀ x11, Wv sc 14 3 265 [some (.ref o), x1, x2, some (.ref qa), some (.ref qm), some (.int (zI jj)), some (.int (zI what)), some (.int (zI key)), some (.int v), x9, some (.int (zI ((n9 + 1 : Nat) : Int))), x11, some (.int (zI to_)), x13, x14, x15, x16] [] A' Q) :
    Wv sc 14 3 187 [some (.ref o), x1, x2, some (.ref qa), some (.ref qm), some (.int (zI jj)), some (.int (zI what)), some (.int (zI key)), some (.int v), x9, some (.int (zI ((n9 + 1 : Nat) : Int))), x11, some (.int (zI to_)), x13, x14, x15, x16] [] A Q := by
  have main : Wv sc 14 3 229 [some (.ref o), x1, x2, some (.ref qa), some (.ref qm), some (.int (zI jj)), some (.int (zI what)), some (.int (zI key)), some (.int v), x9, some (.int (zI ((n9 + 1 : Nat) : Int))), x11, some (.int (zI to_)), x13, x14, x15, x16] [.int (zI (chK kk)), .int (zI jj), .ref qm, .ref qa] A Q := by
    refine wv_s f3_229 rfl (fun _ => rfl) ?_
    refine wv_s f3_231 rfl (fun _ => rfl) ?_
    refine wv_s f3_233 rfl (fun _ => rfl) ?_
    refine wv_resS f3_235 (by decide) (by simp) (by simp) (by decide +kernel) (c14_o hO hfm (by omega) (by rw [hR.1]; exact hn9)) (by omega) (fun v8 A1 hv1 => ?_)
    obtain ⟨q, fn, fm1, rfl, hO1, hfm1, e0, e1, e2, e3, e4, e5, e6, e7, e8, hA1⟩ := hv1
    have hR1 : RowsOk (rows ++ [(q, fn)]) (ws ++ [newWr xa ca jj kk (n9 + 1) key to_ v9 0 1]) := hR.snoc (lwr_new e0 e1 e2 e3 (fun q => e4.trans (hv9 q)) e5 e6 e7 e8)
    have hl1 : (ws ++ [newWr xa ca jj kk (n9 + 1) key to_ v9 0 1]).length = n9 + 1 := by
      rw [List.length_append, hn9]
      rfl
    have hwz1 : ∀ x, x ∈ ws ++ [newWr xa ca jj kk (n9 + 1) key to_ v9 0 1] → x.z ≤ 3 ∧ x.g ≤ 3 := by
      intro x hx
      rcases List.mem_append.mp hx with hx | hx
      · exact hwz x hx
      · rw [List.mem_singleton.mp hx]
        exact ⟨by show (1 : Nat) ≤ 3; omega, hj3⟩
    have hm1 := hO1.lm
    have hc4 := c4 (sc := sc) (A := A1) (qa := qa) hR1 hO1.lr hwz1 (by omega) hj3
    rw [hl1] at hc4
    have hcm : cntM jj (ws ++ [newWr xa ca jj kk (n9 + 1) key to_ v9 0 1]) ≤ 8 := by
      rw [cntM_snoc]
      have := hm jj
      split <;> omega
    refine wv_st11 f3_238 rfl (fun _ _ => rfl) ?_
    refine wv_s f3_240 rfl (fun _ => rfl) ?_
    refine wv_s f3_241 rfl (fun _ => rfl) ?_
    refine wv_icon f3_243 ?_
    refine wv_iaload (j := 0) f3_244 (hm1) (by first | rfl | omega) (by omega) (by omega) ?_
    rw [hfm1]
    refine wv_s f3_245 rfl (fun _ => rfl) ?_
    refine wv_valS f3_247 (by decide) (by simp) (by simp) (by decide +kernel) (hc4) (by omega) ?_
    refine wv_bip f3_250 (by decide) ?_
    refine wv_cX_ne f3_252 (by omega) (by omega) (fun hb => ?_) (fun hb => ?_)
    · refine hQ A1 fm1 _ hfm1 ?_ hO1 Kpt.snoc hA1 _
      rw [if_neg (by omega)]
      exact hR1
    · refine wv_s f3_255 rfl (fun _ => rfl) ?_
      refine wv_s f3_256 rfl (fun _ => rfl) ?_
      refine wv_icon f3_258 ?_
      refine wv_iaload (j := 0) f3_259 (hm1) (by first | rfl | omega) (by omega) (by omega) ?_
      rw [hfm1]
      have hc5 := c5_o (sc := sc) hO1 hR1 hwz1 (by omega) hj3
      rw [hl1] at hc5
      refine wv_s f3_260 rfl (fun _ => rfl) ?_
      refine wv_effS f3_262 (by decide) (by simp) (by simp) (by decide +kernel) (hc5) (by omega) (fun A2 hA2 => ?_)
      refine hQ A2 fm1 _ hfm1 ?_ hA2.1 (Kpt.snoc.trans (Kpt.map (fun r j hj => flQ_k hj))) (hA2.2.trans hA1) _
      rw [if_pos (by omega)]
      refine hR1.map (fun r w hw hr => flQ_ok hr (hwz1 w hw).1 (hwz1 w hw).2 hj3)
  refine wv_s f3_187 rfl (fun _ => rfl) ?_
  refine wv_s f3_188 rfl (fun _ => rfl) ?_
  refine wv_s f3_190 rfl (fun _ => rfl) ?_
  refine wv_s f3_192 rfl (fun _ => rfl) ?_
  refine wv_icon f3_194 ?_
  rcases hrel with ⟨rfl, h2⟩ | ⟨rfl, h2, h3⟩ | ⟨rfl, h2, h3⟩ | ⟨rfl, h2, h3⟩
  · refine wv_cF_ge f3_195 (by omega) (by omega) (by omega) ?_
    refine wv_bip f3_198 (by decide) ?_
    refine wv_s (pc' := 229) f3_200 rfl (fun _ => rfl) ?_
    exact main
  · refine wv_cT_ge f3_195 (by omega) (by omega) (by omega) ?_
    refine wv_s f3_203 rfl (fun _ => rfl) ?_
    refine wv_bip f3_205 (by decide) ?_
    refine wv_cF_ge f3_207 (by omega) (by omega) (by omega) ?_
    refine wv_bip f3_210 (by decide) ?_
    refine wv_s (pc' := 229) f3_212 rfl (fun _ => rfl) ?_
    exact main
  · refine wv_cT_ge f3_195 (by omega) (by omega) (by omega) ?_
    refine wv_s f3_203 rfl (fun _ => rfl) ?_
    refine wv_bip f3_205 (by decide) ?_
    refine wv_cT_ge f3_207 (by omega) (by omega) (by omega) ?_
    refine wv_s f3_215 rfl (fun _ => rfl) ?_
    refine wv_bip f3_217 (by decide) ?_
    refine wv_cF_ge f3_219 (by omega) (by omega) (by omega) ?_
    refine wv_bip f3_222 (by decide) ?_
    refine wv_s (pc' := 229) f3_224 rfl (fun _ => rfl) ?_
    exact main
  · refine wv_cT_ge f3_195 (by omega) (by omega) (by omega) ?_
    refine wv_s f3_203 rfl (fun _ => rfl) ?_
    refine wv_bip f3_205 (by decide) ?_
    refine wv_cT_ge f3_207 (by omega) (by omega) (by omega) ?_
    refine wv_s f3_215 rfl (fun _ => rfl) ?_
    refine wv_bip f3_217 (by decide) ?_
    refine wv_cT_ge f3_219 (by omega) (by omega) (by omega) ?_
    refine wv_bip f3_227 (by decide) ?_
    exact main
/-- behind the call -/
theorem c3_a {kk what key to_ : Nat} {v9 v : Int32} {v8 : Value} {x1 x2 x10 x11 x13 x14 x15 x16 : Option Value} (hO : okO A0 F (lwL qm qa fm rows K) o f w s c b fi y me ct) (hfm : fm 0 = zI w.2.2.length) (hR : RowsOk rows w.2.2) (hG : GI (s.2.2.map SnD.m) ct.2.2.1 f.2.2 w.2.2 b.2.2 me) (hM : MemI w.2.2 b.2.2) (hlw : w.2.2.length < 120) (hf : f.2.2 = f1 ++ g :: f2) (hg : g.lv = l0 :: lt) (hj3 : f1.length ≤ 3)
    (hrel : (kk = 1 ∧ what < 4) ∨ (kk = 2 ∧ 4 ≤ what ∧ what < 6) ∨ (kk = 4 ∧ 6 ≤ what ∧ what < 8) ∨ (kk = 3 ∧ 8 ≤ what ∧ what < 10)) (hkt : to_ < 18) (hk2 : ((kk = 1 ∨ kk = 2 ∨ kk = 4) ∧ key = to_) ∨ (kk = 3 ∧ key ≤ to_ ∧ to_ ≤ key + 3)) (hvs : (kk = 1 ∨ kk = 4) → v = v9) (hvv : -4 ≤ v9.toInt ∧ v9.toInt ≤ 4)
    (hv : (6 ≤ l0.rs.length ∧ v8 = .int (zI (-2000003)) ∧ A = aThr A0) ∨ (l0.rs.length < 6 ∧ WrP A0 F (lwL qm qa fm rows K) o f w s c b fi y me ct f1 g f2 l0 lt kk key to_ v9 (.inl (some v8)) A)) :
    Wv sc 14 3 167 [some (.ref o), x1, x2, some (.ref qa), some (.ref qm), some (.int (zI f1.length)), some (.int (zI what)), some (.int (zI key)), some (.int v), some (.int (bI (decide (6 ≤ l0.rs.length)))), x10, x11, some (.int (zI to_)), x13, x14, x15, x16] [v8] A (WsP A0 F qm qa rows K o f w s c b fi y me ct) := by
  rcases hv with ⟨h6, rfl, rfl⟩ | ⟨h6, hv⟩
  · rw [decide_eq_true h6]
    refine wv_st10 f3_167 rfl (fun _ _ => rfl) ?_
    refine wv_s f3_169 rfl (fun _ => rfl) ?_
    refine wv_bF f3_171 (rfl) ?_
    refine wv_s f3_174 rfl (fun _ => rfl) ?_
    refine wv_ldcI (k := -2000003) f3_176 (by decide) ?_
    refine wv_cF_ne f3_178 (by omega) (by omega) (by omega) ?_
    refine wv_icon f3_181 ?_
    refine wv_s (pc' := 186) f3_182 rfl (fun _ => rfl) ?_
    exact wv_iretB (p := true) f3_186 (by decide +kernel) ( ⟨rfl, F, f, w, ct, rows, fm, 0, 0, Ext.refl, hO.thr, hfm, hR, hG, Same.refl, hM, Nat.le_refl _, Nat.le_succ _, Kpt.refl, rfl, by omega, by omega, by show 5 * (A0.2.1 + 1) ≤ _; omega, by show A0.2.2 + 6 ≤ _; omega⟩)
  · rw [decide_eq_false (by omega)]
    obtain ⟨e8, xa, ca, c', F', ct', hE, hcc, hcase, hC, hS⟩ := hv
    cases e8
    refine wv_st10 f3_167 rfl (fun _ _ => rfl) ?_
    refine wv_s f3_169 rfl (fun _ => rfl) ?_
    refine wv_bT f3_171 (rfl) ?_
    have hgi : f.2.2[f1.length]? = some g := by
      rw [hf, List.getElem?_append_right (Nat.le_refl _), Nat.sub_self]
      rfl
    have hgg := (hG.2.2.2.1 _ _ hgi).1
    rw [hgg] at hcase
    have hwk : WOk (newWr xa ca f1.length kk (w.2.2.length + 1) key to_ v9 0 1) := wok_new hk2 hkt hvv
    have hG1 := hG.write hwk (by show ¬ (1 : Nat) = 3; omega) rfl
    have hc8 : ∀ j, cntM j (w.2.2 ++ [newWr xa ca f1.length kk (w.2.2.length + 1) key to_ v9 0 1]) ≤ cntM j w.2.2 + (if f1.length = j then 1 else 0) := by
      intro j
      rw [cntM_snoc]
      split
      · have h9 := of_decide_eq_true (show decide _ = true from ‹_›)
        have h10 : f1.length = j := h9.1
        rw [if_pos h10]
        omega
      · omega
    rcases hcase with ⟨h8, hct, hO1⟩ | ⟨h8, hct, r, c2, r1, r2, r3, r4, r5, hO1⟩
    · refine c3_w (xa := xa) (ca := ca) hO1 hfm rfl hR hlw hgg hj3 hrel (by omega) hvs hO.wz (fun j => (hM j).1) (fun A2 fm2 rows2 hfm2 hR2 hO2 hK2 hA2 x11 => ?_)
      rw [if_neg (by omega)] at hR2
      have hlen : ((w.1, c', w.2.2 ++ [newWr xa ca f1.length kk (w.2.2.length + 1) key to_ v9 0 1]) : Ls WrD).2.2.length = w.2.2.length + 1 := List.length_append
      have hM1 : MemI (w.2.2 ++ [newWr xa ca f1.length kk (w.2.2.length + 1) key to_ v9 0 1]) b.2.2 := hM.snoc (fun j => by
        have h91 := hc8 j
        have h92 := (hM j).1
        by_cases hj : f1.length = j
        · rw [← hj]
          exact h8
        · rw [if_neg hj] at h91
          omega)
      have hc := ctK_0 hct
      rw [← hlen] at hfm2 ⊢
      refine c3_e hO2 hfm2 (by omega) ⟨rfl, F', f, _, ct', rows2, fm2, 0, 0, hE, hO2, hfm2, hR2, by rw [hc.2.2.1]; exact hG1, Same.refl, hM1, by omega, by omega, hK2, hct, by omega, by omega, ?_, ?_⟩
      · rw [hA2]
        show 5 * (A.2.1 + 1) ≤ _
        omega
      · rw [hA2]
        show A.2.2 + 20 ≤ _
        omega
    · have hMg := (hM f1.length).1
      have hcg := hc8 f1.length
      rw [if_pos rfl] at hcg
      refine c3_w (xa := xa) (ca := ca) hO1 hfm rfl hR hlw hgg hj3 hrel (by omega) hvs hO.wz (fun j => (hM j).1) (fun A2 fm2 rows2 hfm2 hR2 hO2 hK2 hA2 x11 => ?_)
      rw [if_pos (by omega)] at hR2
      have hlen : ((w.1, c', (w.2.2 ++ [newWr xa ca f1.length kk (w.2.2.length + 1) key to_ v9 0 1]).map (flW f1.length)) : Ls WrD).2.2.length = w.2.2.length + 1 := by
        show (List.map _ _).length = _
        rw [List.length_map, List.length_append]
        rfl
      have hM1 : MemI ((w.2.2 ++ [newWr xa ca f1.length kk (w.2.2.length + 1) key to_ v9 0 1]).map (flW f1.length)) b.2.2 := by
        intro j
        refine ⟨?_, fun bb hbb => ?_⟩
        · by_cases hj : f1.length = j
          · rw [← hj, fl_0]
            omega
          · have h9 := hc8 j
            rw [if_neg hj] at h9
            have h10 := (hM j).1
            have h11 := @cntM_map (flW f1.length) j (fun w hw => by
              have h1 := of_decide_eq_true (show decide _ = true from hw)
              exact decide_eq_true ⟨(by rw [← (zo_fl w).2.1]; exact h1.1), fl_m h1.2⟩) (w.2.2 ++ [newWr xa ca f1.length kk (w.2.2.length + 1) key to_ v9 0 1])
            omega
        · have h9 := (hM j).2 bb hbb
          rw [setSt_zo zo_fl, List.length_map, setSt_snoc, cntM_snoc, Nat.zero_add]
          have e : bb.sts.getD w.2.2.length 0 = 0 := by
            rw [List.getD_eq_getElem?_getD, List.getElem?_eq_none h9.1]
            rfl
          rw [e, if_neg (fun q => by
            have h9 := (of_decide_eq_true (show decide _ = true from q)).2
            have h' : (0 : Nat) = 1 ∨ (0 : Nat) = 2 := h9
            omega)]
          exact ⟨by rw [List.length_append]; omega, h9.2⟩
      have hc := ctK_0 hct
      have hG2 := hG1.flush (l0' := (l0.a, l0.mu, l0.la, c2, r :: l0.rs)) hf hg rfl (by rw [hgg]; exact r3) (by rw [hgg]; exact r4) r1 r2 (by rw [hgg]; omega) (by omega)
      rw [hgg] at hG2
      rw [← hlen] at hfm2 ⊢
      refine c3_e hO2 hfm2 (by omega) ⟨rfl, F', _, _, ct', rows2, fm2, 1, 1, hE, hO2, hfm2, hR2, by rw [hc.2.2.1]; exact hG2, by rw [hf]; exact same_lv, hM1, by omega, by omega, hK2, hct, by omega, by omega, ?_, ?_⟩
      · rw [hA2]
        show 5 * (A.2.1 + 1) ≤ _
        omega
      · rw [hA2]
        show A.2.2 + 20 ≤ _
        omega
end IW
