/-! SIFTING, a step -/
def MeD.setK (m : MeD) (kc : Nat) (k : List ChD) : MeD := (m.a, m.h, m.lv, m.2.2.2.1, (m.ka, kc, k), m.sg, m.key, m.dn)
def MeD.setS (m : MeD) (key : Int) (dn : Nat) : MeD := (m.a, m.h, m.lv, m.2.2.2.1, m.2.2.2.2.1, m.sg, key, dn)
theorem wayW_snoc {x : Int} {ins : List RunD} {r : RunD} : wayW x (ins ++ [r]) = colW r x (wayW x ins) := List.foldl_append
theorem colW_ln {r : RunD} {x : Int} {w : List ChD} : (colW r x w).length ≤ w.length + r.wt := by
  unfold colW RunD.wt
  have h1 := (@foldW_len x r.rows w).2
  have h2 := (@foldW_len x r.spans (r.rows.foldl (addW x) w)).2
  omega
theorem colW_ge {r : RunD} {x : Int} {w : List ChD} : w.length ≤ (colW r x w).length := by
  unfold colW
  have h1 := (@foldW_len x r.rows w).1
  have h2 := (@foldW_len x r.spans (r.rows.foldl (addW x) w)).1
  omega
theorem wtS_app {l k : List RunD} : wtS (l ++ k) = wtS l + wtS k := by
  induction l with
  | nil => simp [wtS]
  | cons r l ih =>
    simp only [List.cons_append, wtS, ih]
    omega
theorem wayW_len {x : Int} : ∀ {ins : List RunD} {w : List ChD}, (ins.foldl (fun w r => colW r x w) w).length ≤ w.length + wtS ins
  | [], w => Nat.le_refl _
  | r :: t, w => by
    have h1 := @wayW_len x t (colW r x w)
    have h2 := @colW_ln r x w
    simp only [List.foldl_cons, wtS]
    omega
theorem wayW_le {x : Int} : ∀ {ins : List RunD} {w : List ChD}, w.length ≤ (ins.foldl (fun w r => colW r x w) w).length
  | [], w => Nat.le_refl _
  | r :: t, w => Nat.le_trans colW_ge (wayW_le (ins := t))
theorem selB_snoc : ∀ {w : List ChD} {K : List Bool} {c : ChD} {k : Bool}, w.length = K.length → selB (w ++ [c]) (K ++ [k]) = selB w K ++ (if k then [c] else [])
  | [], [], c, k, _ => by cases k <;> rfl
  | a :: w, b :: K, c, k, h => by
    have := @selB_snoc w K c k (by simpa using h)
    cases b
    · exact this
    · exact congrArg (a :: ·) this
section SF
variable {sc : gSc} {d : Nat} {A : gA} {F : Nat → Option vC} {L : List (Nat × vC)} {o : Nat} {f : Ls FamD} {w : Ls WrD} {s : Ls SnD} {c : Ls CuD} {b : Ls BkD} {fi : Nat × FiD} {y : Ls ChD} {me : Option MeD} {mm : MeD} {ct : CtD} {g : FamD} {l : LvD} {r : RunD} {i j m n q ya ca cc : Nat} {x z : Int}
theorem okO.lsK {c' kc ks : Nat} {k' : List ChD} (h : okO A F L o f w s c b fi y (some mm) ct) (hk : ∀ x, x ∈ k' → okCh F x) : okO (aLst A mm.ka (vL c' (k'.map ChD.a)) kc ks) F L o f w s c b fi y (some (mm.setK c' k')) ct :=
  ⟨h.1.setAt 9 rfl, h.2.1, h.2.2.1, h.2.2.2.1, h.2.2.2.2.1, h.2.2.2.2.2.1, h.2.2.2.2.2.2.1, (fun m hm => by
    cases hm
    obtain ⟨a1, a2, a3, a4, a5⟩ := h.2.2.2.2.2.2.2.1 mm rfl
    exact ⟨a1, a2, a3, hk, a5⟩), h.2.2.2.2.2.2.2.2⟩
theorem okO.putMS {key : Int} {dn : Nat} (h : okO A F L o f w s c b fi y (some mm) ct) (hk : -1 ≤ key ∧ key ≤ 100) (hd : dn ≤ 1000000) : okO (aPut A mm.a (cMe (mm.setS key dn))) F L o f w s c b fi y (some (mm.setS key dn)) ct :=
  ⟨h.1.setAt 8 rfl (kc := 0) (ks := 0) (c := cMe (mm.setS key dn)), h.2.1, h.2.2.1, h.2.2.2.1, h.2.2.2.2.1, h.2.2.2.2.2.1, h.2.2.2.2.2.2.1, (fun m hm => by
    cases hm
    obtain ⟨a1, a2, a3, a4, a5, a6, a7⟩ := h.2.2.2.2.2.2.2.1 mm rfl
    exact ⟨a1, a2, a3, a4, a5, hk, hd⟩), h.2.2.2.2.2.2.2.2⟩
theorem c92_c {Q : gO → gA → Prop} {kk : Nat} (hkey : mm.key = (kk : Int)) (hk1 : kk < 100) (hwt : wtS mm.ins < 2600) : ∀ (k i yc : Nat) (A : gA) (W : List ChD), i + k = mm.ins.length → W = wayW mm.key (mm.ins.take i) → okO A F L o f w s c b fi (ya, yc, W) (some mm) ct →
    (∀ A' yc', okO A' F L o f w s c b fi (ya, yc', wayW mm.key mm.ins) (some mm) ct → 5 * A'.2.1 + yc ≤ 5 * A.2.1 + yc' → A'.2.2 + 4 * yc ≤ A.2.2 + 4 * yc' → (yc' ≤ yc ∨ yc' ≤ 10 + 2 * (wayW mm.key mm.ins).length) → Wv sc 8 92 48 [some (.ref o), some (.ref mm.a), some (.int (zI mm.ins.length)), none, none] [] A' Q) →
    Wv sc 8 92 9 [some (.ref o), some (.ref mm.a), some (.int (zI i)), none, none] [] A Q
  | 0, i, yc, A, W, hik, hW, hO, hQ => by
    have e1 : mm.ins.take i = mm.ins := List.take_of_length_le (by omega)
    rw [e1] at hW
    subst hW
    have hm := hO.me1.1
    have hia := hO.me2.2.1
    have e2 : i = mm.ins.length := by omega
    have hQ := hQ A yc hO (by omega) (by omega) (.inl (by omega))
    refine wv_s f92_9 rfl (fun _ => rfl) ?_
    refine wv_s f92_10 rfl (fun _ => rfl) ?_
    refine wv_getfield f92_11 (hm) (by rfl) ?_
    refine wv_lsize f92_14 (hia) (by omega) (by simp) (fun hs => ?_)
    rw [List.length_map] at hs ⊢
    refine wv_cT_ge f92_17 (by omega) (by omega) (by omega) ?_
    rw [e2]
    exact hQ
  | k + 1, i, yc, A, W, hik, hW, hO, hQ => by
    have h1 := hO.ob
    have hm := hO.me1.1
    have hia := hO.me2.2.1
    obtain ⟨r, hrm, hr0, hr1, hrd, hrt⟩ := at_i (show i < mm.ins.length by omega)
    have hrF := (hO.2.2.2.2.2.2.2.1 mm rfl).2.2.1 r hrm
    have hr2 := (hrF.ext hO.1.1).1
    have hyl : A.1 ya = some (vL yc (W.map ChD.a)) := hO.yl
    have hyF : F ya = none := hO.1.nf (q := ya) (c := vL yc (W.map ChD.a)) (by simp [obC])
    have lw : W.length ≤ wtS (mm.ins.take i) := by
      rw [hW]
      have := @wayW_len mm.key (mm.ins.take i) []
      rw [List.length_nil, Nat.zero_add] at this
      exact this
    have lw2 : wtS (mm.ins.take i) + (r.wt + wtS (mm.ins.drop (i + 1))) = wtS mm.ins := by
      rw [← show wtS (r :: mm.ins.drop (i + 1)) = r.wt + wtS (mm.ins.drop (i + 1)) from rfl, ← hrd, ← wtS_app, List.take_append_drop]
    refine wv_s f92_9 rfl (fun _ => rfl) ?_
    refine wv_s f92_10 rfl (fun _ => rfl) ?_
    refine wv_getfield f92_11 (hm) (by rfl) ?_
    refine wv_lsize f92_14 (hia) (by omega) (by simp) (fun hs => ?_)
    rw [List.length_map] at hs ⊢
    refine wv_cF_ge f92_17 (by omega) (by omega) (by omega) ?_
    refine wv_s f92_20 rfl (fun _ => rfl) ?_
    refine wv_getfield f92_21 (hm) (by rfl) ?_
    refine wv_s f92_24 rfl (fun _ => rfl) ?_
    refine wv_lget f92_25 (hia) (by first | rfl | omega) (hr1 _) (by omega) (by simp) ?_
    refine wv_cast f92_28 (hr2) ?_
    refine wv_s f92_31 rfl (fun _ => rfl) ?_
    refine wv_getfield f92_32 (hm) (by rfl) ?_
    refine wv_s f92_35 rfl (fun _ => rfl) ?_
    refine wv_getfield f92_36 (h1) (by rfl) ?_
    refine wv_effV f92_39 (by decide) (by simp) (by simp) (by decide +kernel) (by assumption) (by rfl) (by decide +kernel) rfl (c139 hyF hrF (by omega) hO.1.1 hyl (fun z hz => hO.2.2.2.2.2.2.1 z hz) (by omega)) (by omega) (fun A1 hA1 => ?_)
    obtain ⟨c1, k1, s1, hlg, hA1⟩ := hA1
    have hcm : ∀ z, z ∈ colW r mm.key W → okCh F z := by
      intro z hz
      rcases colW_mem hz with hz | hz | hz
      · exact hrF.2.2.2.1 z hz
      · exact hrF.2.2.2.2.1 z hz
      · exact hO.2.2.2.2.2.2.1 z hz
    have hO1 : okO A1 F L o f w s c b fi (ya, c1, colW r mm.key W) (some mm) ct := by
      rw [hA1]
      exact hO.lsY hcm
    rw [List.length_map] at hlg
    have e9 : A1.2 = (A.2.1 + k1, A.2.2 + s1) := by rw [hA1]; rfl
    have hW' : colW r mm.key W = wayW mm.key (mm.ins.take (i + 1)) := by rw [hrt, wayW_snoc, hW]
    have lle : (colW r mm.key W).length ≤ (wayW mm.key mm.ins).length := by
      have e : wayW mm.key mm.ins = (mm.ins.drop (i + 1)).foldl (fun w r => colW r mm.key w) (colW r mm.key W) := by
        rw [hW']
        show mm.ins.foldl _ [] = _
        rw [show wayW mm.key (mm.ins.take (i + 1)) = (mm.ins.take (i + 1)).foldl (fun w r => colW r mm.key w) [] from rfl, ← List.foldl_append, List.take_append_drop]
      rw [e]
      exact wayW_le
    refine wv_inc2 f92_42 ?_
    refine wv_s (pc' := 9) f92_45 rfl (fun _ => rfl) ?_
    refine c92_c hkey hk1 hwt k (i + 1) c1 A1 _ (by omega) hW' hO1 (fun A' yc' q1 q2 q3 q4 => hQ A' yc' q1 ?_ ?_ ?_)
    · rw [e9] at q2
      have := hlg.2.1
      simp only at q2
      omega
    · rw [e9] at q3
      have := hlg.2.2.1
      simp only at q3
      omega
    · have := hlg.2.2.2
      omega
theorem c92_s {Q : gO → gA → Prop} (hyn : y.2.2.length = n) : ∀ (k i : Nat) (K : List Bool) (A : gA), i + k = s.2.2.length → K.length = n → okO A F ((q, vN .boolean n (bF K)) :: L) o f w s c b fi y (some mm) ct →
    (∀ A', okO A' F ((q, vN .boolean n (bF (((s.2.2.drop i).map SnD.m).foldl (fun K m => kpA m y.2.2 K) K))) :: L) o f w s c b fi y (some mm) ct → A'.2 = A.2 → Wv sc 8 92 108 [some (.ref o), some (.ref mm.a), some (.ref q), some (.int (zI s.2.2.length)), none] [] A' Q) →
    Wv sc 8 92 72 [some (.ref o), some (.ref mm.a), some (.ref q), some (.int (zI i)), none] [] A Q
  | 0, i, K, A, hik, hK, hO, hQ => by
    have h1 := hO.ob
    have h2 := hO.sl
    have e1 : s.2.2.drop i = [] := List.drop_of_length_le (by omega)
    rw [e1] at hQ
    have e2 : i = s.2.2.length := by omega
    have hQ := hQ A hO rfl
    refine wv_s f92_72 rfl (fun _ => rfl) ?_
    refine wv_s f92_73 rfl (fun _ => rfl) ?_
    refine wv_getfield f92_74 (h1) (by rfl) ?_
    refine wv_lsize f92_77 (h2) (by omega) (by simp) (fun hs => ?_)
    rw [List.length_map] at hs ⊢
    refine wv_cT_ge f92_80 (by omega) (by omega) (by omega) ?_
    rw [e2]
    exact hQ
  | k + 1, i, K, A, hik, hK, hO, hQ => by
    have h1 := hO.ob
    have h2 := hO.sl
    obtain ⟨v, hvm, hv0, hv1, hvd, hvt⟩ := at_i (show i < s.2.2.length by omega)
    obtain ⟨hv, hvi, hvm2⟩ := hO.sn hvm
    rw [hvd, List.map_cons, List.foldl_cons] at hQ
    refine wv_s f92_72 rfl (fun _ => rfl) ?_
    refine wv_s f92_73 rfl (fun _ => rfl) ?_
    refine wv_getfield f92_74 (h1) (by rfl) ?_
    refine wv_lsize f92_77 (h2) (by omega) (by simp) (fun hs => ?_)
    rw [List.length_map] at hs ⊢
    refine wv_cF_ge f92_80 (by omega) (by omega) (by omega) ?_
    refine wv_s f92_83 rfl (fun _ => rfl) ?_
    refine wv_s f92_84 rfl (fun _ => rfl) ?_
    refine wv_getfield f92_85 (h1) (by rfl) ?_
    refine wv_s f92_88 rfl (fun _ => rfl) ?_
    refine wv_lget f92_89 (h2) (by first | rfl | omega) (hv1 _) (by omega) (by simp) ?_
    refine wv_cast f92_92 (hv) ?_
    refine wv_getfield f92_95 (hv) (by rfl) ?_
    refine wv_s f92_98 rfl (fun _ => rfl) ?_
    refine wv_effV f92_99 (by decide) (by simp) (by simp) (by decide +kernel) (h1) (by rfl) (by decide +kernel) rfl (c65 hyn hvm2 hK hO) (by omega) (fun A1 hA1 => ?_)
    refine wv_inc3 f92_102 ?_
    refine wv_s (pc' := 72) f92_105 rfl (fun _ => rfl) ?_
    refine c92_s hyn k (i + 1) (kpA v.m y.2.2 K) A1 (by omega) (by rw [kpA_len]; exact hK) hA1.1 (fun A' q1 q2 => hQ A' q1 (q2.trans hA1.2))
/-- what is kept, and what is dropped -/
theorem c92_k {W : List ChD} {K : List Bool} {yc : Nat} (hK : K.length = W.length) (hkl : mm.kept.length + W.length < 2600) : ∀ (k i : Nat) (A : gA) (kc : Nat) (ct1 : CtD) (x4 : Option Value), i + k = W.length → ctK ct1 = ctKs ct 0 0 → okO A F ((q, vN .boolean W.length (bF K)) :: L) o f w s c b fi (ya, yc, W) (some (mm.setK kc (mm.kept ++ selB (W.take i) (K.take i)))) ct1 →
    Wv sc 8 92 177 [some (.ref o), some (.ref mm.a), some (.ref q), some (.int (zI i)), x4] [] A (fun v A' => v = .inl none ∧ ∃ kc' ct', ctK ct' = ctKs ct 0 0 ∧ okO A' F L o f w s c b fi (ya, yc, W) (some (mm.setK kc' (mm.kept ++ selB W K))) ct' ∧ 5 * A'.2.1 + kc ≤ 5 * A.2.1 + kc' ∧ A'.2.2 + 4 * kc ≤ A.2.2 + 4 * kc' ∧ (kc' ≤ kc ∨ kc' ≤ 10 + 2 * (mm.kept ++ selB W K).length))
  | 0, i, A, kc, ct1, x4, hik, hct, hO => by
    have h1 := hO.ob
    have h2 : A.1 ya = some (vL yc (W.map ChD.a)) := hO.yl
    have e1 : W.take i = W := List.take_of_length_le (by omega)
    have e2 : K.take i = K := List.take_of_length_le (by omega)
    rw [e1, e2] at hO
    have hO1 : okO A F L o f w s c b fi (ya, yc, W) (some (mm.setK kc (mm.kept ++ selB W K))) ct1 := ⟨hO.pop.tl, hO.2⟩
    refine wv_s f92_177 rfl (fun _ => rfl) ?_
    refine wv_s f92_178 rfl (fun _ => rfl) ?_
    refine wv_getfield f92_179 (h1) (by rfl) ?_
    refine wv_lsize f92_182 (h2) (by omega) (by simp) (fun hs => ?_)
    rw [List.length_map] at hs ⊢
    refine wv_cT_ge f92_185 (by omega) (by omega) (by omega) ?_
    exact wv_vret f92_251 (by decide +kernel) (⟨rfl, kc, ct1, hct, hO1, by omega, by omega, .inl (by omega)⟩)
  | k + 1, i, A, kc, ct1, x4, hik, hct, hO => by
    have h1 := hO.ob
    have h2 : A.1 ya = some (vL yc (W.map ChD.a)) := hO.yl
    have h3 := hO.atL
    have hm : A.1 mm.a = some (cMe (mm.setK kc (mm.kept ++ selB (W.take i) (K.take i)))) := hO.me1.1
    have hka : A.1 mm.ka = some (vL kc ((mm.kept ++ selB (W.take i) (K.take i)).map ChD.a)) := hO.me1.2
    obtain ⟨v, hvm, hv0, hv1, hvd, hvt⟩ := at_i (show i < W.length by omega)
    have hvF : okCh F v := hO.2.2.2.2.2.2.1 v hvm
    have hv := hvF.ext hO.1.1
    have hv2 := hv.1
    have hvk := hv.2.1
    have ltk : (W.take i).length = i := by rw [List.length_take]; omega
    have ltK : (K.take i).length = i := by rw [List.length_take]; omega
    have esn : selB (W.take (i + 1)) (K.take (i + 1)) = selB (W.take i) (K.take i) ++ (if K.getD i false then [v] else []) := by
      rw [hvt, show K.take (i + 1) = K.take i ++ [K.getD i false] by rw [List.take_succ_eq_append_getElem (by omega), List.getD_eq_getElem?_getD, List.getElem?_eq_getElem (by omega)]; rfl]
      exact selB_snoc (by rw [ltk, ltK])
    have slen := @selB_len (W.take i) (K.take i)
    have nxt : ∀ A1 kc1 ct2 x4, ctK ct2 = ctKs ct 0 0 → okO A1 F ((q, vN .boolean W.length (bF K)) :: L) o f w s c b fi (ya, yc, W) (some (mm.setK kc1 (mm.kept ++ selB (W.take (i + 1)) (K.take (i + 1))))) ct2 → 5 * A1.2.1 + kc ≤ 5 * A.2.1 + kc1 → A1.2.2 + 4 * kc ≤ A.2.2 + 4 * kc1 → (kc1 ≤ kc ∨ kc1 ≤ 10 + 2 * (mm.kept ++ selB W K).length) →
        Wv sc 8 92 245 [some (.ref o), some (.ref mm.a), some (.ref q), some (.int (zI i)), x4] [] A1 (fun v A' => v = .inl none ∧ ∃ kc' ct', ctK ct' = ctKs ct 0 0 ∧ okO A' F L o f w s c b fi (ya, yc, W) (some (mm.setK kc' (mm.kept ++ selB W K))) ct' ∧ 5 * A'.2.1 + kc ≤ 5 * A.2.1 + kc' ∧ A'.2.2 + 4 * kc ≤ A.2.2 + 4 * kc' ∧ (kc' ≤ kc ∨ kc' ≤ 10 + 2 * (mm.kept ++ selB W K).length)) := by
      intro A1 kc1 ct2 x4 g1 g2 g3 g4 g5
      refine wv_inc3 f92_245 ?_
      refine wv_s (pc' := 177) f92_248 rfl (fun _ => rfl) ?_
      refine (c92_k hK hkl k (i + 1) A1 kc1 ct2 x4 (by omega) g1 g2).up (Nat.le_refl _) (fun v A' h => ?_)
      obtain ⟨p1, kc', ct', p2, p3, p4, p5, p6⟩ := h
      exact ⟨p1, kc', ct', p2, p3, by omega, by omega, by omega⟩
    refine wv_s f92_177 rfl (fun _ => rfl) ?_
    refine wv_s f92_178 rfl (fun _ => rfl) ?_
    refine wv_getfield f92_179 (h1) (by rfl) ?_
    refine wv_lsize f92_182 (h2) (by omega) (by simp) (fun hs => ?_)
    rw [List.length_map] at hs ⊢
    refine wv_cF_ge f92_185 (by omega) (by omega) (by omega) ?_
    refine wv_s f92_188 rfl (fun _ => rfl) ?_
    refine wv_s f92_189 rfl (fun _ => rfl) ?_
    refine wv_alenN f92_190 (h3) ?_
    refine wv_cF_ge f92_191 (by omega) (by omega) (by omega) ?_
    refine wv_s f92_194 rfl (fun _ => rfl) ?_
    refine wv_getfield f92_195 (h1) (by rfl) ?_
    refine wv_s f92_198 rfl (fun _ => rfl) ?_
    refine wv_lget f92_199 (h2) (by first | rfl | omega) (hv1 _) (by omega) (by simp) ?_
    refine wv_cast f92_202 (hv2) ?_
    refine wv_st4 f92_205 rfl (fun _ _ => rfl) ?_
    refine wv_s f92_207 rfl (fun _ => rfl) ?_
    refine wv_s f92_208 rfl (fun _ => rfl) ?_
    refine wv_baload (j := i) f92_209 (h3) (by first | rfl | omega) (by omega) (by omega) ?_
    have e0 : bF K i = bI (K.getD i false) := rfl
    rw [e0]
    cases hb : K.getD i false with
    | true =>
      rw [hb, if_pos rfl] at esn
      have hll : ((mm.kept ++ selB (W.take i) (K.take i)).map ChD.a).length = mm.kept.length + (selB (W.take i) (K.take i)).length := by rw [List.length_map, List.length_append]
      have hsub : (selB (W.take i) (K.take i)).length + 1 ≤ (selB W K).length := by
        have e4 : selB W K = selB (W.take i) (K.take i) ++ selB (W.drop i) (K.drop i) := by
          have : ∀ (j : Nat) (W : List ChD) (K : List Bool), selB W K = selB (W.take j) (K.take j) ++ selB (W.drop j) (K.drop j) := by
            intro j
            induction j with
            | zero => intro W K; simp [selB]
            | succ j ih =>
              intro W K
              cases W with
              | nil => simp [selB]
              | cons a W =>
                cases K with
                | nil => simp [selB]
                | cons b K =>
                  simp only [List.take_succ_cons, List.drop_succ_cons, selB]
                  cases b
                  · exact ih W K
                  · exact congrArg (a :: ·) (ih W K)
          exact this i W K
        rw [e4, hvd, show K.drop i = K.getD i false :: K.drop (i + 1) from (@set_split K i true (by omega)).2.2.1, hb, List.length_append]
        simp only [selB]
        simp only [if_true, List.length_cons]
        omega
      refine wv_bF f92_210 (rfl) ?_
      refine wv_s f92_213 rfl (fun _ => rfl) ?_
      refine wv_getfield f92_214 (hm) (by rfl) ?_
      refine wv_s f92_217 rfl (fun _ => rfl) ?_
      refine wv_ladd f92_219 hka hv2 (by decide +kernel) (by rw [hll]; omega) (by omega) (by simp) (fun c1 k1 s1 hlg => ?_)
      rw [hll] at hlg
      have hO1 : okO (aLst A mm.ka (vL c1 ((mm.kept ++ selB (W.take (i + 1)) (K.take (i + 1))).map ChD.a)) k1 s1) F ((q, vN .boolean W.length (bF K)) :: L) o f w s c b fi (ya, yc, W) (some (mm.setK c1 (mm.kept ++ selB (W.take (i + 1)) (K.take (i + 1))))) ct1 :=
        hO.lsK (c' := c1) (kc := k1) (ks := s1) (k' := mm.kept ++ selB (W.take (i + 1)) (K.take (i + 1))) (fun z hz => by
          rw [esn, ← List.append_assoc] at hz
          rcases List.mem_append.mp hz with hz | hz
          · exact (hO.2.2.2.2.2.2.2.1 _ rfl).2.2.2.1 z hz
          · rw [List.mem_singleton.mp hz]
            exact hvF)
      have em : (mm.kept ++ selB (W.take i) (K.take i)).map ChD.a ++ [v.a] = (mm.kept ++ selB (W.take (i + 1)) (K.take (i + 1))).map ChD.a := by
        rw [esn, ← List.append_assoc, List.map_append (l₂ := [v])]
        rfl
      rw [em]
      refine wv_s f92_222 rfl (fun _ => rfl) ?_
      refine wv_s (pc' := 245) f92_223 rfl (fun _ => rfl) ?_
      refine nxt _ c1 ct1 _ hct hO1 ?_ ?_ ?_
      · have := hlg.2.1
        show 5 * (A.2.1 + k1) + kc ≤ _
        omega
      · have := hlg.2.2.1
        show A.2.2 + s1 + 4 * kc ≤ _
        omega
      · have := hlg.2.2.2
        rw [List.length_append]
        omega
    | false =>
      rw [hb, if_neg (by decide), List.append_nil] at esn
      rw [← esn] at hO
      refine wv_bT f92_210 (rfl) ?_
      refine wv_s f92_226 rfl (fun _ => rfl) ?_
      refine wv_getfield f92_228 (hv2) (by rfl) ?_
      refine wv_icon f92_231 ?_
      refine wv_cX_eq f92_232 (by omega) (by omega) (fun hb2 => ?_) (fun hb2 => ?_)
      · exact nxt A kc ct1 _ hct hO (by omega) (by omega) (.inl (by omega))
      · have hO1 := hO.putCt (ct' := (ct1.1, ct1.2.1, ct1.2.2.1, ct1.2.2.2.1, ct1.2.2.2.2.1, ct1.2.2.2.2.2.1, ct1.2.2.2.2.2.2.1, ct1.2.2.2.2.2.2.2.1, ct1.2.2.2.2.2.2.2.2.1, ct1.2.2.2.2.2.2.2.2.2 + zI 1)) hO.ctc
        refine wv_s f92_235 rfl (fun _ => rfl) ?_
        refine wv_s f92_236 rfl (fun _ => rfl) ?_
        refine wv_getfield f92_237 (h1) (by rfl) ?_
        refine wv_icon f92_240 ?_
        refine wv_s f92_241 rfl (fun _ => rfl) ?_
        refine wv_putfield f92_242 (h1) (by simp) (by rfl) ?_
        exact nxt _ kc (ct1.1, ct1.2.1, ct1.2.2.1, ct1.2.2.2.1, ct1.2.2.2.2.1, ct1.2.2.2.2.2.1, ct1.2.2.2.2.2.2.1, ct1.2.2.2.2.2.2.2.1, ct1.2.2.2.2.2.2.2.2.1, ct1.2.2.2.2.2.2.2.2.2 + zI 1) _ hct hO1 (by show 5 * A.2.1 + kc ≤ _; omega) (by show A.2.2 + 4 * kc ≤ _; omega) (.inl (by omega))
theorem bF_rep {n : Nat} : bF (List.replicate n false) = fun _ => 0 := by
  funext j
  unfold bF
  rw [List.getD_eq_getElem?_getD, List.getElem?_replicate]
  split <;> rfl
theorem c92 {kk N : Nat} (hO : okO A F L o f w s (ca, cc, []) b fi y (some mm) ct) (hgm : g ∈ f.2.2) (hmg : mm.h = g.a) (hkey : mm.key = (kk : Int)) (hk1 : kk < 100) (hwt : wtS mm.ins < 2600) (hN : (wayW mm.key mm.ins).length ≤ N) (hkl : mm.kept.length + (wayW mm.key mm.ins).length < 2600) (hw : w.2.2.length ≤ 1000000) :
    Wc sc 8 92 [.ref o, .ref mm.a] A (fun v A' => v = .inl none ∧ ∃ yc' kc' ct', ctK ct' = ctKs ct 0 0 ∧ okO A' F L o f w s (ca, cc, []) b fi (y.1, yc', wayW mm.key mm.ins) (some (mm.setK kc' (mm.kept ++ selB (wayW mm.key mm.ins) (sfK w.2.2.length (s.2.2.map SnD.m) (ovBl ((mm.lv : Int) + 1) mm.key mm.key 1 (g.lv.drop 1)) (wayW mm.key mm.ins))))) ct' ∧
      5 * A'.2.1 + (y.2.1 + mm.kc) ≤ 5 * A.2.1 + (yc' + kc') + 5 ∧ A'.2.2 + 4 * (y.2.1 + mm.kc) ≤ A.2.2 + 4 * (yc' + kc') + N ∧ (yc' ≤ y.2.1 ∨ yc' ≤ 10 + 2 * N) ∧ (kc' ≤ mm.kc ∨ kc' ≤ 10 + 2 * (mm.kept.length + N))) := by
  show Wv sc 8 92 0 [some (.ref o), some (.ref mm.a), none, none, none] [] A _
  have h1 := hO.ob
  have h2 := hO.yl
  refine wv_s f92_0 rfl (fun _ => rfl) ?_
  refine wv_getfield f92_1 (by assumption) (by rfl) ?_
  refine wv_lclear f92_4 (by assumption) (by omega) (by simp) ?_
  refine wv_icon f92_7 ?_
  refine wv_st2 f92_8 rfl (fun _ _ => rfl) ?_
  have hO1 : okO (aPut A y.1 (vL y.2.1 [])) F L o f w s (ca, cc, []) b fi (y.1, y.2.1, []) (some mm) ct := hO.lsY (kc := 0) (ks := 0) (c' := y.2.1) (l := []) (fun x hx => by cases hx)
  refine c92_c hkey hk1 hwt mm.ins.length 0 y.2.1 _ [] (by omega) rfl hO1 (fun A2 yc' q1 q2 q3 q4 => ?_)
  generalize hW : wayW mm.key mm.ins = W at q1 q4 hN hkl ⊢
  have h3 := q1.ob
  have h4 : A2.1 y.1 = some (vL yc' (W.map ChD.a)) := q1.yl
  have hWl : W.length < 2600 := by omega
  refine wv_s f92_48 rfl (fun _ => rfl) ?_
  refine wv_getfield f92_49 (h3) (by rfl) ?_
  refine wv_lsize f92_52 (h4) (by omega) (by simp) (fun hs => ?_)
  rw [List.length_map] at hs ⊢
  refine wv_newarr (n := W.length) f92_55 (by first | rfl | omega) (by omega) (fun q hq => ?_)
  have hO3 := okO.push q1.2 (q1.1.new (n := W.length) (c := vN .boolean W.length (bF (List.replicate W.length false))) hq)
  rw [show (vN (newarray.typeOf ArrayType.boolean) W.length fun _ => 0) = vN .boolean W.length (bF (List.replicate W.length false)) by rw [bF_rep]; rfl]
  have h5 := hO3.ob
  have h6 := hO3.wl
  refine wv_st2 f92_57 rfl (fun _ _ => rfl) ?_
  refine wv_s f92_58 rfl (fun _ => rfl) ?_
  refine wv_s f92_59 rfl (fun _ => rfl) ?_
  refine wv_getfield f92_60 (by assumption) (by rfl) ?_
  refine wv_lsize f92_63 h6 (by omega) (by simp) (fun hs2 => ?_)
  rw [List.length_map] at hs2 ⊢
  refine wv_s f92_66 rfl (fun _ => rfl) ?_
  refine wv_effV f92_67 (by decide) (by simp) (by simp) (by decide +kernel) h5 (by rfl) (by decide +kernel) rfl (c65 (y := (y.1, yc', W)) rfl hw (by rw [List.length_replicate]) hO3) (by omega) (fun A4 hA4 => ?_)
  obtain ⟨g1, g2⟩ := hA4
  refine wv_icon f92_70 ?_
  refine wv_st3 f92_71 rfl (fun _ _ => rfl) ?_
  refine c92_s (y := (y.1, yc', W)) rfl s.2.2.length 0 _ A4 (by omega) (by rw [kpA_len, List.length_replicate]) g1 (fun A5 p1 p2 => ?_)
  rw [List.drop_zero] at p1
  have h7 := p1.ob
  have h8 : A5.1 ca = some (vL cc []) := p1.cl
  refine wv_icon f92_108 ?_
  refine wv_st3 f92_109 rfl (fun _ _ => rfl) ?_
  refine wv_s f92_110 rfl (fun _ => rfl) ?_
  refine wv_s f92_111 rfl (fun _ => rfl) ?_
  refine wv_getfield f92_112 h7 (by rfl) ?_
  refine wv_lsize f92_115 h8 (by omega) (by simp) (fun _ => ?_)
  rw [show ([] : List Nat).length = 0 from rfl]
  refine wv_cT_ge f92_118 (by omega) (by omega) (by omega) ?_
  have hm := p1.me1.1
  have hmg2 : A5.1 mm.a = some (vO 7 [.ref g.a, .int (zI mm.lv), .ref mm.ia, .ref mm.ka, .int (zI mm.sg), .int (zI mm.key), .int (zI mm.dn)]) := by
    rw [← hmg]
    exact hm
  have hlv := (p1.me2).1
  have hfm := p1.fm hgm
  have hfm1 := hfm.1
  have hkl0 : (((s.2.2.map SnD.m).foldl (fun K m => kpA m W K) (kpA w.2.2.length W (List.replicate W.length false)))).length = W.length := by
    have h : ∀ (ms : List Nat) (K : List Bool), (ms.foldl (fun K m => kpA m W K) K).length = K.length := by
      intro ms
      induction ms with
      | nil => intro K; rfl
      | cons m ms ih => intro K; rw [List.foldl_cons, ih, kpA_len]
    rw [h, kpA_len, List.length_replicate]
  have fin : ∀ (A6 : gA) (K : List Bool), K.length = W.length → A6.2 = A5.2 → okO A6 F ((q, vN .boolean W.length (bF K)) :: L) o f w s (ca, cc, []) b fi (y.1, yc', W) (some mm) ct → sfK w.2.2.length (s.2.2.map SnD.m) (ovBl ((mm.lv : Int) + 1) mm.key mm.key 1 (g.lv.drop 1)) W = K → ∀ x3 x4,
      Wv sc 8 92 175 [some (.ref o), some (.ref mm.a), some (.ref q), x3, x4] [] A6 (fun v A' => v = .inl none ∧ ∃ yc' kc' ct', ctK ct' = ctKs ct 0 0 ∧ okO A' F L o f w s (ca, cc, []) b fi (y.1, yc', W) (some (mm.setK kc' (mm.kept ++ selB W (sfK w.2.2.length (s.2.2.map SnD.m) (ovBl ((mm.lv : Int) + 1) mm.key mm.key 1 (g.lv.drop 1)) W)))) ct' ∧
      5 * A'.2.1 + (y.2.1 + mm.kc) ≤ 5 * A.2.1 + (yc' + kc') + 5 ∧ A'.2.2 + 4 * (y.2.1 + mm.kc) ≤ A.2.2 + 4 * (yc' + kc') + N ∧ (yc' ≤ y.2.1 ∨ yc' ≤ 10 + 2 * N) ∧ (kc' ≤ mm.kc ∨ kc' ≤ 10 + 2 * (mm.kept.length + N))) := by
    intro A6 K hK e6 hO6 hsf x3 x4
    rw [hsf]
    refine wv_icon f92_175 ?_
    refine wv_st3 f92_176 rfl (fun _ _ => rfl) ?_
    have hO7 : okO A6 F ((q, vN .boolean W.length (bF K)) :: L) o f w s (ca, cc, []) b fi (y.1, yc', W) (some (mm.setK mm.kc (mm.kept ++ selB (W.take 0) (K.take 0)))) ct := by
      rw [List.take_zero, List.take_zero, show selB [] [] = [] from rfl, List.append_nil]
      exact hO6
    refine (c92_k (mm := mm) hK hkl W.length 0 A6 mm.kc ct x4 (by omega) rfl hO7).up (Nat.le_refl _) (fun v A' h => ?_)
    obtain ⟨r1, kc', ct', r2, r3, r4, r5, r6⟩ := h
    have ee : A6.2 = (A2.2.1 + 1, A2.2.2 + W.length) := e6.trans (p2.trans (g2.trans rfl))
    rw [ee] at r4 r5
    simp only at r4 r5
    have q2' : 5 * A2.2.1 + y.2.1 ≤ 5 * A.2.1 + yc' := q2
    have q3' : A2.2.2 + 4 * y.2.1 ≤ A.2.2 + 4 * yc' := q3
    have sl := @selB_len W K
    rw [List.length_append] at r6
    exact ⟨r1, yc', kc', ct', r2, r3, by omega, by omega, by omega, by omega⟩
  refine wv_s f92_146 rfl (fun _ => rfl) ?_
  refine wv_getfield f92_147 (hmg2) (by rfl) ?_
  refine wv_s f92_150 rfl (fun _ => rfl) ?_
  refine wv_getfield f92_151 (hmg2) (by rfl) ?_
  refine wv_icon f92_154 ?_
  refine wv_iadd f92_155 ?_
  refine wv_s f92_156 rfl (fun _ => rfl) ?_
  refine wv_getfield f92_157 (hmg2) (by rfl) ?_
  refine wv_s f92_160 rfl (fun _ => rfl) ?_
  refine wv_getfield f92_161 (hmg2) (by rfl) ?_
  refine wv_valV f92_164 (by decide) (by simp) (by simp) (by decide +kernel) (by assumption) (by rfl) (by decide +kernel) rfl (c111 hfm (fun l hl => p1.lv hgm hl) (by omega) (by omega) (by omega)) (by omega) ?_
  cases hov : ovBl ((mm.lv : Int) + 1) mm.key mm.key 1 (g.lv.drop 1) with
  | true =>
    rw [hov] at fin
    refine wv_nT f92_167 rfl ?_
    exact fin A5 _ hkl0 rfl p1 (by unfold sfK; rw [if_pos rfl]) _ _
  | false =>
    rw [hov] at fin
    refine wv_nF f92_167 rfl ?_
    refine wv_s f92_170 rfl (fun _ => rfl) ?_
    refine wv_s f92_171 rfl (fun _ => rfl) ?_
    refine wv_effV f92_172 (by decide) (by simp) (by simp) (by decide +kernel) (by assumption) (by rfl) (by decide +kernel) rfl (c42 (y := (y.1, yc', W)) rfl (by omega) hkl0 p1) (by omega) (fun A6 hA6 => ?_)
    exact fin A6 _ (by rw [dlK_len]; exact hkl0) hA6.2 hA6.1 (by unfold sfK; rw [if_neg (by decide)]) _ _
end SF
