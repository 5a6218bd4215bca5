/-! WHO OWNS WHAT: cells that may change, each once; new objects -/
theorem wv_newZ {sc : gSc} {d m pc : Nat} {ls : gL} {st : List Value} {A : gA} {Q : gO → gA → Prop} {a b len i : Nat} {zs : List Value} (hf : gFetch m pc = some (.new i, len, a, b)) (ha : a < 12) (h0 : 0 < a) (hz : (List.range (gN a)).map (fun k => gZ (gTy a k)) = zs) (hn : ∀ q, A.1 q = none → Wv sc d m (pc + 3) ls (.ref q :: st) (aNew A q (vO a zs) (gN a)) Q) : Wv sc d m pc ls st A Q :=
  wv_new hf ha h0 (fun q hq => by rw [hz]; exact hn q hq)
def Own (A : gA) (F : Nat → Option vC) (L : List (Nat × vC)) : Prop := Sub F A ∧ (∀ p, p ∈ L → A.1 p.1 = some p.2 ∧ F p.1 = none) ∧ (L.map Prod.fst).Nodup
def fz (F : Nat → Option vC) (q : Nat) (c : vC) : Nat → Option vC := fun x => if x = q then some c else F x
section OW
variable {A : gA} {F : Nat → Option vC} {L L1 L2 : List (Nat × vC)} {q n kc ks : Nat} {c c0 : vC}
theorem Own.at (h : Own A F L) (hm : (q, c) ∈ L) : A.1 q = some c := (h.2.1 _ hm).1
theorem Own.nf (h : Own A F L) (hm : (q, c) ∈ L) : F q = none := (h.2.1 _ hm).2
theorem Own.fresh (h : Own A F L) (hq : A.1 q = none) : q ∉ L.map Prod.fst := by
  intro hm
  obtain ⟨p, hp, rfl⟩ := List.mem_map.mp hm
  rw [(h.2.1 p hp).1] at hq
  cases hq
theorem Own.new (h : Own A F L) (hq : A.1 q = none) : Own (aNew A q c n) F ((q, c) :: L) := by
  refine ⟨h.1.new hq, fun p hp => ?_, ?_⟩
  · rcases List.mem_cons.mp hp with rfl | hp9
    · exact ⟨aNew_self, h.1.free hq⟩
    · rw [aNew_ne (by
        rintro rfl
        rw [(h.2.1 p hp9).1] at hq
        cases hq)]
      exact h.2.1 p hp9
  · rw [List.map_cons, List.nodup_cons]
    exact ⟨h.fresh hq, h.2.2⟩
theorem Own.lst (h : Own A F (L1 ++ (q, c0) :: L2)) : Own (aLst A q c kc ks) F (L1 ++ (q, c) :: L2) := by
  have hq : F q = none := h.nf (List.mem_append_right _ (List.mem_cons_self ..))
  have hn := h.2.2
  rw [List.map_append, List.map_cons] at hn
  have hn2 : q ∉ L1.map Prod.fst ∧ q ∉ L2.map Prod.fst := by
    rw [List.nodup_append] at hn
    obtain ⟨h1, h2, h3⟩ := hn
    refine ⟨fun hm => h3 q hm q (List.mem_cons_self ..) rfl, (List.nodup_cons.mp h2).1⟩
  refine ⟨h.1.lst hq, fun p hp => ?_, ?_⟩
  · rcases List.mem_append.mp hp with hp | hp
    · rw [aLst_ne (by intro w; exact hn2.1 (by rw [← w]; exact List.mem_map_of_mem hp))]
      exact h.2.1 p (List.mem_append_left _ hp)
    · rcases List.mem_cons.mp hp with rfl | hp
      · exact ⟨aLst_self, hq⟩
      · rw [aLst_ne (by intro w; exact hn2.2 (by rw [← w]; exact List.mem_map_of_mem hp))]
        exact h.2.1 p (List.mem_append_right _ (List.mem_cons_of_mem _ hp))
  · rw [List.map_append, List.map_cons]
    exact hn
theorem Own.put (h : Own A F (L1 ++ (q, c0) :: L2)) : Own (aPut A q c) F (L1 ++ (q, c) :: L2) := h.lst (kc := 0) (ks := 0)
theorem Own.ext_fz (h : Own A F ((q, c) :: L)) : Ext F (fz F q c) := fun x y hx => by
  unfold fz
  rw [if_neg (by
    rintro rfl
    rw [h.nf (List.mem_cons_self ..)] at hx
    cases hx)]
  exact hx
theorem Own.frz (h : Own A F ((q, c) :: L)) : Own A (fz F q c) L := by
  have hn := List.nodup_cons.mp h.2.2
  refine ⟨fun x y hx => ?_, fun p hp => ?_, hn.2⟩
  · unfold fz at hx
    by_cases hxq : x = q
    · rw [if_pos hxq] at hx
      cases hx
      rw [hxq]
      exact h.at (List.mem_cons_self ..)
    · rw [if_neg hxq] at hx
      exact h.1 x y hx
  · obtain ⟨h1, h2⟩ := h.2.1 p (List.mem_cons_of_mem _ hp)
    refine ⟨h1, ?_⟩
    unfold fz
    have h9 := List.mem_map_of_mem (f := Prod.fst) hp
    rw [if_neg (by intro w; rw [w] at h9; exact hn.1 h9)]
    exact h2
theorem fz_self : fz F q c q = some c := if_pos rfl
theorem Own.perm {L' : List (Nat × vC)} (h : Own A F L) (hp : L.Perm L') : Own A F L' := ⟨h.1, fun p hm => h.2.1 p (hp.mem_iff.mpr hm), (hp.map Prod.fst).nodup_iff.mp h.2.2⟩
theorem Own.sub {L' : List (Nat × vC)} (h : Own A F L) (hp : L'.Sublist L) : Own A F L' := ⟨h.1, fun p hm => h.2.1 p (hp.subset hm), (hp.map Prod.fst).nodup h.2.2⟩
theorem Own.tl (h : Own A F ((q, c) :: L)) : Own A F L := h.sub (List.sublist_cons_self ..)
theorem Own.cnt (h : Own A F L) : Own (A.1, A.2.1 + kc, A.2.2 + ks) F L := h
theorem ext_new (hq : A.1 q = none) : Ext A.1 (aNew A q c n).1 := fun x y hx => by
  rw [aNew_ne (by
    rintro rfl
    rw [hq] at hx
    cases hx)]
  exact hx
end OW
section C5
variable {sc : gSc} {d : Nat} {A : gA} {c : ChD} {x y : Int} {r : RunD} {F : Nat → Option vC} {q : Nat} {v0 v1 v2 v3 v4 v5 v6 : Value}
theorem c101 {k n f t : Int} {am : Int32} (hq : A.1 q = some (vO 2 [v0, v1, v2, v3, v4])) : Wc sc 0 101 [.ref q, .int (zI k), .int (zI n), .int (zI f), .int (zI t), .int am] A (fun o A' => o = .inl none ∧ A' = aPut A q (vO 2 [.int (zI k), .int (zI n), .int (zI f), .int (zI t), .int am])) := by
  show Wv sc 0 101 0 [some (.ref q), some (.int (zI k)), some (.int (zI n)), some (.int (zI f)), some (.int (zI t)), some (.int am)] [] A _
  refine wv_s f101_0 rfl (fun _ => rfl) ?_
  refine wv_objI f101_1 (by simp) ?_
  refine wv_s f101_4 rfl (fun _ => rfl) ?_
  refine wv_s f101_5 rfl (fun _ => rfl) ?_
  refine wv_putfield f101_6 (hq) (by simp) (by rfl) ?_
  refine wv_s f101_9 rfl (fun _ => rfl) ?_
  refine wv_s f101_10 rfl (fun _ => rfl) ?_
  refine wv_putfield f101_11 (aPut_self) (by simp) (by rfl) ?_
  refine wv_s f101_14 rfl (fun _ => rfl) ?_
  refine wv_s f101_15 rfl (fun _ => rfl) ?_
  refine wv_putfield f101_16 (aPut_self) (by simp) (by rfl) ?_
  refine wv_s f101_19 rfl (fun _ => rfl) ?_
  refine wv_s f101_20 rfl (fun _ => rfl) ?_
  refine wv_putfield f101_22 (aPut_self) (by simp) (by rfl) ?_
  refine wv_s f101_25 rfl (fun _ => rfl) ?_
  refine wv_s f101_26 rfl (fun _ => rfl) ?_
  refine wv_putfield f101_28 (aPut_self) (by simp) (by rfl) ?_
  exact wv_vret f101_31 (by decide +kernel) (⟨rfl, by simp only [aPut_put]; rfl⟩)
theorem c103 {id ho mo : Nat} (hq : A.1 q = some (vO 3 [v0, v1, v2, v3])) : Wc sc 0 103 [.ref q, .int (zI id), .ref ho, .int (zI mo)] A (fun o A' => o = .inl none ∧ A' = aPut A q (vO 3 [.int (zI id), .ref ho, .int (zI mo), .int (zI (-1))])) := by
  show Wv sc 0 103 0 [some (.ref q), some (.int (zI id)), some (.ref ho), some (.int (zI mo))] [] A _
  refine wv_s f103_0 rfl (fun _ => rfl) ?_
  refine wv_objI f103_1 (by simp) ?_
  refine wv_s f103_4 rfl (fun _ => rfl) ?_
  refine wv_icon f103_5 ?_
  refine wv_putfield f103_6 (hq) (by simp) (by rfl) ?_
  refine wv_s f103_9 rfl (fun _ => rfl) ?_
  refine wv_s f103_10 rfl (fun _ => rfl) ?_
  refine wv_putfield f103_11 (aPut_self) (by simp) (by rfl) ?_
  refine wv_s f103_14 rfl (fun _ => rfl) ?_
  refine wv_s f103_15 rfl (fun _ => rfl) ?_
  refine wv_putfield f103_16 (aPut_self) (by simp) (by rfl) ?_
  refine wv_s f103_19 rfl (fun _ => rfl) ?_
  refine wv_s f103_20 rfl (fun _ => rfl) ?_
  refine wv_putfield f103_21 (aPut_self) (by simp) (by rfl) ?_
  exact wv_vret f103_24 (by decide +kernel) (⟨rfl, by simp only [aPut_put]; rfl⟩)
theorem c149 {id mo : Nat} (hq : A.1 q = some (vO 9 [v0, v1])) : Wc sc 0 149 [.ref q, .int (zI id), .int (zI mo)] A (fun o A' => o = .inl none ∧ A' = aPut A q (vO 9 [.int (zI id), .int (zI mo)])) := by
  show Wv sc 0 149 0 [some (.ref q), some (.int (zI id)), some (.int (zI mo))] [] A _
  refine wv_s f149_0 rfl (fun _ => rfl) ?_
  refine wv_objI f149_1 (by simp) ?_
  refine wv_s f149_4 rfl (fun _ => rfl) ?_
  refine wv_s f149_5 rfl (fun _ => rfl) ?_
  refine wv_putfield f149_6 (hq) (by simp) (by rfl) ?_
  refine wv_s f149_9 rfl (fun _ => rfl) ?_
  refine wv_s f149_10 rfl (fun _ => rfl) ?_
  refine wv_putfield f149_11 (aPut_self) (by simp) (by rfl) ?_
  exact wv_vret f149_14 (by decide +kernel) (⟨rfl, by simp only [aPut_put]; rfl⟩)
theorem c150 {g ca : Nat} {s z : Int} (hq : A.1 q = some (vO 10 [v0, v1, v2, v3])) : Wc sc 0 150 [.ref q, .int (zI g), .ref ca, .int (zI s), .int (zI z)] A (fun o A' => o = .inl none ∧ A' = aPut A q (vO 10 [.int (zI g), .ref ca, .int (zI s), .int (zI z)])) := by
  show Wv sc 0 150 0 [some (.ref q), some (.int (zI g)), some (.ref ca), some (.int (zI s)), some (.int (zI z))] [] A _
  refine wv_s f150_0 rfl (fun _ => rfl) ?_
  refine wv_objI f150_1 (by simp) ?_
  refine wv_s f150_4 rfl (fun _ => rfl) ?_
  refine wv_s f150_5 rfl (fun _ => rfl) ?_
  refine wv_putfield f150_6 (hq) (by simp) (by rfl) ?_
  refine wv_s f150_9 rfl (fun _ => rfl) ?_
  refine wv_s f150_10 rfl (fun _ => rfl) ?_
  refine wv_putfield f150_11 (aPut_self) (by simp) (by rfl) ?_
  refine wv_s f150_14 rfl (fun _ => rfl) ?_
  refine wv_s f150_15 rfl (fun _ => rfl) ?_
  refine wv_putfield f150_16 (aPut_self) (by simp) (by rfl) ?_
  refine wv_s f150_19 rfl (fun _ => rfl) ?_
  refine wv_s f150_20 rfl (fun _ => rfl) ?_
  refine wv_putfield f150_22 (aPut_self) (by simp) (by rfl) ?_
  exact wv_vret f150_25 (by decide +kernel) (⟨rfl, by simp only [aPut_put]; rfl⟩)
/-- what filterOf leaves -/
def filP (A : gA) (n : Nat) (v : Value) (A' : gA) : Prop := ∃ q ff, A.1 q = none ∧ v = .ref q ∧ A' = aNew A q (vN .boolean n ff) n
theorem c141_t {l : List ChD} {la lc n : Nat} {Q : gO → gA → Prop} {x1 : Option Value} (hq : A.1 q = none) (hl : A.1 la = some (vL lc (l.map ChD.a))) (hk : ∀ c, c ∈ l → okCh A.1 c) (hn : n ≤ 32000) {i : Nat} (hi : i < l.length) : ∀ (k t : Nat) (ff : Nat → Int32) (x5 : Option Value), t + k = 3 →
    (∀ ff x4 x5, Wv sc 4 141 121 [some (.ref la), x1, some (.ref q), some (.int (zI i)), x4, x5] [] (aNew A q (vN .boolean n ff) n) Q) →
    Wv sc 4 141 72 [some (.ref la), x1, some (.ref q), some (.int (zI i)), some (.int (zI t)), x5] [] (aNew A q (vN .boolean n ff) n) Q
  | 0, t, ff, x5, hkt, hQ => by
    have hQ := hQ ff (some (.int (zI t))) x5
    refine wv_s f141_72 rfl (fun _ => rfl) ?_
    refine wv_icon f141_74 ?_
    refine wv_cT_ge f141_75 (by omega) (by omega) (by omega) ?_
    exact hQ
  | k + 1, t, ff, x5, hkt, hQ => by
    have he := ext_new (c := vN .boolean n ff) (n := n) hq
    obtain ⟨z, hzm, hz0, hz1, hzd, -⟩ := at_i hi
    have hz := (hk z hzm).ext he
    have hz2 := hz.1
    have hzf := hz.2.2.2.1
    have hl2 := he _ _ hl
    have ha : (aNew A q (vN .boolean n ff) n).1 q = some (vN .boolean n ff) := aNew_self
    refine wv_s f141_72 rfl (fun _ => rfl) ?_
    refine wv_icon f141_74 ?_
    refine wv_cF_ge f141_75 (by omega) (by omega) (by omega) ?_
    refine wv_s f141_78 rfl (fun _ => rfl) ?_
    refine wv_s f141_79 rfl (fun _ => rfl) ?_
    refine wv_lget f141_80 (by assumption) (by first | rfl | omega) (hz1 _) (by omega) (by simp) ?_
    refine wv_cast f141_83 (by assumption) ?_
    refine wv_getfield f141_86 (by assumption) (by rfl) ?_
    refine wv_s f141_89 rfl (fun _ => rfl) ?_
    refine wv_s f141_91 rfl (fun _ => rfl) ?_
    refine wv_alenN f141_92 (by assumption) ?_
    refine wv_resS f141_93 (by decide) (by simp) (by simp) (by decide +kernel) (c138 (by omega) (by omega) (by omega)) (by omega) (fun v A1 hv => ?_)
    obtain ⟨w, rfl, hw0, hw1, hA1⟩ := hv
    rw [hA1]
    refine wv_st5 f141_96 rfl (fun _ _ => rfl) ?_
    refine wv_s f141_98 rfl (fun _ => rfl) ?_
    refine wv_zX_lt f141_100 (by omega) (fun hb => ?_) (fun hb => ?_)
    · refine wv_inc4 f141_115 ?_
      refine wv_s (pc' := 72) f141_118 rfl (fun _ => rfl) ?_
      exact c141_t hq hl hk hn hi k (t + 1) ff _ (by omega) hQ
    · refine wv_s f141_103 rfl (fun _ => rfl) ?_
      refine wv_s f141_105 rfl (fun _ => rfl) ?_
      refine wv_alenN f141_106 (by assumption) ?_
      refine wv_cX_ge f141_107 (by omega) (by omega) (fun hb2 => ?_) (fun hb2 => ?_)
      · refine wv_inc4 f141_115 ?_
        refine wv_s (pc' := 72) f141_118 rfl (fun _ => rfl) ?_
        exact c141_t hq hl hk hn hi k (t + 1) ff _ (by omega) hQ
      · refine wv_s f141_110 rfl (fun _ => rfl) ?_
        refine wv_s f141_111 rfl (fun _ => rfl) ?_
        refine wv_icon f141_113 ?_
        refine wv_bastore (j := w.toNat) f141_114 (by assumption) (by first | rfl | omega) (by omega) (by omega) ?_
        rw [aPut_new]
        refine wv_inc4 f141_115 ?_
        refine wv_s (pc' := 72) f141_118 rfl (fun _ => rfl) ?_
        exact c141_t hq hl hk hn hi k (t + 1) _ _ (by omega) hQ
theorem c141_m {l : List ChD} {la lc n : Nat} {x1 : Option Value} (hq : A.1 q = none) (hl : A.1 la = some (vL lc (l.map ChD.a))) (hk : ∀ c, c ∈ l → okCh A.1 c) (hn : n ≤ 32000) : ∀ (k i : Nat) (ff : Nat → Int32) (x4 x5 : Option Value), i + k = l.length →
    Wv sc 4 141 61 [some (.ref la), x1, some (.ref q), some (.int (zI i)), x4, x5] [] (aNew A q (vN .boolean n ff) n) (fun o A' => ∃ v, o = .inl (some v) ∧ filP A n v A')
  | 0, i, ff, x4, x5, hik => by
    have he := ext_new (c := vN .boolean n ff) (n := n) hq
    have hl2 := he _ _ hl
    refine wv_s f141_61 rfl (fun _ => rfl) ?_
    refine wv_s f141_62 rfl (fun _ => rfl) ?_
    refine wv_lsize f141_63 (by assumption) (by omega) (by simp) (fun hs => ?_)
    rw [List.length_map] at hs ⊢
    refine wv_cT_ge f141_66 (by omega) (by omega) (by omega) ?_
    refine wv_s f141_127 rfl (fun _ => rfl) ?_
    exact wv_aret f141_128 (by rfl) (⟨_, rfl, q, ff, hq, rfl, rfl⟩)
  | k + 1, i, ff, x4, x5, hik => by
    have he := ext_new (c := vN .boolean n ff) (n := n) hq
    have hl2 := he _ _ hl
    refine wv_s f141_61 rfl (fun _ => rfl) ?_
    refine wv_s f141_62 rfl (fun _ => rfl) ?_
    refine wv_lsize f141_63 (by assumption) (by omega) (by simp) (fun hs => ?_)
    rw [List.length_map] at hs ⊢
    refine wv_cF_ge f141_66 (by omega) (by omega) (by omega) ?_
    refine wv_icon f141_69 ?_
    refine wv_st4 f141_70 rfl (fun _ _ => rfl) ?_
    refine c141_t hq hl hk hn (i := i) (by omega) 3 0 ff _ (by omega) (fun ff x4 x5 => ?_)
    refine wv_inc3 f141_121 ?_
    refine wv_s (pc' := 61) f141_124 rfl (fun _ => rfl) ?_
    exact c141_m hq hl hk hn k (i + 1) ff _ _ (by omega)
theorem c141_l {l : List ChD} {la lc : Nat} (hl : A.1 la = some (vL lc (l.map ChD.a))) (hk : ∀ c, c ∈ l → okCh A.1 c) (hlen : l.length ≤ 4000) : ∀ (k i n : Nat) (p : Int), i + k = l.length → n ≤ i → (i = 0 ∧ p = -1 ∨ 0 < i ∧ ∃ z : ChD, (l.map ChD.a)[i - 1]? = some z.a ∧ okCh A.1 z ∧ p = (z.f : Int)) →
    Wv sc 4 141 4 [some (.ref la), some (.int (zI n)), some (.int (zI i)), none, none, none] [] A (fun o A' => ∃ v, o = .inl (some v) ∧ filP A (8 * (n + dif p (l.drop i))) v A')
  | 0, i, n, p, hik, hni, hp => by
    have e : l.drop i = [] := List.drop_of_length_le (by omega)
    rw [e]
    refine wv_s f141_4 rfl (fun _ => rfl) ?_
    refine wv_s f141_5 rfl (fun _ => rfl) ?_
    refine wv_lsize f141_6 (by assumption) (by omega) (by simp) (fun hs => ?_)
    rw [List.length_map] at hs ⊢
    refine wv_cT_ge f141_9 (by omega) (by omega) (by omega) ?_
    refine wv_s f141_52 rfl (fun _ => rfl) ?_
    refine wv_bip f141_53 (by decide) ?_
    refine wv_imul f141_55 ?_
    refine wv_newarr (n := 8 * n) f141_56 (by first | rfl | omega) (by omega) (fun q hq => ?_)
    refine wv_st2 f141_58 rfl (fun _ _ => rfl) ?_
    refine wv_icon f141_59 ?_
    refine wv_st3 f141_60 rfl (fun _ _ => rfl) ?_
    exact c141_m hq hl hk (by omega) l.length 0 _ _ _ (by omega)
  | k + 1, i, n, p, hik, hni, hp => by
    have hi : i < l.length := by omega
    obtain ⟨c, hcm, hc0, hc1, hcd, -⟩ := at_i hi
    have hc := (hk c hcm).1
    have hcf := (hk c hcm).2.2.2.1
    rw [hcd]
    have nxt : ∀ n2, n2 = n + (if (c.f : Int) = p then 0 else 1) → Wv sc 4 141 46 [some (.ref la), some (.int (zI n2)), some (.int (zI i)), none, none, none] [] A (fun o A' => ∃ v, o = .inl (some v) ∧ filP A (8 * (n + dif p (c :: l.drop (i + 1)))) v A') := by
      intro n2 h2
      refine wv_inc2 f141_46 ?_
      refine wv_s (pc' := 4) f141_49 rfl (fun _ => rfl) ?_
      have e9 : n + dif p (c :: l.drop (i + 1)) = n2 + dif (c.f : Int) (l.drop (i + 1)) := by
        rw [h2]
        show n + ((if (c.f : Int) = p then 0 else 1) + dif (c.f : Int) (l.drop (i + 1))) = _
        omega
      rw [e9]
      refine c141_l hl hk hlen k (i + 1) n2 (c.f : Int) (by omega) (by split at h2 <;> omega) (.inr ⟨by omega, c, hc1 _, hk c hcm, rfl⟩)
    have nxt1 := nxt (n + 1)
    have nxt0 := nxt n
    refine wv_s f141_4 rfl (fun _ => rfl) ?_
    refine wv_s f141_5 rfl (fun _ => rfl) ?_
    refine wv_lsize f141_6 (by assumption) (by omega) (by simp) (fun hs => ?_)
    rw [List.length_map] at hs ⊢
    refine wv_cF_ge f141_9 (by omega) (by omega) (by omega) ?_
    rcases hp with ⟨h0, hp⟩ | ⟨h0, z, hz1, hz2, hp⟩
    · refine wv_s f141_12 rfl (fun _ => rfl) ?_
      refine wv_zT_eq f141_13 (by omega) (by omega) ?_
      refine wv_inc1 f141_43 ?_
      exact nxt1 (by rw [if_neg (by omega)])
    · have hz := hz2.1
      have hzf := hz2.2.2.2.1
      refine wv_s f141_12 rfl (fun _ => rfl) ?_
      refine wv_zF_eq f141_13 (by omega) (by omega) ?_
      refine wv_s f141_16 rfl (fun _ => rfl) ?_
      refine wv_s f141_17 rfl (fun _ => rfl) ?_
      refine wv_lget f141_18 (by assumption) (by first | rfl | omega) (hc1 _) (by omega) (by simp) ?_
      refine wv_cast f141_21 (by assumption) ?_
      refine wv_getfield f141_24 (by assumption) (by rfl) ?_
      refine wv_s f141_27 rfl (fun _ => rfl) ?_
      refine wv_s f141_28 rfl (fun _ => rfl) ?_
      refine wv_icon f141_29 ?_
      refine wv_isub f141_30 ?_
      refine wv_lget (j := i - 1) f141_31 hl (by omega) hz1 (by omega) (by simp) ?_
      refine wv_cast f141_34 (by assumption) ?_
      refine wv_getfield f141_37 (by assumption) (by rfl) ?_
      refine wv_cX_eq f141_40 (by omega) (by omega) (fun hb => ?_) (fun hb => ?_)
      · exact nxt0 (by rw [if_pos (by omega), Nat.add_zero])
      · refine wv_inc1 f141_43 ?_
        exact nxt1 (by rw [if_neg (by omega)])
theorem c141 {l : List ChD} {la lc : Nat} (hl : A.1 la = some (vL lc (l.map ChD.a))) (hk : ∀ c, c ∈ l → okCh A.1 c) : Wc sc 4 141 [.ref la] A (fun o A' => ∃ v, o = .inl (some v) ∧ filP A (8 * dif (-1) l) v A') := by
  show Wv sc 4 141 0 [some (.ref la), none, none, none, none, none] [] A _
  refine wv_cap hl (fun h1 h2 => ?_)
  rw [List.length_map] at h2
  refine wv_icon f141_0 ?_
  refine wv_st1 f141_1 rfl (fun _ _ => rfl) ?_
  refine wv_icon f141_2 ?_
  refine wv_st2 f141_3 rfl (fun _ _ => rfl) ?_
  refine (c141_l hl hk (by omega) l.length 0 0 (-1) (by omega) (by omega) (.inl ⟨rfl, rfl⟩)).up (Nat.le_refl _) (fun o A' h => ?_)
  rw [Nat.zero_add] at h
  exact h
end C5
