/-! VALUE, as the law tells it -/
def hitW (g : Nat) (x : Int) (w : WrD) : Bool := w.isOf g && w.on x
def vlE (o g : Nat) (x : Int) (l : List WrD) : Option Int32 := resO o (aE g x l.reverse)
def vlI (v : Option Int32) : Int32 := match v with
  | none => zI (-2000005)
  | some u => u
theorem vlE_snoc {o g : Nat} {x : Int} {l : List WrD} {w : WrD} : vlE o g x (l ++ [w]) = if hitW g x w = true then (if w.c.k = 1 then some w.c.v else if w.c.k = 4 then (match vlE o g x l with
    | none => some w.c.v
    | some u => some (joinO o u w.c.v)) else none) else vlE o g x l := by
  unfold vlE
  rw [List.reverse_append, List.reverse_singleton]
  by_cases h : hitW g x w = true
  · rw [if_pos h]
    have e : aE g x ([w] ++ l.reverse) = es w.c :: aE g x l.reverse := by
      unfold aE
      rw [List.singleton_append, List.filter_cons_of_pos (p := fun v : WrD => v.isOf g && v.on x) h, List.map_cons]
    rw [e]
    show (if (es w.c).1 = 1 then some (es w.c).2.2 else if (es w.c).1 = 4 then (match resO o (aE g x l.reverse) with | none => some (es w.c).2.2 | some u => some (joinO o u (es w.c).2.2)) else none) = _
    have e1 : (es w.c).1 = w.c.k := rfl
    rw [e1]
    by_cases h1 : w.c.k = 1
    · rw [if_pos h1, if_pos h1]
      show some (if w.c.k = 3 then 0 else w.c.v) = _
      rw [if_neg (by omega)]
    · rw [if_neg h1, if_neg h1]
      by_cases h4 : w.c.k = 4
      · rw [if_pos h4, if_pos h4]
        have e2 : (es w.c).2.2 = w.c.v := by
          show (if w.c.k = 3 then 0 else w.c.v) = _
          rw [if_neg (by omega)]
        rw [e2]
      · rw [if_neg h4, if_neg h4]
  · rw [if_neg h]
    have e : aE g x ([w] ++ l.reverse) = aE g x l.reverse := by
      unfold aE
      rw [List.singleton_append, List.filter_cons_of_neg (p := fun v : WrD => v.isOf g && v.on x) h]
    rw [e]
theorem take_snoc {l : List WrD} {i : Nat} {w : WrD} (h : l[i]? = some w) : l.take (i + 1) = l.take i ++ [w] := by
  rw [List.take_add_one, h]
  rfl
def hsI (v : Option Int32) : Int := match v with
  | none => 0
  | some _ => 1
def vlZ (v : Option Int32) : Int32 := match v with
  | none => zI 0
  | some u => u
theorem WOk.kf {w : WrD} (h : WOk w) : (w.c.k = 1 ∨ w.c.k = 2 ∨ w.c.k = 3 ∨ w.c.k = 4) ∧ w.c.f ≤ w.c.t ∧ w.c.t < 18 := by
  obtain ⟨-, -, h1, h2, h3, -⟩ := h
  by_cases hs : w.s = 0
  · rcases h1 hs with h | h <;> omega
  · have := h2 (by omega)
    omega
theorem chK_4 {k : Nat} (h : k = 1 ∨ k = 2 ∨ k = 3 ∨ k = 4) : (chK k = 109 ↔ k = 4) ∧ (chK k = 112 ↔ k = 1) ∧ 100 ≤ chK k ∧ chK k ≤ 114 := by
  unfold chK
  rcases h with rfl | rfl | rfl | rfl <;> decide
section VL
variable {sc : gSc} {d : Nat} {A : gA} {i j m n k qa qo g o9 : Nat} {rows : List LrD} {ws : List WrD} {fo : Nat → Int32}
theorem c9_b (hR : RowsOk rows ws) (hI : RowsIn A qa rows) (hz : ∀ w, w ∈ ws → WOk w ∧ w.s ≤ 20 ∧ w.g ≤ 3) (hl : ws.length ≤ 120) (hg : g < 3) (hq0 : A.1 qo = some (vN .char 3 fo)) (hfo : fo g = zI o9) (ho : o9 = 43 ∨ o9 = 62 ∨ o9 = 60) (hk : k < 100) (hm : m ≤ ws.length) (hN : ∀ j w, n ≤ j → j < m → ws[j]? = some w → hitW g k w = true → w.c.k = 4) : ∀ (c i : Nat) (x5 : Option Value), i + c = m → n ≤ i →
    Wv sc 2 9 104 [some (.ref qa), some (.ref qo), some (.int (zI g)), some (.int (zI k)), some (.int (zI m)), x5, some (.int (zI (hsI (vlE o9 g k (ws.take i))))), some (.int (vlZ (vlE o9 g k (ws.take i)))), some (.int (zI ((i + 1 : Nat) : Int)))] [] A (fun o A' => o = .inl (some (.int (vlI (vlE o9 g k (ws.take m))))) ∧ A' = A)
  | 0, i, x5, hik, hn => by
    have e : i = m := by omega
    subst e
    refine wv_s f9_104 rfl (fun _ => rfl) ?_
    refine wv_s f9_106 rfl (fun _ => rfl) ?_
    refine wv_cT_gt f9_108 (by omega) (by omega) (by omega) ?_
    cases hv : vlE o9 g k (ws.take i) with
    | none =>
      refine wv_s f9_192 rfl (fun _ => rfl) ?_
      refine wv_zT_eq f9_194 (by decide) (by decide) ?_
      refine wv_ldcI (k := -2000005) f9_202 (by decide) ?_
      exact wv_iret f9_204 (by rfl) (⟨rfl, rfl⟩)
    | some u =>
      refine wv_s f9_192 rfl (fun _ => rfl) ?_
      refine wv_zF_eq f9_194 (show i32 (1 : Int) from by decide) (show ¬ (1 : Int) = 0 from by decide) ?_
      refine wv_s f9_197 rfl (fun _ => rfl) ?_
      refine wv_s (pc' := 204) f9_199 rfl (fun _ => rfl) ?_
      exact wv_iret f9_204 (by rfl) (⟨rfl, rfl⟩)
  | c + 1, i, x5, hik, hn => by
    obtain ⟨w, hwm, hw, -, -, -⟩ := at_i (l := ws) (i := i) (by omega)
    obtain ⟨q, fn, hq, hf, hr⟩ := row_at hR hI hw
    obtain ⟨hz1, hz2, hz3⟩ := hz w hwm
    have hkf := hz1.kf
    have hch := chK_4 hkf.1
    have hr' := hr
    obtain ⟨r0, r1, -, -, r4, -, -, -, r8, -⟩ := hr'
    have hI1 := hI.1
    have ih := c9_b hR hI hz hl hg hq0 hfo ho hk hm hN c (i + 1) x5 (by omega) (by omega)
    have no : ¬ (hitW g k w = true ∧ w.c.k = 4) → Wv sc 2 9 186 [some (.ref qa), some (.ref qo), some (.int (zI g)), some (.int (zI k)), some (.int (zI m)), x5, some (.int (zI (hsI (vlE o9 g k (ws.take i))))), some (.int (vlZ (vlE o9 g k (ws.take i)))), some (.int (zI ((i + 1 : Nat) : Int)))] [] A (fun o A' => o = .inl (some (.int (vlI (vlE o9 g k (ws.take m))))) ∧ A' = A) := by
      intro h
      have hnh : ¬ hitW g k w = true := fun q => h ⟨q, hN i w hn (by omega) hw q⟩
      rw [take_snoc hw, vlE_snoc, if_neg hnh] at ih
      refine wv_inc8 f9_186 ?_
      refine wv_s (pc' := 104) f9_189 rfl (fun _ => rfl) ?_
      exact ih
    have fin : hitW g k w = true → w.c.k = 4 → ∀ V : Int32, V = (match vlE o9 g k (ws.take i) with | none => w.c.v | some u => joinO o9 u w.c.v) → Wv sc 2 9 181 [some (.ref qa), some (.ref qo), some (.int (zI g)), some (.int (zI k)), some (.int (zI m)), x5, some (.int (zI (hsI (vlE o9 g k (ws.take i))))), some (.int (vlZ (vlE o9 g k (ws.take i)))), some (.int (zI ((i + 1 : Nat) : Int)))] [.int V] A (fun o A' => o = .inl (some (.int (vlI (vlE o9 g k (ws.take m))))) ∧ A' = A) := by
      intro h h4 V hV
      have e : vlE o9 g k (ws.take (i + 1)) = some V := by
        rw [take_snoc hw, vlE_snoc, if_pos h, if_neg (by omega), if_pos h4, hV]
        cases vlE o9 g k (ws.take i) <;> rfl
      rw [e] at ih
      refine wv_st7 f9_181 rfl (fun _ _ => rfl) ?_
      refine wv_icon f9_183 ?_
      refine wv_st6 f9_184 rfl (fun _ _ => rfl) ?_
      refine wv_inc8 f9_186 ?_
      refine wv_s (pc' := 104) f9_189 rfl (fun _ => rfl) ?_
      exact ih
    refine wv_s f9_104 rfl (fun _ => rfl) ?_
    refine wv_s f9_106 rfl (fun _ => rfl) ?_
    refine wv_cF_gt f9_108 (by omega) (by omega) (by omega) ?_
    refine wv_s f9_111 rfl (fun _ => rfl) ?_
    refine wv_s f9_112 rfl (fun _ => rfl) ?_
    refine wv_aaload (j := i + 1) f9_114 (by assumption) (by rfl) (by first | rfl | omega) (by omega) (by omega) (hq) ?_
    refine wv_icon f9_115 ?_
    refine wv_iaload (j := 0) f9_116 (by assumption) (by first | rfl | omega) (by omega) (by omega) ?_
    refine wv_s f9_117 rfl (fun _ => rfl) ?_
    rw [r0]
    refine wv_cX_ne f9_118 (by omega) (by omega) (fun hb => ?_) (fun hb => ?_)
    · refine no (fun h => ?_)
      have h1 := h.1
      unfold hitW at h1
      rw [Bool.and_eq_true] at h1
      have := of_decide_eq_true (show decide _ = true from h1.1)
      omega
    · refine wv_s f9_121 rfl (fun _ => rfl) ?_
      refine wv_s f9_122 rfl (fun _ => rfl) ?_
      refine wv_aaload (j := i + 1) f9_124 (by assumption) (by rfl) (by first | rfl | omega) (by omega) (by omega) (hq) ?_
      refine wv_bip f9_125 (by decide) ?_
      refine wv_iaload (j := 8) f9_127 (by assumption) (by first | rfl | omega) (by omega) (by omega) ?_
      rw [r8]
      by_cases h0 : w.z = 0
      · rw [if_pos h0]
        refine wv_zT_ne f9_128 (by omega) (by omega) ?_
        refine no (fun h => ?_)
        have h1 := h.1
        unfold hitW at h1
        rw [Bool.and_eq_true] at h1
        have := of_decide_eq_true (show decide _ = true from h1.1)
        omega
      · rw [if_neg h0]
        refine wv_zF_ne f9_128 (by omega) (by omega) ?_
        refine wv_s f9_131 rfl (fun _ => rfl) ?_
        refine wv_s f9_132 rfl (fun _ => rfl) ?_
        refine wv_aaload (j := i + 1) f9_134 (by assumption) (by rfl) (by first | rfl | omega) (by omega) (by omega) (hq) ?_
        refine wv_icon f9_135 ?_
        refine wv_iaload (j := 1) f9_136 (by assumption) (by first | rfl | omega) (by omega) (by omega) ?_
        refine wv_bip f9_137 (by decide) ?_
        rw [r1]
        refine wv_cX_ne f9_139 (by omega) (by omega) (fun hb2 => ?_) (fun hb2 => ?_)
        · exact no (fun h => hb2 (hch.1.mpr h.2))
        · have h4 : w.c.k = 4 := hch.1.mp (by omega)
          refine wv_s f9_142 rfl (fun _ => rfl) ?_
          refine wv_s f9_143 rfl (fun _ => rfl) ?_
          refine wv_aaload (j := i + 1) f9_145 (by assumption) (by rfl) (by first | rfl | omega) (by omega) (by omega) (hq) ?_
          refine wv_s f9_146 rfl (fun _ => rfl) ?_
          refine wv_valS f9_147 (by decide) (by simp) (by simp) (by decide +kernel) (c16 hf hr (by omega) (by omega) hz2 hk) (by omega) ?_
          cases hon : w.on k with
          | false =>
            refine wv_bT f9_150 rfl ?_
            refine no (fun h => ?_)
            have h1 := h.1
            unfold hitW at h1
            rw [hon, Bool.and_false] at h1
            cases h1
          | true =>
            refine wv_bF f9_150 rfl ?_
            have hh : hitW g k w = true := by
              unfold hitW
              rw [hon, Bool.and_true]
              exact decide_eq_true ⟨by omega, h0⟩
            cases hv : vlE o9 g k (ws.take i) with
            | none =>
              rw [hv] at fin
              refine wv_s f9_153 rfl (fun _ => rfl) ?_
              refine wv_zT_eq f9_155 (by decide) (by decide) ?_
              refine wv_s f9_175 rfl (fun _ => rfl) ?_
              refine wv_s f9_176 rfl (fun _ => rfl) ?_
              refine wv_aaload (j := i + 1) f9_178 (by assumption) (by rfl) (by first | rfl | omega) (by omega) (by omega) (hq) ?_
              refine wv_icon f9_179 ?_
              refine wv_iaload (j := 4) f9_180 (by assumption) (by first | rfl | omega) (by omega) (by omega) ?_
              rw [r4 (.inr h4)]
              exact fin hh h4 _ rfl
            | some u =>
              rw [hv] at fin
              refine wv_s f9_153 rfl (fun _ => rfl) ?_
              refine wv_zF_eq f9_155 (show i32 (1 : Int) from by decide) (show ¬ (1 : Int) = 0 from by decide) ?_
              refine wv_s f9_158 rfl (fun _ => rfl) ?_
              refine wv_s f9_159 rfl (fun _ => rfl) ?_
              refine wv_caload (j := g) f9_160 (by assumption) (by first | rfl | omega) (by omega) (by omega) ?_
              refine wv_s f9_161 rfl (fun _ => rfl) ?_
              refine wv_s f9_163 rfl (fun _ => rfl) ?_
              refine wv_s f9_164 rfl (fun _ => rfl) ?_
              refine wv_aaload (j := i + 1) f9_166 (by assumption) (by rfl) (by first | rfl | omega) (by omega) (by omega) (hq) ?_
              refine wv_icon f9_167 ?_
              refine wv_iaload (j := 4) f9_168 (by assumption) (by first | rfl | omega) (by omega) (by omega) ?_
              rw [r4 (.inr h4), hfo]
              refine wv_valS f9_169 (by decide) (by simp) (by simp) (by decide +kernel) (c17 (a := u) (b := w.c.v) ho) (by omega) ?_
              refine wv_s (pc' := 181) f9_172 rfl (fun _ => rfl) ?_
              exact fin hh h4 _ rfl
theorem c9_c (hR : RowsOk rows ws) (hI : RowsIn A qa rows) (hz : ∀ w, w ∈ ws → WOk w ∧ w.s ≤ 20 ∧ w.g ≤ 3) (hl : ws.length ≤ 120) (hg : g < 3) (hq0 : A.1 qo = some (vN .char 3 fo)) (hfo : fo g = zI o9) (ho : o9 = 43 ∨ o9 = 62 ∨ o9 = 60) (hk : k < 100) (hm : m ≤ ws.length) (hnm : n ≤ m) (hN : ∀ j w, n ≤ j → j < m → ws[j]? = some w → hitW g k w = true → w.c.k = 4) (hend : n = 0 ∨ ∃ i w, n = i + 1 ∧ ws[i]? = some w ∧ hitW g k w = true ∧ w.c.k ≠ 4) {x6 x7 x8 : Option Value} :
    Wv sc 2 9 58 [some (.ref qa), some (.ref qo), some (.int (zI g)), some (.int (zI k)), some (.int (zI m)), some (.int (zI n)), x6, x7, x8] [] A (fun o A' => o = .inl (some (.int (vlI (vlE o9 g k (ws.take m))))) ∧ A' = A) := by
  have hI1 := hI.1
  have h9 := c9_b (sc := sc) hR hI hz hl hg hq0 hfo ho hk hm hN (m - n) n (some (.int (zI n))) (by omega) (Nat.le_refl _)
  have none9 : vlE o9 g k (ws.take n) = none → Wv sc 2 9 78 [some (.ref qa), some (.ref qo), some (.int (zI g)), some (.int (zI k)), some (.int (zI m)), some (.int (zI n)), x6, x7, x8] [] A (fun o A' => o = .inl (some (.int (vlI (vlE o9 g k (ws.take m))))) ∧ A' = A) := by
    intro e
    rw [e] at h9
    refine wv_icon f9_78 ?_
    refine wv_st6 f9_79 rfl (fun _ _ => rfl) ?_
    refine wv_s f9_81 rfl (fun _ => rfl) ?_
    refine wv_zT_eq f9_83 (by decide) (by decide) ?_
    refine wv_icon f9_95 ?_
    refine wv_st7 f9_96 rfl (fun _ _ => rfl) ?_
    refine wv_s f9_98 rfl (fun _ => rfl) ?_
    refine wv_icon f9_100 ?_
    refine wv_iadd f9_101 ?_
    refine wv_st8 f9_102 rfl (fun _ _ => rfl) ?_
    exact h9
  rcases hend with rfl | ⟨i, w, rfl, hw, hh, h4⟩
  · refine wv_s f9_58 rfl (fun _ => rfl) ?_
    refine wv_zT_le f9_60 (by omega) (by omega) ?_
    exact none9 rfl
  · obtain ⟨q, fn, hq, hf, hr⟩ := row_at hR hI hw
    obtain ⟨hz1, hz2, hz3⟩ := hz w (List.mem_of_getElem? hw)
    have hkf := hz1.kf
    have hch := chK_4 hkf.1
    obtain ⟨-, r1, -, -, r4, -⟩ := hr
    have e : vlE o9 g k (ws.take (i + 1)) = if w.c.k = 1 then some w.c.v else none := by
      rw [take_snoc hw, vlE_snoc, if_pos hh, if_neg h4]
    refine wv_s f9_58 rfl (fun _ => rfl) ?_
    refine wv_zF_le f9_60 (by omega) (by omega) ?_
    refine wv_s f9_63 rfl (fun _ => rfl) ?_
    refine wv_s f9_64 rfl (fun _ => rfl) ?_
    refine wv_aaload (j := i + 1) f9_66 (by assumption) (by rfl) (by first | rfl | omega) (by omega) (by omega) (hq) ?_
    refine wv_icon f9_67 ?_
    refine wv_iaload (j := 1) f9_68 (by assumption) (by first | rfl | omega) (by omega) (by omega) ?_
    refine wv_bip f9_69 (by decide) ?_
    rw [r1]
    refine wv_cX_ne f9_71 (by omega) (by omega) (fun hb => ?_) (fun hb => ?_)
    · refine none9 ?_
      rw [e, if_neg (fun h => hb (hch.2.1.mpr h))]
    · have h1 : w.c.k = 1 := hch.2.1.mp (by omega)
      rw [e, if_pos h1] at h9
      refine wv_icon f9_74 ?_
      refine wv_s (pc' := 79) f9_75 rfl (fun _ => rfl) ?_
      refine wv_st6 f9_79 rfl (fun _ _ => rfl) ?_
      refine wv_s f9_81 rfl (fun _ => rfl) ?_
      refine wv_zF_eq f9_83 (by decide) (by decide) ?_
      refine wv_s f9_86 rfl (fun _ => rfl) ?_
      refine wv_s f9_87 rfl (fun _ => rfl) ?_
      refine wv_aaload (j := i + 1) f9_89 (by assumption) (by rfl) (by first | rfl | omega) (by omega) (by omega) (hq) ?_
      refine wv_icon f9_90 ?_
      refine wv_iaload (j := 4) f9_91 (by assumption) (by first | rfl | omega) (by omega) (by omega) ?_
      rw [r4 (.inl h1)]
      refine wv_s (pc' := 96) f9_92 rfl (fun _ => rfl) ?_
      refine wv_st7 f9_96 rfl (fun _ _ => rfl) ?_
      refine wv_s f9_98 rfl (fun _ => rfl) ?_
      refine wv_icon f9_100 ?_
      refine wv_iadd f9_101 ?_
      refine wv_st8 f9_102 rfl (fun _ _ => rfl) ?_
      exact h9
theorem c9_a (hR : RowsOk rows ws) (hI : RowsIn A qa rows) (hz : ∀ w, w ∈ ws → WOk w ∧ w.s ≤ 20 ∧ w.g ≤ 3) (hl : ws.length ≤ 120) (hg : g < 3) (hq0 : A.1 qo = some (vN .char 3 fo)) (hfo : fo g = zI o9) (ho : o9 = 43 ∨ o9 = 62 ∨ o9 = 60) (hk : k < 100) (hm : m ≤ ws.length) {x6 x7 x8 : Option Value} : ∀ n : Nat, n ≤ m → (∀ j w, n ≤ j → j < m → ws[j]? = some w → hitW g k w = true → w.c.k = 4) →
    Wv sc 2 9 4 [some (.ref qa), some (.ref qo), some (.int (zI g)), some (.int (zI k)), some (.int (zI m)), some (.int (zI n)), x6, x7, x8] [] A (fun o A' => o = .inl (some (.int (vlI (vlE o9 g k (ws.take m))))) ∧ A' = A)
  | 0, hn, hN => by
    refine wv_s f9_4 rfl (fun _ => rfl) ?_
    refine wv_zT_le f9_6 (by omega) (by omega) ?_
    exact c9_c hR hI hz hl hg hq0 hfo ho hk hm hn hN (.inl rfl)
  | i + 1, hn, hN => by
    have hI1 := hI.1
    obtain ⟨w, hwm, hw, -, -, -⟩ := at_i (l := ws) (i := i) (by omega)
    obtain ⟨q, fn, hq, hf, hr⟩ := row_at hR hI hw
    obtain ⟨hz1, hz2, hz3⟩ := hz w hwm
    have hkf := hz1.kf
    have hch := chK_4 hkf.1
    have hr' := hr
    obtain ⟨r0, r1, -, -, r4, -, -, -, r8, -⟩ := hr'
    have no : (hitW g k w = true → w.c.k = 4) → Wv sc 2 9 52 [some (.ref qa), some (.ref qo), some (.int (zI g)), some (.int (zI k)), some (.int (zI m)), some (.int (zI ((i + 1 : Nat) : Int))), x6, x7, x8] [] A (fun o A' => o = .inl (some (.int (vlI (vlE o9 g k (ws.take m))))) ∧ A' = A) := by
      intro h
      have ih := c9_a hR hI hz hl hg hq0 hfo ho hk hm (x6 := x6) (x7 := x7) (x8 := x8) i (by omega) (fun j v hj1 hj2 hv hh => by
        by_cases e : j = i
        · subst e
          rw [hw] at hv
          cases hv
          exact h hh
        · exact hN j v (by omega) hj2 hv hh)
      refine wv_inc5 f9_52 ?_
      refine wv_s (pc' := 4) f9_55 rfl (fun _ => rfl) ?_
      have e2 : ((i + 1 : Nat) : Int) + (-1) = (i : Int) := by omega
      rw [e2]
      exact ih
    refine wv_s f9_4 rfl (fun _ => rfl) ?_
    refine wv_zF_le f9_6 (by omega) (by omega) ?_
    refine wv_s f9_9 rfl (fun _ => rfl) ?_
    refine wv_s f9_10 rfl (fun _ => rfl) ?_
    refine wv_aaload (j := i + 1) f9_12 (by assumption) (by rfl) (by first | rfl | omega) (by omega) (by omega) (hq) ?_
    refine wv_icon f9_13 ?_
    refine wv_iaload (j := 0) f9_14 (by assumption) (by first | rfl | omega) (by omega) (by omega) ?_
    refine wv_s f9_15 rfl (fun _ => rfl) ?_
    rw [r0]
    refine wv_cX_ne f9_16 (by omega) (by omega) (fun hb => ?_) (fun hb => ?_)
    · refine no (fun h1 => ?_)
      unfold hitW at h1
      rw [Bool.and_eq_true] at h1
      have := of_decide_eq_true (show decide _ = true from h1.1)
      omega
    · refine wv_s f9_19 rfl (fun _ => rfl) ?_
      refine wv_s f9_20 rfl (fun _ => rfl) ?_
      refine wv_aaload (j := i + 1) f9_22 (by assumption) (by rfl) (by first | rfl | omega) (by omega) (by omega) (hq) ?_
      refine wv_bip f9_23 (by decide) ?_
      refine wv_iaload (j := 8) f9_25 (by assumption) (by first | rfl | omega) (by omega) (by omega) ?_
      refine wv_icon f9_26 ?_
      rw [r8]
      by_cases h0 : w.z = 0
      · rw [if_pos h0]
        refine wv_cT_eq f9_27 (by omega) (by omega) (by omega) ?_
        refine no (fun h1 => ?_)
        unfold hitW at h1
        rw [Bool.and_eq_true] at h1
        have := of_decide_eq_true (show decide _ = true from h1.1)
        omega
      · rw [if_neg h0]
        refine wv_cF_eq f9_27 (by omega) (by omega) (by omega) ?_
        refine wv_s f9_30 rfl (fun _ => rfl) ?_
        refine wv_s f9_31 rfl (fun _ => rfl) ?_
        refine wv_aaload (j := i + 1) f9_33 (by assumption) (by rfl) (by first | rfl | omega) (by omega) (by omega) (hq) ?_
        refine wv_icon f9_34 ?_
        refine wv_iaload (j := 1) f9_35 (by assumption) (by first | rfl | omega) (by omega) (by omega) ?_
        refine wv_bip f9_36 (by decide) ?_
        rw [r1]
        refine wv_cX_eq f9_38 (by omega) (by omega) (fun hb2 => ?_) (fun hb2 => ?_)
        · exact no (fun _ => hch.1.mp hb2)
        · refine wv_s f9_41 rfl (fun _ => rfl) ?_
          refine wv_s f9_42 rfl (fun _ => rfl) ?_
          refine wv_aaload (j := i + 1) f9_44 (by assumption) (by rfl) (by first | rfl | omega) (by omega) (by omega) (hq) ?_
          refine wv_s f9_45 rfl (fun _ => rfl) ?_
          refine wv_valS f9_46 (by decide) (by simp) (by simp) (by decide +kernel) (c16 hf hr (by omega) (by omega) hz2 hk) (by omega) ?_
          cases hon : w.on k with
          | false =>
            refine wv_nF f9_49 rfl ?_
            refine no (fun h1 => ?_)
            unfold hitW at h1
            rw [hon, Bool.and_false] at h1
            cases h1
          | true =>
            refine wv_nT f9_49 rfl ?_
            have hh : hitW g k w = true := by
              unfold hitW
              rw [hon, Bool.and_true]
              exact decide_eq_true ⟨by omega, h0⟩
            exact c9_c hR hI hz hl hg hq0 hfo ho hk hm hn hN (.inr ⟨i, w, rfl, hw, hh, fun h => hb2 (hch.1.mpr h)⟩)
theorem c9 (hR : RowsOk rows ws) (hI : RowsIn A qa rows) (hz : ∀ w, w ∈ ws → WOk w ∧ w.s ≤ 20 ∧ w.g ≤ 3) (hl : ws.length ≤ 120) (hg : g < 3) (hq0 : A.1 qo = some (vN .char 3 fo)) (hfo : fo g = zI o9) (ho : o9 = 43 ∨ o9 = 62 ∨ o9 = 60) (hk : k < 100) (hm : m ≤ ws.length) : Wc sc 2 9 [.ref qa, .ref qo, .int (zI g), .int (zI k), .int (zI m)] A (fun o A' => o = .inl (some (.int (vlI (vlE o9 g k (ws.take m))))) ∧ A' = A) := by
  show Wv sc 2 9 0 [some (.ref qa), some (.ref qo), some (.int (zI g)), some (.int (zI k)), some (.int (zI m)), none, none, none, none] [] A _
  refine wv_s f9_0 rfl (fun _ => rfl) ?_
  refine wv_st5 f9_2 rfl (fun _ _ => rfl) ?_
  exact c9_a hR hI hz hl hg hq0 hfo ho hk hm m (Nat.le_refl _) (fun j w h1 h2 => by omega)
end VL
