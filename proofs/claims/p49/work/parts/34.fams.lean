/-! FAMILIES: cell, index, operator, array of levels (cell, levels) -/
abbrev FamD : Type := Nat × Nat × Nat × Nat × List LvD
def FamD.a (f : FamD) : Nat := f.1
def FamD.g (f : FamD) : Nat := f.2.1
def FamD.o (f : FamD) : Nat := f.2.2.1
def FamD.va (f : FamD) : Nat := f.2.2.2.1
def FamD.lv (f : FamD) : List LvD := f.2.2.2.2
def cFam (f : FamD) : vC := vO 4 [.int (zI f.g), .int (zI f.o), .ref f.va]
def cVa (f : FamD) : vC := vR (gComp 1) 4 (fun j => (f.lv.map LvD.a)[j]?)
def okFm (V : Nat → Option vC) (f : FamD) : Prop := V f.a = some (cFam f) ∧ V f.va = some (cVa f) ∧ f.lv.length = 4 ∧ f.g ≤ 3 ∧ (f.o = 43 ∨ f.o = 62 ∨ f.o = 60)
theorem okFm.ext {F G : Nat → Option vC} {f : FamD} (h : okFm F f) (he : Ext F G) : okFm G f := ⟨he _ _ h.1, he _ _ h.2.1, h.2.2⟩
def lvCells (l : LvD) : List (Nat × vC) := [(l.a, cLv l), (l.la, cLl l)]
def fCells (l : List LvD) : List (Nat × vC) := l.flatMap lvCells
def shpF : Nat → List LvD → Bool
  | _, [] => true
  | i, l :: t => (l.rs.all RunD.fair && (i == 0 || isRis l.rs)) && shpF (i + 1) t
def ovBl (lvl x y : Int) : Nat → List LvD → Bool
  | _, [] => false
  | i, l :: t => (decide (lvl < (i : Int)) && l.rs.any (fun r => r.ov x y)) || ovBl lvl x y (i + 1) t
section C9
variable {sc : gSc} {d : Nat} {A : gA} {x y z : Int} {r : RunD} {l : LvD} {f h : FamD} {F : Nat → Option vC} {q j : Nat} {v0 v1 v2 v3 v4 v5 v6 : Value} {L : List (Nat × vC)}
theorem at_lv {i : Nat} (hf : okFm A.1 f) (hi : i < 4) : ∃ l, l ∈ f.lv ∧ f.lv[i]? = some l ∧ va_rf ((f.lv.map LvD.a)[i]?) = .ref l.a ∧ f.lv.drop i = l :: f.lv.drop (i + 1) ∧ f.lv.take (i + 1) = f.lv.take i ++ [l] := by
  obtain ⟨l, h1, h2, h3, h4, h5⟩ := at_i (l := f.lv) (i := i) (by rw [hf.2.2.1]; exact hi)
  exact ⟨l, h1, h2, by rw [h3]; rfl, h4, h5⟩
theorem c108 (hf : okFm A.1 f) (hz : z = (j : Int)) (hl : f.lv[j]? = some l) : Wc sc 1 108 [.ref f.a, .int (zI z)] A (fun o A' => o = .inl (some (.ref l.a)) ∧ A' = A) := by
  show Wv sc 1 108 0 [some (.ref f.a), some (.int (zI z))] [] A _
  have hj := (List.getElem?_eq_some_iff.mp hl).1
  have hv : va_rf ((f.lv.map LvD.a)[j]?) = .ref l.a := by rw [List.getElem?_map, hl]; rfl
  obtain ⟨h1, h2, h3, h4, h5⟩ := hf
  refine wv_s f108_0 rfl (fun _ => rfl) ?_
  refine wv_getfield f108_1 (by assumption) (by rfl) ?_
  refine wv_icon f108_4 ?_
  refine wv_s f108_5 rfl (fun _ => rfl) ?_
  refine wv_s f108_6 rfl (fun _ => rfl) ?_
  refine wv_getfield f108_7 (by assumption) (by rfl) ?_
  refine wv_alenR f108_10 (by assumption) ?_
  refine wv_icon f108_11 ?_
  refine wv_isub f108_12 ?_
  refine wv_valS f108_13 (by decide) (by simp) (by simp) (by decide +kernel) (cc_min (by omega) (by omega)) (by omega) ?_
  refine wv_valS f108_16 (by decide) (by simp) (by simp) (by decide +kernel) (cc_max (by omega) (by omega)) (by omega) ?_
  refine wv_aaload (j := j) f108_19 h2 (by rfl) (by omega) (by omega) (by omega) hv ?_
  exact wv_aret f108_20 (by rfl) (⟨rfl, rfl⟩)
theorem c106_l (hf : okFm A.1 f) (hl : ∀ l, l ∈ f.lv → okLv A.1 l) : ∀ (k i n : Nat), i + k = 4 → n ≤ 4000 * i →
    Wv sc 3 106 4 [some (.ref f.a), some (.int (zI n)), some (.int (zI i))] [] A (fun o A' => ∃ v, o = .inl (some v) ∧ ∃ n : Nat, v = .int (zI n) ∧ n ≤ 16000 ∧ A' = A)
  | 0, i, n, hik, hn => by
    obtain ⟨h1, h2, h3, h4, h5⟩ := hf
    refine wv_s f106_4 rfl (fun _ => rfl) ?_
    refine wv_s f106_5 rfl (fun _ => rfl) ?_
    refine wv_getfield f106_6 (by assumption) (by rfl) ?_
    refine wv_alenR f106_9 (by assumption) ?_
    refine wv_cT_ge f106_10 (by omega) (by omega) (by omega) ?_
    refine wv_s f106_31 rfl (fun _ => rfl) ?_
    exact wv_iret f106_32 (by rfl) (⟨_, rfl, n, rfl, by omega, rfl⟩)
  | k + 1, i, n, hik, hn => by
    have hf0 := hf
    obtain ⟨z, hzm, hz0, hz1, hzd, -⟩ := at_lv hf (show i < 4 by omega)
    obtain ⟨h1, h2, h3, h4, h5⟩ := hf
    have hz := hl z hzm
    have hz2 := hz.1
    refine hz.len (fun n1 n2 => ?_)
    refine wv_s f106_4 rfl (fun _ => rfl) ?_
    refine wv_s f106_5 rfl (fun _ => rfl) ?_
    refine wv_getfield f106_6 (by assumption) (by rfl) ?_
    refine wv_alenR f106_9 (by assumption) ?_
    refine wv_cF_ge f106_10 (by omega) (by omega) (by omega) ?_
    refine wv_s f106_13 rfl (fun _ => rfl) ?_
    refine wv_s f106_14 rfl (fun _ => rfl) ?_
    refine wv_getfield f106_15 (by assumption) (by rfl) ?_
    refine wv_s f106_18 rfl (fun _ => rfl) ?_
    refine wv_aaload (j := i) f106_19 (by assumption) (by rfl) (by first | rfl | omega) (by omega) (by omega) (hz1) ?_
    refine wv_valV f106_20 (by decide) (by simp) (by simp) (by decide +kernel) (by assumption) (by rfl) (by decide +kernel) rfl (c119 hz) (by omega) ?_
    refine wv_iadd f106_23 ?_
    refine wv_st1 f106_24 rfl (fun _ _ => rfl) ?_
    refine wv_inc2 f106_25 ?_
    refine wv_s (pc' := 4) f106_28 rfl (fun _ => rfl) ?_
    refine (c106_l hf0 hl k (i + 1) (n + z.rs.length) (by omega) (by omega))
theorem c106 (hf : okFm A.1 f) (hl : ∀ l, l ∈ f.lv → okLv A.1 l) : Wc sc 3 106 [.ref f.a] A (fun o A' => ∃ v, o = .inl (some v) ∧ ∃ n : Nat, v = .int (zI n) ∧ n ≤ 16000 ∧ A' = A) := by
  show Wv sc 3 106 0 [some (.ref f.a), none, none] [] A _
  refine wv_icon f106_0 ?_
  refine wv_st1 f106_1 rfl (fun _ _ => rfl) ?_
  refine wv_icon f106_2 ?_
  refine wv_st2 f106_3 rfl (fun _ _ => rfl) ?_
  exact c106_l hf hl 4 0 0 (by omega) (by omega)
theorem c110_l (hf : okFm A.1 f) (hl : ∀ l, l ∈ f.lv → okLv A.1 l) : ∀ (k i : Nat), i + k = 4 →
    Wv sc 4 110 2 [some (.ref f.a), some (.int (zI i))] [] A (fun o A' => o = .inl (some (.int (bI (shpF i (f.lv.drop i))))) ∧ A' = A)
  | 0, i, hik => by
    obtain ⟨h1, h2, h3, h4, h5⟩ := hf
    have e : f.lv.drop i = [] := List.drop_of_length_le (by omega)
    rw [e]
    refine wv_s f110_2 rfl (fun _ => rfl) ?_
    refine wv_s f110_3 rfl (fun _ => rfl) ?_
    refine wv_getfield f110_4 (by assumption) (by rfl) ?_
    refine wv_alenR f110_7 (by assumption) ?_
    refine wv_cT_ge f110_8 (by omega) (by omega) (by omega) ?_
    refine wv_icon f110_47 ?_
    exact wv_iretB (p := true) f110_48 (by decide +kernel) ( ⟨rfl, rfl⟩)
  | k + 1, i, hik => by
    have hf0 := hf
    obtain ⟨z, hzm, hz0, hz1, hzd, -⟩ := at_lv hf (show i < 4 by omega)
    obtain ⟨h1, h2, h3, h4, h5⟩ := hf
    have hz := hl z hzm
    have hz2 := hz.1
    have nxt : z.rs.all RunD.fair = true → (i == 0 || isRis z.rs) = true → Wv sc 4 110 41 [some (.ref f.a), some (.int (zI i))] [] A (fun o A' => o = .inl (some (.int (bI (shpF i (f.lv.drop i))))) ∧ A' = A) := by
      intro e1 e2
      refine wv_inc1 f110_41 ?_
      refine wv_s (pc' := 2) f110_44 rfl (fun _ => rfl) ?_
      rw [hzd, show shpF i (z :: f.lv.drop (i + 1)) = shpF (i + 1) (f.lv.drop (i + 1)) by simp only [shpF, e1, e2, Bool.true_and, Bool.and_self]]
      exact c110_l hf0 hl k (i + 1) (by omega)
    refine wv_s f110_2 rfl (fun _ => rfl) ?_
    refine wv_s f110_3 rfl (fun _ => rfl) ?_
    refine wv_getfield f110_4 (by assumption) (by rfl) ?_
    refine wv_alenR f110_7 (by assumption) ?_
    refine wv_cF_ge f110_8 (by omega) (by omega) (by omega) ?_
    refine wv_s f110_11 rfl (fun _ => rfl) ?_
    refine wv_getfield f110_12 (by assumption) (by rfl) ?_
    refine wv_s f110_15 rfl (fun _ => rfl) ?_
    refine wv_aaload (j := i) f110_16 (by assumption) (by rfl) (by first | rfl | omega) (by omega) (by omega) (hz1) ?_
    refine wv_valV f110_17 (by decide) (by simp) (by simp) (by decide +kernel) (by assumption) (by rfl) (by decide +kernel) rfl (c123 hz) (by omega) ?_
    refine wv_bX f110_20 (fun hb => ?_) (fun hb => ?_)
    · refine wv_icon f110_39 ?_
      exact wv_iretB (p := false) f110_40 (by decide +kernel) ( ⟨by rw [hzd]; simp only [shpF, hb, Bool.false_and], rfl⟩)
    · refine wv_s f110_23 rfl (fun _ => rfl) ?_
      refine wv_zX_le f110_24 (by omega) (fun hb2 => ?_) (fun hb2 => ?_)
      · exact nxt hb (by simp [show i = 0 by omega])
      · refine wv_s f110_27 rfl (fun _ => rfl) ?_
        refine wv_getfield f110_28 (by assumption) (by rfl) ?_
        refine wv_s f110_31 rfl (fun _ => rfl) ?_
        refine wv_aaload (j := i) f110_32 (by assumption) (by rfl) (by first | rfl | omega) (by omega) (by omega) (hz1) ?_
        refine wv_valV f110_33 (by decide) (by simp) (by simp) (by decide +kernel) (by assumption) (by rfl) (by decide +kernel) rfl (c124 hz) (by omega) ?_
        refine wv_nX f110_36 (fun hb3 => ?_) (fun hb3 => ?_)
        · exact nxt hb (by simp [hb3])
        · refine wv_icon f110_39 ?_
          exact wv_iretB (p := false) f110_40 (by decide +kernel) ( ⟨by rw [hzd]; simp only [shpF, hb, hb3, show (i == 0) = false by simpa using (show ¬ i = 0 by omega), Bool.or_self, Bool.and_false, Bool.false_and], rfl⟩)
theorem c110 (hf : okFm A.1 f) (hl : ∀ l, l ∈ f.lv → okLv A.1 l) : Wc sc 4 110 [.ref f.a] A (fun o A' => o = .inl (some (.int (bI (shpF 0 f.lv)))) ∧ A' = A) := by
  show Wv sc 4 110 0 [some (.ref f.a), none] [] A _
  refine wv_icon f110_0 ?_
  refine wv_st1 f110_1 rfl (fun _ _ => rfl) ?_
  exact c110_l hf hl 4 0 (by omega)
theorem c111_l (hf : okFm A.1 f) (hl : ∀ l, l ∈ f.lv → okLv A.1 l) (hx : i32 x) (hy : i32 y) (hz : i32 z) : ∀ (k i : Nat), i + k = 4 →
    Wv sc 4 111 3 [some (.ref f.a), some (.int (zI z)), some (.int (zI x)), some (.int (zI y)), some (.int (zI i))] [] A (fun o A' => o = .inl (some (.int (bI (ovBl z x y i (f.lv.drop i))))) ∧ A' = A)
  | 0, i, hik => by
    obtain ⟨h1, h2, h3, h4, h5⟩ := hf
    have e : f.lv.drop i = [] := List.drop_of_length_le (by omega)
    rw [e]
    refine wv_s f111_3 rfl (fun _ => rfl) ?_
    refine wv_s f111_5 rfl (fun _ => rfl) ?_
    refine wv_getfield f111_6 (by assumption) (by rfl) ?_
    refine wv_alenR f111_9 (by assumption) ?_
    refine wv_cT_ge f111_10 (by omega) (by omega) (by omega) ?_
    refine wv_icon f111_42 ?_
    exact wv_iretB (p := false) f111_43 (by decide +kernel) ( ⟨rfl, rfl⟩)
  | k + 1, i, hik => by
    have hf0 := hf
    obtain ⟨w, hzm, hz0, hz1, hzd, -⟩ := at_lv hf (show i < 4 by omega)
    obtain ⟨h1, h2, h3, h4, h5⟩ := hf
    have hw := hl w hzm
    have hw2 := hw.1
    have nxt : (decide (z < (i : Int)) && w.rs.any (fun r => r.ov x y)) = false → Wv sc 4 111 36 [some (.ref f.a), some (.int (zI z)), some (.int (zI x)), some (.int (zI y)), some (.int (zI i))] [] A (fun o A' => o = .inl (some (.int (bI (ovBl z x y i (f.lv.drop i))))) ∧ A' = A) := by
      intro e1
      refine wv_inc4 f111_36 ?_
      refine wv_s (pc' := 3) f111_39 rfl (fun _ => rfl) ?_
      rw [hzd, show ovBl z x y i (w :: f.lv.drop (i + 1)) = ovBl z x y (i + 1) (f.lv.drop (i + 1)) by simp only [ovBl, e1, Bool.false_or]]
      exact c111_l hf0 hl hx hy hz k (i + 1) (by omega)
    refine wv_s f111_3 rfl (fun _ => rfl) ?_
    refine wv_s f111_5 rfl (fun _ => rfl) ?_
    refine wv_getfield f111_6 (by assumption) (by rfl) ?_
    refine wv_alenR f111_9 (by assumption) ?_
    refine wv_cF_ge f111_10 (by omega) (by omega) (by omega) ?_
    refine wv_s f111_13 rfl (fun _ => rfl) ?_
    refine wv_s f111_15 rfl (fun _ => rfl) ?_
    refine wv_cX_le f111_16 (by omega) (by omega) (fun hb => ?_) (fun hb => ?_)
    · exact nxt (by rw [decide_eq_false (by omega)]; rfl)
    · refine wv_s f111_19 rfl (fun _ => rfl) ?_
      refine wv_getfield f111_20 (by assumption) (by rfl) ?_
      refine wv_s f111_23 rfl (fun _ => rfl) ?_
      refine wv_aaload (j := i) f111_25 (by assumption) (by rfl) (by first | rfl | omega) (by omega) (by omega) (hz1) ?_
      refine wv_s f111_26 rfl (fun _ => rfl) ?_
      refine wv_s f111_27 rfl (fun _ => rfl) ?_
      refine wv_valV f111_28 (by decide) (by simp) (by simp) (by decide +kernel) (by assumption) (by rfl) (by decide +kernel) rfl (c125 hw hx hy) (by omega) ?_
      refine wv_bX f111_31 (fun hb2 => ?_) (fun hb2 => ?_)
      · exact nxt (by rw [hb2, Bool.and_false])
      · refine wv_icon f111_34 ?_
        exact wv_iretB (p := true) f111_35 (by decide +kernel) ( ⟨by rw [hzd]; simp only [ovBl, hb2, decide_eq_true hb, Bool.and_self, Bool.true_or], rfl⟩)
theorem c111 (hf : okFm A.1 f) (hl : ∀ l, l ∈ f.lv → okLv A.1 l) (hx : i32 x) (hy : i32 y) (hz : i32 z) : Wc sc 4 111 [.ref f.a, .int (zI z), .int (zI x), .int (zI y)] A (fun o A' => o = .inl (some (.int (bI (ovBl z x y 1 (f.lv.drop 1))))) ∧ A' = A) := by
  show Wv sc 4 111 0 [some (.ref f.a), some (.int (zI z)), some (.int (zI x)), some (.int (zI y)), none] [] A _
  refine wv_icon f111_0 ?_
  refine wv_st4 f111_1 rfl (fun _ _ => rfl) ?_
  exact c111_l hf hl hx hy hz 3 1 (by omega)
theorem c109_l (hf : okFm A.1 f) (hl : ∀ l, l ∈ f.lv → okLv A.1 l) (hr : okRun A.1 r) : ∀ (k i : Nat), i + k = 4 →
    Wv sc 4 109 2 [some (.ref f.a), some (.ref r.a), some (.int (zI i))] [] A (fun o A' => ∃ v, o = .inl (some v) ∧ ∃ p : Bool, v = .int (bI p) ∧ A' = A)
  | 0, i, hik => by
    obtain ⟨h1, h2, h3, h4, h5⟩ := hf
    refine wv_s f109_2 rfl (fun _ => rfl) ?_
    refine wv_s f109_3 rfl (fun _ => rfl) ?_
    refine wv_getfield f109_4 (by assumption) (by rfl) ?_
    refine wv_alenR f109_7 (by assumption) ?_
    refine wv_cT_ge f109_8 (by omega) (by omega) (by omega) ?_
    refine wv_icon f109_32 ?_
    exact wv_iretB (p := false) f109_33 (by decide +kernel) ( ⟨_, rfl, false, rfl, rfl⟩)
  | k + 1, i, hik => by
    have hf0 := hf
    obtain ⟨w, hzm, hz0, hz1, hzd, -⟩ := at_lv hf (show i < 4 by omega)
    obtain ⟨h1, h2, h3, h4, h5⟩ := hf
    have hw := hl w hzm
    have hw2 := hw.1
    refine wv_s f109_2 rfl (fun _ => rfl) ?_
    refine wv_s f109_3 rfl (fun _ => rfl) ?_
    refine wv_getfield f109_4 (by assumption) (by rfl) ?_
    refine wv_alenR f109_7 (by assumption) ?_
    refine wv_cF_ge f109_8 (by omega) (by omega) (by omega) ?_
    refine wv_s f109_11 rfl (fun _ => rfl) ?_
    refine wv_getfield f109_12 (by assumption) (by rfl) ?_
    refine wv_s f109_15 rfl (fun _ => rfl) ?_
    refine wv_aaload (j := i) f109_16 (by assumption) (by rfl) (by first | rfl | omega) (by omega) (by omega) (hz1) ?_
    refine wv_s f109_17 rfl (fun _ => rfl) ?_
    refine wv_valV f109_18 (by decide) (by simp) (by simp) (by decide +kernel) (by assumption) (by rfl) (by decide +kernel) rfl (c120 hw hr) (by omega) ?_
    refine wv_bX f109_21 (fun hb => ?_) (fun hb => ?_)
    · refine wv_inc2 f109_26 ?_
      refine wv_s (pc' := 2) f109_29 rfl (fun _ => rfl) ?_
      exact c109_l hf0 hl hr k (i + 1) (by omega)
    · refine wv_icon f109_24 ?_
      exact wv_iretB (p := true) f109_25 (by decide +kernel) ( ⟨_, rfl, true, rfl, rfl⟩)
theorem c109 (hf : okFm A.1 f) (hl : ∀ l, l ∈ f.lv → okLv A.1 l) (hr : okRun A.1 r) : Wc sc 4 109 [.ref f.a, .ref r.a] A (fun o A' => ∃ v, o = .inl (some v) ∧ ∃ p : Bool, v = .int (bI p) ∧ A' = A) := by
  show Wv sc 4 109 0 [some (.ref f.a), some (.ref r.a), none] [] A _
  refine wv_icon f109_0 ?_
  refine wv_st2 f109_1 rfl (fun _ _ => rfl) ?_
  exact c109_l hf hl hr 4 0 (by omega)
theorem c107_r {Q : gO → gA → Prop} {lw : LvD} {i : Nat} (hf : okFm A.1 f) (hl : ∀ l, l ∈ f.lv → okLv A.1 l) (hh : okFm A.1 h) (hhl : ∀ l, l ∈ h.lv → okLv A.1 l) (hi : i < 4) (hlw : lw ∈ f.lv) (hi0 : va_rf ((f.lv.map LvD.a)[i]?) = .ref lw.a) (hlen : lw.rs.length ≤ 4000) : ∀ (k n p : Nat), p + k = lw.rs.length → n ≤ 4000 * i + p →
    (∀ n x4, n ≤ 4000 * (i + 1) → Wv sc 5 107 63 [some (.ref f.a), some (.ref h.a), some (.int (zI (n : Nat))), some (.int (zI i)), x4] [] A Q) →
    Wv sc 5 107 16 [some (.ref f.a), some (.ref h.a), some (.int (zI n)), some (.int (zI i)), some (.int (zI p))] [] A Q
  | 0, n, p, hpk, hn, hQ => by
    have hw := hl lw hlw
    have hw2 := hw.1
    have hQ := hQ n (some (.int (zI p))) (by omega)
    obtain ⟨h1, h2, h3, h4, h5⟩ := hf
    refine wv_s f107_16 rfl (fun _ => rfl) ?_
    refine wv_s f107_18 rfl (fun _ => rfl) ?_
    refine wv_getfield f107_19 (by assumption) (by rfl) ?_
    refine wv_s f107_22 rfl (fun _ => rfl) ?_
    refine wv_aaload (j := i) f107_23 (by assumption) (by rfl) (by first | rfl | omega) (by omega) (by omega) (hi0) ?_
    refine wv_valV f107_24 (by decide) (by simp) (by simp) (by decide +kernel) (by assumption) (by rfl) (by decide +kernel) rfl (c119 hw) (by omega) ?_
    refine wv_cT_ge f107_27 (by omega) (by omega) (by omega) ?_
    exact hQ
  | k + 1, n, p, hpk, hn, hQ => by
    have hf0 := hf
    have hw := hl lw hlw
    have hw2 := hw.1
    obtain ⟨z, hzm, hz0, hz1, hzd, -⟩ := at_i (show p < lw.rs.length by omega)
    have hz := hw.2.2.2 z hzm
    have hz2 := hz.1
    have hwl : A.1 lw.la = some (vL lw.lc (lw.rs.map RunD.a)) := hw.2.1
    obtain ⟨h1, h2, h3, h4, h5⟩ := hf
    obtain ⟨g1, g2, g3, g4, g5⟩ := id hh
    refine wv_s f107_16 rfl (fun _ => rfl) ?_
    refine wv_s f107_18 rfl (fun _ => rfl) ?_
    refine wv_getfield f107_19 (by assumption) (by rfl) ?_
    refine wv_s f107_22 rfl (fun _ => rfl) ?_
    refine wv_aaload (j := i) f107_23 (by assumption) (by rfl) (by first | rfl | omega) (by omega) (by omega) (hi0) ?_
    refine wv_valV f107_24 (by decide) (by simp) (by simp) (by decide +kernel) (by assumption) (by rfl) (by decide +kernel) rfl (c119 hw) (by omega) ?_
    refine wv_cF_ge f107_27 (by omega) (by omega) (by omega) ?_
    refine wv_s f107_30 rfl (fun _ => rfl) ?_
    refine wv_s f107_31 rfl (fun _ => rfl) ?_
    refine wv_getfield f107_32 (by assumption) (by rfl) ?_
    refine wv_s f107_35 rfl (fun _ => rfl) ?_
    refine wv_aaload (j := i) f107_36 (by assumption) (by rfl) (by first | rfl | omega) (by omega) (by omega) (hi0) ?_
    refine wv_getfield f107_37 (by assumption) (by rfl) ?_
    refine wv_s f107_40 rfl (fun _ => rfl) ?_
    refine wv_lget f107_42 (by assumption) (by first | rfl | omega) (hz1 _) (by omega) (by simp) ?_
    refine wv_cast f107_45 (by assumption) ?_
    refine wv_resV f107_48 (by decide) (by simp) (by simp) (by decide +kernel) (by assumption) (by rfl) (by decide +kernel) rfl (c109 hh hhl hz) (by omega) (fun v A1 hv => ?_)
    obtain ⟨b, rfl, hA1⟩ := hv
    rw [hA1]
    show Wv sc 5 107 51 _ [.int (bI b)] A _
    refine wv_bX f107_51 (fun hb => ?_) (fun hb => ?_)
    · refine wv_inc4 f107_57 ?_
      refine wv_s (pc' := 16) f107_60 rfl (fun _ => rfl) ?_
      exact c107_r hf0 hl hh hhl hi hlw hi0 hlen k n (p + 1) (by omega) (by omega) hQ
    · refine wv_inc2 f107_54 ?_
      refine wv_inc4 f107_57 ?_
      refine wv_s (pc' := 16) f107_60 rfl (fun _ => rfl) ?_
      exact c107_r hf0 hl hh hhl hi hlw hi0 hlen k (n + 1) (p + 1) (by omega) (by omega) hQ
theorem c107_l (hf : okFm A.1 f) (hl : ∀ l, l ∈ f.lv → okLv A.1 l) (hh : okFm A.1 h) (hhl : ∀ l, l ∈ h.lv → okLv A.1 l) : ∀ (k i n : Nat) (x4 : Option Value), i + k = 4 → n ≤ 4000 * i →
    Wv sc 5 107 4 [some (.ref f.a), some (.ref h.a), some (.int (zI n)), some (.int (zI i)), x4] [] A (fun o A' => ∃ v, o = .inl (some v) ∧ ∃ n : Nat, v = .int (zI n) ∧ n ≤ 16000 ∧ A' = A)
  | 0, i, n, x4, hik, hn => by
    obtain ⟨h1, h2, h3, h4, h5⟩ := hf
    refine wv_s f107_4 rfl (fun _ => rfl) ?_
    refine wv_s f107_5 rfl (fun _ => rfl) ?_
    refine wv_getfield f107_6 (by assumption) (by rfl) ?_
    refine wv_alenR f107_9 (by assumption) ?_
    refine wv_cT_ge f107_10 (by omega) (by omega) (by omega) ?_
    refine wv_s f107_69 rfl (fun _ => rfl) ?_
    exact wv_iret f107_70 (by rfl) (⟨_, rfl, n, rfl, by omega, rfl⟩)
  | k + 1, i, n, x4, hik, hn => by
    have hf0 := hf
    obtain ⟨w, hzm, hz0, hz1, hzd, -⟩ := at_lv hf (show i < 4 by omega)
    obtain ⟨h1, h2, h3, h4, h5⟩ := hf
    refine (hl w hzm).len (fun n1 n2 => ?_)
    refine wv_s f107_4 rfl (fun _ => rfl) ?_
    refine wv_s f107_5 rfl (fun _ => rfl) ?_
    refine wv_getfield f107_6 (by assumption) (by rfl) ?_
    refine wv_alenR f107_9 (by assumption) ?_
    refine wv_cF_ge f107_10 (by omega) (by omega) (by omega) ?_
    refine wv_icon f107_13 ?_
    refine wv_st4 f107_14 rfl (fun _ _ => rfl) ?_
    refine c107_r hf0 hl hh hhl (by omega) hzm hz1 (by omega) w.rs.length n 0 (by omega) (by omega) (fun n x4 hn => ?_)
    refine wv_inc3 f107_63 ?_
    refine wv_s (pc' := 4) f107_66 rfl (fun _ => rfl) ?_
    exact c107_l hf0 hl hh hhl k (i + 1) n x4 (by omega) (by omega)
theorem c107 (hf : okFm A.1 f) (hl : ∀ l, l ∈ f.lv → okLv A.1 l) (hh : okFm A.1 h) (hhl : ∀ l, l ∈ h.lv → okLv A.1 l) : Wc sc 5 107 [.ref f.a, .ref h.a] A (fun o A' => ∃ v, o = .inl (some v) ∧ ∃ n : Nat, v = .int (zI n) ∧ n ≤ 16000 ∧ A' = A) := by
  show Wv sc 5 107 0 [some (.ref f.a), some (.ref h.a), none, none, none] [] A _
  refine wv_icon f107_0 ?_
  refine wv_st2 f107_1 rfl (fun _ _ => rfl) ?_
  refine wv_icon f107_2 ?_
  refine wv_st3 f107_3 rfl (fun _ _ => rfl) ?_
  exact c107_l hf hl hh hhl 4 0 0 none (by omega) (by omega)
end C9
