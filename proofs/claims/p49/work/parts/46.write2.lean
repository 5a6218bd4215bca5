/-! WRITING, bringing in -/
section WB
variable {sc : gSc} {d : Nat} {A : gA} {F : Nat → Option vC} {L : List (Nat × vC)} {o : Nat} {f : Ls FamD} {w : Ls WrD} {s : Ls SnD} {c : Ls CuD} {b : Ls BkD} {fi : Nat × FiD} {y : Ls ChD} {me : Option MeD} {ct : CtD} {g : FamD} {l : LvD} {r : RunD} {i j m : Nat} {x z : Int}
/-- what a write leaves -/
def WrP (A : gA) (F : Nat → Option vC) (L : List (Nat × vC)) (o : Nat) (f : Ls FamD) (w : Ls WrD) (s : Ls SnD) (c : Ls CuD) (b : Ls BkD) (fi : Nat × FiD) (y : Ls ChD) (me : Option MeD) (ct : CtD) (f1 : List FamD) (g : FamD) (f2 : List FamD) (l0 : LvD) (lt : List LvD) (k fr to_ : Nat) (v9 : Int32) (v : gO) (A' : gA) : Prop :=
  v = .inl (some (.int (zI ((w.2.2.length + 1 : Nat) : Int)))) ∧ ∃ xa ca c' F' ct', Ext F F' ∧ (c' ≤ w.2.1 ∨ c' ≤ 10 + 2 * w.2.2.length) ∧
    ((cntM g.g (w.2.2 ++ [newWr xa ca g.g k (w.2.2.length + 1) fr to_ v9 0 1]) < 8 ∧ ctK ct' = ctKs ct 0 0 ∧ okO A' F' L o f (w.1, c', w.2.2 ++ [newWr xa ca g.g k (w.2.2.length + 1) fr to_ v9 0 1]) s c b fi y me ct') ∨
     (8 ≤ cntM g.g (w.2.2 ++ [newWr xa ca g.g k (w.2.2.length + 1) fr to_ v9 0 1]) ∧ ctK ct' = ctKs ct 1 1 ∧ ∃ r c2, r.id = ct.2.2.1 + 1 ∧ r.mg = false ∧ r.rows = flR g.g [] (w.2.2 ++ [newWr xa ca g.g k (w.2.2.length + 1) fr to_ v9 0 1]) ∧ r.spans = flS g.g (w.2.2 ++ [newWr xa ca g.g k (w.2.2.length + 1) fr to_ v9 0 1]) ∧ okRun F' r ∧
       okO A' F' L o (f.1, f.2.1, f1 ++ setLv g ((l0.a, l0.mu, l0.la, c2, r :: l0.rs) :: lt) :: f2) (w.1, c', (w.2.2 ++ [newWr xa ca g.g k (w.2.2.length + 1) fr to_ v9 0 1]).map (flW g.g)) s c b fi y me ct')) ∧
    5 * A'.2.1 ≤ 5 * A.2.1 + 90 + 6 * w.2.2.length + 2 * l0.rs.length ∧ A'.2.2 ≤ A.2.2 + 240 + 32 * w.2.2.length + 8 * l0.rs.length
theorem c99 {f1 f2 : List FamD} {l0 : LvD} {lt : List LvD} {k fr to_ : Nat} {v : Int32} (hO : okO A F L o f w s c b fi y me ct) (hf : f.2.2 = f1 ++ g :: f2) (hg : g.lv = l0 :: lt) (hfull : l0.rs.length < 6) (hk : k ≤ 4) (hfr : fr ≤ to_) (hto : to_ < 100) (hlen : w.2.2.length < 1900) (hid : ct.2.2.1 + 1 < 1000000) (hvs : ct.2.2.2.2.1 + 1 ≤ 1000000) :
    Wc sc 9 99 [.ref o, .int (zI f1.length), .int (zI k), .int (zI fr), .int (zI to_), .int v] A (WrP A F L o f w s c b fi y me ct f1 g f2 l0 lt k fr to_ v) := by
  have hgm : g ∈ f.2.2 := by rw [hf]; simp
  refine c99_n hO hf hg hfull hk hfr hto hlen (fun A1 F1 ct1 c1 xa ca e1 q1 hO1 q2 q3 q4 => ?_)
  have h1 := hO1.ob
  have hl := hO1.lv hgm (show l0 ∈ g.lv by rw [hg]; exact List.mem_cons_self ..)
  have hcm := @cntM_le g.g (w.2.2 ++ [newWr xa ca g.g k (w.2.2.length + 1) fr to_ v 0 1])
  rw [List.length_append, List.length_singleton] at hcm
  simp only [ctK, ctKs, Prod.mk.injEq] at q1
  refine wv_s f99_67 rfl (fun _ => rfl) ?_
  refine wv_s f99_68 rfl (fun _ => rfl) ?_
  refine wv_valV f99_70 (by decide) (by simp) (by simp) (by decide +kernel) (by assumption) (by rfl) (by decide +kernel) rfl ((show Wc sc 3 32 [.ref o, .ref g.a] A1 (fun r A' => r = .inl (some (.int (zI (cntM g.g (w.2.2 ++ [newWr xa ca g.g k (w.2.2.length + 1) fr to_ v 0 1]) : Nat)))) ∧ A' = A1) from c32 hO1 hgm)) (by omega) ?_
  refine wv_bip f99_73 (by decide) ?_
  refine wv_cX_lt f99_75 (by omega) (by omega) (fun hb => ?_) (fun hb => ?_)
  · refine wv_s f99_85 rfl (fun _ => rfl) ?_
    exact wv_iret f99_87 (by rfl) (⟨rfl, xa, ca, c1, F1, ct1, e1, q4, .inl ⟨by omega, (by simp only [ctK, ctKs, Prod.mk.injEq]; omega), hO1⟩, by omega, by omega⟩)
  · refine wv_s f99_78 rfl (fun _ => rfl) ?_
    refine wv_s f99_79 rfl (fun _ => rfl) ?_
    refine wv_resV f99_81 (by decide) (by simp) (by simp) (by decide +kernel) (by assumption) (by rfl) (by decide +kernel) rfl (c52 hO1 hf hg (by simp only [List.length_append, List.length_singleton]; omega) (by omega) (by omega) (by omega)) (by omega) (fun v9 A2 hv => ?_)
    obtain ⟨r, F2, ct2, c2, rfl, n2, n3, n4, n5, n6, n7, n8, n9, n10, n11⟩ := hv
    simp only [List.length_append, List.length_singleton] at n10 n11
    simp only [ctK, ctKs, Prod.mk.injEq] at n8
    refine wv_s f99_84 rfl (fun _ => rfl) ?_
    refine wv_s f99_85 rfl (fun _ => rfl) ?_
    exact wv_iret f99_87 (by rfl) (⟨rfl, xa, ca, c1, F2, ct2, e1.trans n6, q4, .inr ⟨by omega, (by simp only [ctK, ctKs, Prod.mk.injEq]; omega), r, c2, by rw [n2]; omega, n3, n4, n5, n7, n9⟩, by omega, by omega⟩)
theorem c99_t {f1 f2 : List FamD} {l0 : LvD} {lt : List LvD} {k fr to_ : Nat} {v : Int32} (hO : okO A F L o f w s c b fi y me ct) (hf : f.2.2 = f1 ++ g :: f2) (hg : g.lv = l0 :: lt) (hfull : 6 ≤ l0.rs.length) (hk : k ≤ 4) (hfr : fr ≤ to_) (hto : to_ < 100) :
    Wc sc 9 99 [.ref o, .int (zI f1.length), .int (zI k), .int (zI fr), .int (zI to_), .int v] A (fun v A' => v = .inr 2 ∧ A' = aThr A) := by
  show Wv sc 9 99 0 [some (.ref o), some (.int (zI f1.length)), some (.int (zI k)), some (.int (zI fr)), some (.int (zI to_)), some (.int v), none, none] [] A _
  have h1 := hO.ob
  have hgm : g ∈ f.2.2 := by rw [hf]; simp
  have hgi : f.2.2[f1.length]? = some g := by rw [hf]; simp
  refine wv_s f99_0 rfl (fun _ => rfl) ?_
  refine wv_s f99_1 rfl (fun _ => rfl) ?_
  refine wv_valV f99_2 (by decide) (by simp) (by simp) (by decide +kernel) (by assumption) (by rfl) (by decide +kernel) rfl (c47 hO hgi) (by omega) ?_
  refine wv_st6 f99_5 rfl (fun _ _ => rfl) ?_
  refine wv_s f99_7 rfl (fun _ => rfl) ?_
  refine wv_s f99_8 rfl (fun _ => rfl) ?_
  refine wv_effS f99_10 (by decide) (by simp) (by simp) (by decide +kernel) (c29 (by omega) (by omega) (by omega)) (by omega) (fun A1 hA1 => ?_)
  rw [hA1]
  refine wv_s f99_13 rfl (fun _ => rfl) ?_
  refine wv_s f99_14 rfl (fun _ => rfl) ?_
  exact wv_thrV f99_16 (by decide) (by simp) (by simp) (by decide +kernel) h1 (by rfl) (by decide +kernel) rfl (c21_t hO hgm hg hfull) (by omega) (by decide +kernel) (by decide +kernel) (fun A' h => ⟨rfl, h⟩)
/-- a method that calls another one and gives what that gave -/
theorem wv_tail {dc a b len i ci mm pc : Nat} {ls : gL} {st : List Value} {r : Nat} {cc : vC} {Q : gO → gA → Prop} (hf : gFetch mm pc = some (.invokevirtual i, len, a, b)) (ha : a < 900) (hb : b = st.length) (hmx : b ≤ gMx a) (hr : A.1 r = some cc) (hcl : vCls cc = some ci) (hcn : (gCn ci == (gY a).cls) = true) (hl : st.reverse.head? = some (.ref r)) (hc : Wc sc dc a st.reverse A Q) (hd : dc < d)
    (hq : ∀ v A', Q v A' → (∃ X : Int32, v = .inl (some (.int X))) ∨ ∃ E, v = .inr E) {len2 a2 b2 : Nat} (hf2 : gFetch mm (pc + 3) = some (.ireturn, len2, a2, b2)) (hok : ∀ X : Int32, gRetOk mm (.int X) = true) (hh : ∀ E, gHand mm pc E = none) (hp : gPass mm = true) : Wv sc d mm pc ls st A Q := by
  subst hb
  have e1 : st.take st.length = st := List.take_of_length_le (Nat.le_refl _)
  have e2 : st.drop st.length = [] := List.drop_of_length_le (Nat.le_refl _)
  refine wv_invV hf ha (Nat.le_refl _) (by rw [e2]; decide) hmx hr hcl hcn (by rw [e1]; exact hl) (by rw [e1]; exact hc) hd (fun o A' h9 => ?_)
  rw [e2]
  rcases hq o A' h9 with ⟨X, rfl⟩ | ⟨E, rfl⟩
  · exact wv_iret hf2 (hok X) h9
  · exact ⟨rfl, .inr ⟨hh E, hp, h9⟩⟩
theorem gRet_int {mm : Nat} (h : gRt mm = some .int) (X : Int32) : gRetOk mm (.int X) = true := by
  unfold gRetOk
  rw [h]
def isR (Q : gO → gA → Prop) : Prop := ∀ v A', Q v A' → (∃ X : Int32, v = .inl (some (.int X))) ∨ ∃ E, v = .inr E
theorem c85_w {x0 x1 x2 : Value} {o : Nat} {cc : vC} {Q : gO → gA → Prop} {I K V : Int32} (h1 : A.1 o = some cc) (hcl : vCls cc = some 11) (hc : Wc sc 9 99 [.ref o, .int I, .int (zI 1), .int K, .int K, .int V] A Q) (hq : isR Q) : Wc sc 10 85 [.ref o, .int I, .int K, .int V] A Q := by
  show Wv sc 10 85 0 [some (.ref o), some (.int I), some (.int K), some (.int V)] [] A _
  refine wv_s f85_0 rfl (fun _ => rfl) ?_
  refine wv_s f85_1 rfl (fun _ => rfl) ?_
  refine wv_icon f85_2 ?_
  refine wv_s f85_3 rfl (fun _ => rfl) ?_
  refine wv_s f85_4 rfl (fun _ => rfl) ?_
  refine wv_s f85_5 rfl (fun _ => rfl) ?_
  exact wv_tail f85_6 (by decide) rfl (by decide +kernel) h1 hcl (by decide +kernel) rfl hc (by omega) hq f85_9 (gRet_int (by decide +kernel)) (fun E => rfl) (by decide +kernel)
theorem c39_w {o : Nat} {cc : vC} {Q : gO → gA → Prop} {I K : Int32} (h1 : A.1 o = some cc) (hcl : vCls cc = some 11) (hc : Wc sc 9 99 [.ref o, .int I, .int (zI 2), .int K, .int K, .int (zI 0)] A Q) (hq : isR Q) : Wc sc 10 39 [.ref o, .int I, .int K] A Q := by
  show Wv sc 10 39 0 [some (.ref o), some (.int I), some (.int K)] [] A _
  refine wv_s f39_0 rfl (fun _ => rfl) ?_
  refine wv_s f39_1 rfl (fun _ => rfl) ?_
  refine wv_icon f39_2 ?_
  refine wv_s f39_3 rfl (fun _ => rfl) ?_
  refine wv_s f39_4 rfl (fun _ => rfl) ?_
  refine wv_icon f39_5 ?_
  exact wv_tail f39_6 (by decide) rfl (by decide +kernel) h1 hcl (by decide +kernel) rfl hc (by omega) hq f39_9 (gRet_int (by decide +kernel)) (fun E => rfl) (by decide +kernel)
theorem c40_w {o : Nat} {cc : vC} {Q : gO → gA → Prop} {I K T : Int32} (h1 : A.1 o = some cc) (hcl : vCls cc = some 11) (hc : Wc sc 9 99 [.ref o, .int I, .int (zI 3), .int K, .int T, .int (zI 0)] A Q) (hq : isR Q) : Wc sc 10 40 [.ref o, .int I, .int K, .int T] A Q := by
  show Wv sc 10 40 0 [some (.ref o), some (.int I), some (.int K), some (.int T)] [] A _
  refine wv_s f40_0 rfl (fun _ => rfl) ?_
  refine wv_s f40_1 rfl (fun _ => rfl) ?_
  refine wv_icon f40_2 ?_
  refine wv_s f40_3 rfl (fun _ => rfl) ?_
  refine wv_s f40_4 rfl (fun _ => rfl) ?_
  refine wv_icon f40_5 ?_
  exact wv_tail f40_6 (by decide) rfl (by decide +kernel) h1 hcl (by decide +kernel) rfl hc (by omega) hq f40_9 (gRet_int (by decide +kernel)) (fun E => rfl) (by decide +kernel)
theorem c75_w {o : Nat} {cc : vC} {Q : gO → gA → Prop} {I K V : Int32} (h1 : A.1 o = some cc) (hcl : vCls cc = some 11) (hc : Wc sc 9 99 [.ref o, .int I, .int (zI 4), .int K, .int K, .int V] A Q) (hq : isR Q) : Wc sc 10 75 [.ref o, .int I, .int K, .int V] A Q := by
  show Wv sc 10 75 0 [some (.ref o), some (.int I), some (.int K), some (.int V)] [] A _
  refine wv_s f75_0 rfl (fun _ => rfl) ?_
  refine wv_s f75_1 rfl (fun _ => rfl) ?_
  refine wv_icon f75_2 ?_
  refine wv_s f75_3 rfl (fun _ => rfl) ?_
  refine wv_s f75_4 rfl (fun _ => rfl) ?_
  refine wv_s f75_5 rfl (fun _ => rfl) ?_
  exact wv_tail f75_6 (by decide) rfl (by decide +kernel) h1 hcl (by decide +kernel) rfl hc (by omega) hq f75_9 (gRet_int (by decide +kernel)) (fun E => rfl) (by decide +kernel)
/-- does the merging stand in the way -/
def clm (me : Option MeD) (ga : Nat) (lev x y : Int) : Bool := match me with
  | none => false
  | some m => decide (m.h = ga ∧ (lev = (m.lv : Int) ∨ lev = (m.lv : Int) + 1) ∧ lstR 100 m.ins ≤ y ∧ x ≤ grtR (-1) m.ins)
def lvF (me : Option MeD) (ga : Nat) (x y : Int) : Nat → Nat → List LvD → Nat
  | _, dp, [] => dp
  | i, dp, l :: t => if (!(l.rs.any (fun r => r.ov x y)) && !(clm me ga i x y)) = true then lvF me ga x y (i + 1) i t else dp
theorem c59 (hO : okO A F L o f w s c b fi y me ct) (hgm : g ∈ f.2.2) (hl : g.lv[j]? = some l) (hx : i32 x) (hz : i32 z) : Wc sc 5 59 [.ref o, .ref g.a, .int (zI j), .int (zI x), .int (zI z)] A (fun v A' => v = .inl (some (.int (bI (!(l.rs.any (fun r => r.ov x z)) && !(clm me g.a j x z))))) ∧ A' = A) := by
  show Wv sc 5 59 0 [some (.ref o), some (.ref g.a), some (.int (zI j)), some (.int (zI x)), some (.int (zI z)), none] [] A _
  have h1 := hO.ob
  have hf := hO.fm hgm
  have hf1 := hf.1
  have hll := hO.lv hgm (List.mem_of_getElem? hl)
  have hl1 := hll.1
  have hj := (List.getElem?_eq_some_iff.mp hl).1
  have h4 := hf.2.2.1
  refine wv_s f59_0 rfl (fun _ => rfl) ?_
  refine wv_s f59_1 rfl (fun _ => rfl) ?_
  refine wv_valV f59_2 (by decide) (by simp) (by simp) (by decide +kernel) (by assumption) (by rfl) (by decide +kernel) rfl (c108 hf rfl hl) (by omega) ?_
  refine wv_s f59_5 rfl (fun _ => rfl) ?_
  refine wv_s f59_6 rfl (fun _ => rfl) ?_
  refine wv_valV f59_8 (by decide) (by simp) (by simp) (by decide +kernel) (by assumption) (by rfl) (by decide +kernel) rfl (c125 hll hx hz) (by omega) ?_
  cases hov : l.rs.any (fun r => r.ov x z) with
  | true =>
    refine wv_bF f59_11 (rfl) ?_
    refine wv_icon f59_14 ?_
    exact wv_iretB (p := false) f59_15 (by decide +kernel) ( ⟨rfl, rfl⟩)
  | false =>
    cases me with
    | none =>
      refine wv_bT f59_11 (rfl) ?_
      refine wv_s f59_16 rfl (fun _ => rfl) ?_
      refine wv_getfield f59_17 (by assumption) (by rfl) ?_
      refine wv_st5 f59_20 rfl (fun _ _ => rfl) ?_
      refine wv_s f59_22 rfl (fun _ => rfl) ?_
      refine wv_s (pc' := 40) f59_24 rfl (fun _ => rfl) ?_
      refine wv_icon f59_40 ?_
      refine wv_s (pc' := 45) f59_41 rfl (fun _ => rfl) ?_
      exact wv_iretB (p := true) f59_45 (by decide +kernel) ( ⟨rfl, rfl⟩)
    | some mm =>
      have hm1 := hO.me1.1
      have hm2 := hO.me2
      refine wv_bT f59_11 (rfl) ?_
      refine wv_s f59_16 rfl (fun _ => rfl) ?_
      refine wv_getfield f59_17 (by assumption) (by rfl) ?_
      refine wv_st5 f59_20 rfl (fun _ _ => rfl) ?_
      refine wv_s f59_22 rfl (fun _ => rfl) ?_
      refine wv_s (pc' := 27) f59_24 rfl (fun _ => rfl) ?_
      refine wv_s f59_27 rfl (fun _ => rfl) ?_
      refine wv_s f59_29 rfl (fun _ => rfl) ?_
      refine wv_s f59_30 rfl (fun _ => rfl) ?_
      refine wv_s f59_31 rfl (fun _ => rfl) ?_
      refine wv_s f59_32 rfl (fun _ => rfl) ?_
      refine wv_valV f59_34 (by decide) (by simp) (by simp) (by decide +kernel) (by assumption) (by rfl) (by decide +kernel) rfl (c131 (lv := mm.lv) (fl := (j : Int)) hm1 hm2.2.1 hm2.2.2.1 (by have := hm2.1; omega) (by omega) hx hz) (by omega) ?_
      by_cases hc : mm.h = g.a ∧ ((j : Int) = (mm.lv : Int) ∨ (j : Int) = (mm.lv : Int) + 1) ∧ lstR 100 mm.ins ≤ z ∧ x ≤ grtR (-1) mm.ins
      · have ec : clm (some mm) g.a j x z = true := decide_eq_true hc
        refine wv_nT f59_37 (decide_eq_true hc) ?_
        refine wv_icon f59_44 ?_
        exact wv_iretB (p := false) f59_45 (by decide +kernel) ( ⟨by rw [ec]; rfl, rfl⟩)
      · have ec : clm (some mm) g.a j x z = false := decide_eq_false hc
        refine wv_nF f59_37 (decide_eq_false hc) ?_
        refine wv_icon f59_40 ?_
        refine wv_s (pc' := 45) f59_41 rfl (fun _ => rfl) ?_
        exact wv_iretB (p := true) f59_45 (by decide +kernel) ( ⟨by rw [ec]; rfl, rfl⟩)
theorem c69_l (hO : okO A F L o f w s c b fi y me ct) (hgm : g ∈ f.2.2) (hx : i32 x) (hz : i32 z) : ∀ (k i dp : Nat), i + k = 4 → dp ≤ 3 →
    Wv sc 6 69 6 [some (.ref o), some (.ref g.a), some (.int (zI x)), some (.int (zI z)), some (.int (zI dp)), some (.int (zI i))] [] A (fun v A' => v = .inl (some (.int (zI (lvF me g.a x z i dp (g.lv.drop i) : Nat)))) ∧ A' = A)
  | 0, i, dp, hik, hdp => by
    have hf := hO.fm hgm
    have e : g.lv.drop i = [] := List.drop_of_length_le (by rw [hf.2.2.1]; omega)
    rw [e]
    refine wv_s f69_6 rfl (fun _ => rfl) ?_
    refine wv_icon f69_8 ?_
    refine wv_cT_ge f69_9 (by omega) (by omega) (by omega) ?_
    refine wv_s f69_34 rfl (fun _ => rfl) ?_
    exact wv_iret f69_36 (by rfl) (⟨rfl, rfl⟩)
  | k + 1, i, dp, hik, hdp => by
    have h1 := hO.ob
    have hf := hO.fm hgm
    obtain ⟨l, hlm, hl0, hl1, hld, -⟩ := at_lv hf (show i < 4 by omega)
    rw [hld]
    refine wv_s f69_6 rfl (fun _ => rfl) ?_
    refine wv_icon f69_8 ?_
    refine wv_cF_ge f69_9 (by omega) (by omega) (by omega) ?_
    refine wv_s f69_12 rfl (fun _ => rfl) ?_
    refine wv_s f69_13 rfl (fun _ => rfl) ?_
    refine wv_s f69_14 rfl (fun _ => rfl) ?_
    refine wv_s f69_16 rfl (fun _ => rfl) ?_
    refine wv_s f69_17 rfl (fun _ => rfl) ?_
    refine wv_valV f69_18 (by decide) (by simp) (by simp) (by decide +kernel) (by assumption) (by rfl) (by decide +kernel) rfl (c59 hO hgm hl0 hx hz) (by omega) ?_
    cases hb : (!(l.rs.any (fun r => r.ov x z)) && !(clm me g.a i x z)) with
    | true =>
      refine wv_bF f69_21 (rfl) ?_
      refine wv_s f69_24 rfl (fun _ => rfl) ?_
      refine wv_st4 f69_26 rfl (fun _ _ => rfl) ?_
      refine wv_inc5 f69_28 ?_
      refine wv_s (pc' := 6) f69_31 rfl (fun _ => rfl) ?_
      rw [show lvF me g.a x z i dp (l :: g.lv.drop (i + 1)) = lvF me g.a x z (i + 1) i (g.lv.drop (i + 1)) by simp only [lvF]; rw [if_pos hb]]
      exact c69_l hO hgm hx hz k (i + 1) i (by omega) (by omega)
    | false =>
      refine wv_bT f69_21 (rfl) ?_
      refine wv_s f69_34 rfl (fun _ => rfl) ?_
      exact wv_iret f69_36 (by rfl) (⟨by simp only [lvF]; rw [if_neg (by rw [hb]; decide)], rfl⟩)
theorem c69 (hO : okO A F L o f w s c b fi y me ct) (hgm : g ∈ f.2.2) (hx : i32 x) (hz : i32 z) : Wc sc 6 69 [.ref o, .ref g.a, .int (zI x), .int (zI z)] A (fun v A' => v = .inl (some (.int (zI (lvF me g.a x z 0 0 g.lv : Nat)))) ∧ A' = A) := by
  show Wv sc 6 69 0 [some (.ref o), some (.ref g.a), some (.int (zI x)), some (.int (zI z)), none, none] [] A _
  refine wv_icon f69_0 ?_
  refine wv_st4 f69_1 rfl (fun _ _ => rfl) ?_
  refine wv_icon f69_3 ?_
  refine wv_st5 f69_4 rfl (fun _ _ => rfl) ?_
  exact c69_l hO hgm hx hz 4 0 0 (by omega) (by omega)
theorem lvF_le {me : Option MeD} {ga : Nat} {x y : Int} : ∀ {t : List LvD} {i dp : Nat}, lvF me ga x y i dp t = dp ∨ (i ≤ lvF me ga x y i dp t ∧ lvF me ga x y i dp t < i + t.length)
  | [], i, dp => .inl rfl
  | l :: t, i, dp => by
    simp only [lvF]
    split
    · have := @lvF_le me ga x y t (i + 1) i
      simp only [List.length_cons]
      omega
    · exact .inl rfl
end WB
