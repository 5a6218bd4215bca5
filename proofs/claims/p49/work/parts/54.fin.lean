/-! THE LAST STEP -/
def toI (K : List ChD) (e : Nat) : Int := match K[e]? with
  | some c => (c.f : Int) - 1
  | none => 99
/-- the runs that are made of what is kept -/
def Seg (K kr : List ChD) : Nat → Nat → Int → List RunD → Prop
  | _, st, _, [] => st = K.length
  | id, st, fr, r :: t => ∃ e, EndP K st e ∧ r.id = id + 1 ∧ r.mg = true ∧ r.rows = (K.take e).drop st ∧ r.spans.map Prod.snd = (kr.filter (fun c => c.ov fr (toI K e))).map (clip fr (toI K e)) ∧ Seg K kr (id + 1) e (toI K e + 1) t
def SegA (K kr : List ChD) (id : Nat) (nr : List RunD) : Prop := (K ≠ [] ∧ Seg K kr id 0 0 nr) ∨ (K = [] ∧ (((kr.filter (fun c => c.ov 0 99)) = [] ∧ nr = []) ∨ ∃ r, nr = [r] ∧ r.id = id + 1 ∧ r.mg = true ∧ r.rows = [] ∧ r.spans.map Prod.snd = (kr.filter (fun c => c.ov 0 99)).map (clip 0 99) ∧ 0 < r.wt))
def cR : List RunD → Nat
  | [] => 0
  | r :: t => 40 + 2 * r.rows.length + 7 * r.spans.length + cR t
def sR : List RunD → Nat
  | [] => 0
  | r :: t => 100 + 16 * r.rows.length + 13 * r.spans.length + sR t
def insBs (rs nr : List RunD) : List RunD := nr.foldl (fun l r => insB r l) rs
theorem toI_rg {V : Nat → Option vC} {K : List ChD} {e : Nat} (h : ∀ c, c ∈ K → okCh V c) : -1 ≤ toI K e ∧ toI K e ≤ 99 := by
  unfold toI
  split
  · rename_i c hc
    have := (h c (List.mem_of_getElem? hc)).2.2.2.1
    omega
  · omega
section FN
variable {sc : gSc} {d : Nat} {A : gA} {F : Nat → Option vC} {L : List (Nat × vC)} {o : Nat} {f : Ls FamD} {w : Ls WrD} {s : Ls SnD} {c : Ls CuD} {b : Ls BkD} {fi : Nat × FiD} {y : Ls ChD} {me : Option MeD} {mm : MeD} {ct : CtD} {g : FamD} {l ls lt : LvD} {r : RunD} {i j m n q kq kqc : Nat} {x z : Int} {f1 f2 : List FamD} {lv1 lv2 : List LvD} {kr : List ChD}
theorem c50_r {Q : gO → gA → Prop} {st e ra : Nat} {x2 x3 x4 x5 x7 x8 x10 : Option Value} (hse : st ≤ e) (hel : e ≤ mm.kept.length) (hkl : mm.kept.length ≤ 2000) : ∀ (n k rc : Nat) (A : gA), k + n = e → st ≤ k → okO A F ((ra, vL rc (((mm.kept.take k).drop st).map ChD.a)) :: L) o f w s c b fi y (some mm) ct → rc ≤ 10 + 2 * (k - st) →
    (∀ A' rc', okO A' F ((ra, vL rc' (((mm.kept.take e).drop st).map ChD.a)) :: L) o f w s c b fi y (some mm) ct → 5 * A'.2.1 + rc ≤ 5 * A.2.1 + rc' → A'.2.2 + 4 * rc ≤ A.2.2 + 4 * rc' → rc' ≤ 10 + 2 * (e - st) → Wv sc 9 50 200 [some (.ref o), some (.ref mm.a), x2, x3, x4, x5, some (.int (zI st)), x7, x8, some (.int (zI e)), x10, some (.ref ra), some (.int (zI e))] [] A' Q) →
    Wv sc 9 50 157 [some (.ref o), some (.ref mm.a), x2, x3, x4, x5, some (.int (zI st)), x7, x8, some (.int (zI e)), x10, some (.ref ra), some (.int (zI k))] [] A Q
  | 0, k, rc, A, hk, hsk, hO, hrc, hQ => by
    have e1 : k = e := by omega
    subst e1
    have hQ := hQ A rc hO (by omega) (by omega) hrc
    refine wv_s f50_157 rfl (fun _ => rfl) ?_
    refine wv_s f50_159 rfl (fun _ => rfl) ?_
    refine wv_cT_ge f50_161 (by omega) (by omega) (by omega) ?_
    exact hQ
  | n + 1, k, rc, A, hk, hsk, hO, hrc, hQ => by
    have hm := hO.me1.1
    have hka := hO.me1.2
    have hra := hO.atL
    obtain ⟨v, hvm, hv0, hv1, hvd, hvt⟩ := at_i (show k < mm.kept.length by omega)
    have hvF := hO.me2.2.2.2.1 v hvm
    have hv2 := hvF.1
    have ltk : (mm.kept.take k).length = k := by rw [List.length_take]; omega
    have es : (mm.kept.take (k + 1)).drop st = (mm.kept.take k).drop st ++ [v] := by
      rw [hvt, List.drop_append_of_le_length (by omega)]
    have hll : (((mm.kept.take k).drop st).map ChD.a).length = k - st := by rw [List.length_map, List.length_drop, ltk]
    refine wv_s f50_157 rfl (fun _ => rfl) ?_
    refine wv_s f50_159 rfl (fun _ => rfl) ?_
    refine wv_cF_ge f50_161 (by omega) (by omega) (by omega) ?_
    refine wv_s f50_164 rfl (fun _ => rfl) ?_
    refine wv_s f50_166 rfl (fun _ => rfl) ?_
    refine wv_getfield f50_167 (hm) (by rfl) ?_
    refine wv_lsize f50_170 (hka) (by omega) (by simp) (fun hs => ?_)
    rw [List.length_map] at hs ⊢
    refine wv_cF_ge f50_173 (by omega) (by omega) (by omega) ?_
    refine wv_s f50_176 rfl (fun _ => rfl) ?_
    refine wv_s f50_178 rfl (fun _ => rfl) ?_
    refine wv_getfield f50_179 (hm) (by rfl) ?_
    refine wv_s f50_182 rfl (fun _ => rfl) ?_
    refine wv_lget f50_184 (hka) (by first | rfl | omega) (hv1 _) (by omega) (by simp) ?_
    refine wv_cast f50_187 (hv2) ?_
    refine wv_ladd f50_190 hra hv2 (by decide +kernel) (by rw [hll]; omega) (by omega) (by simp) (fun c1 k1 s1 hlg => ?_)
    rw [hll] at hlg
    have hO1 := hO.lsL (v' := vL c1 (((mm.kept.take (k + 1)).drop st).map ChD.a)) (c' := c1) (kc := k1) (ks := s1)
    rw [es, List.map_append] at hO1
    refine wv_s f50_193 rfl (fun _ => rfl) ?_
    refine wv_inc12 f50_194 ?_
    refine wv_s (pc' := 157) f50_197 rfl (fun _ => rfl) ?_
    have hlg4 := hlg.2.2.2
    refine c50_r hse hel hkl n (k + 1) c1 _ (by omega) (by omega) (by rw [es, List.map_append]; exact hO1) (by omega) (fun A' rc' q1 q2 q3 q4 => hQ A' rc' q1 ?_ ?_ q4)
    · have := hlg.2.1
      have q2' : 5 * A'.2.1 + c1 ≤ 5 * (A.2.1 + k1) + rc' := q2
      omega
    · have := hlg.2.2.1
      have q3' : A'.2.2 + 4 * c1 ≤ A.2.2 + s1 + 4 * rc' := q3
      omega
/-- the families while runs are made -/
def fG (f : Ls FamD) (f1 : List FamD) (g : FamD) (f2 : List FamD) (lv1 : List LvD) (ls lt : LvD) (lv2 : List LvD) (lc : Nat) (rs : List RunD) : Ls FamD := (f.1, f.2.1, f1 ++ setLv g (lv1 ++ ls :: (lt.a, lt.mu, lt.la, lc, rs) :: lv2) :: f2)
theorem c50_b {Q : gO → gA → Prop} {st : Nat} {fr : Int} {x8 x9 x10 x11 x12 x2 x4 : Option Value} (hkl : mm.kept.length ≤ 2000) (hst : st ≤ mm.kept.length) (hfr : 0 ≤ fr ∧ fr ≤ 100) (hkr : F kq = some (vL kqc (kr.map ChD.a))) (hkc : ∀ c, c ∈ kr → okCh F c) (hkrl : kr.length < 2000) (hid : ct.2.2.1 + 1 < 1000000) {lc : Nat} {rs : List RunD} (hrs : rs.length < 2000) (hO : okO A F L o (fG f f1 g f2 lv1 ls lt lv2 lc rs) w s c b fi y (some mm) ct)
    (hQ : ∀ e A' F' lc' rs' ct' x11 x12, (st < mm.kept.length → EndP mm.kept st e) → (st = mm.kept.length → e = st) → Ext F F' → okO A' F' L o (fG f f1 g f2 lv1 ls lt lv2 lc' rs') w s c b fi y (some mm) ct' →
      ((((mm.kept.take e).drop st) = [] ∧ kr.filter (fun c => c.ov fr (toI mm.kept e)) = [] ∧ rs' = rs ∧ lc' = lc ∧ ctK ct' = ctKs ct 0 0 ∧ 5 * A'.2.1 ≤ 5 * A.2.1 + 40 ∧ A'.2.2 ≤ A.2.2 + 100) ∨
       ∃ r, r.id = ct.2.2.1 + 1 ∧ r.mg = true ∧ r.rows = (mm.kept.take e).drop st ∧ r.spans.map Prod.snd = (kr.filter (fun c => c.ov fr (toI mm.kept e))).map (clip fr (toI mm.kept e)) ∧ rs' = insB r rs ∧ ctK ct' = ctKs ct 1 0 ∧ 5 * A'.2.1 + lc ≤ 5 * A.2.1 + lc' + 40 + 2 * r.rows.length + 7 * r.spans.length ∧ A'.2.2 + 4 * lc ≤ A.2.2 + 4 * lc' + 100 + 16 * r.rows.length + 13 * r.spans.length ∧ (lc' ≤ lc ∨ lc' ≤ 10 + 2 * (rs.length + 1)) ∧ 0 < r.wt) →
      Wv sc 9 50 241 [some (.ref o), some (.ref mm.a), x2, some (.ref kq), x4, some (.ref lt.a), some (.int (zI st)), some (.int (zI fr)), x8, some (.int (zI e)), some (.int (zI (toI mm.kept e))), x11, x12] [] A' Q) :
    Wv sc 9 50 97 [some (.ref o), some (.ref mm.a), x2, some (.ref kq), x4, some (.ref lt.a), some (.int (zI st)), some (.int (zI fr)), x8, x9, x10, x11, x12] [] A Q := by
  have h1 := hO.ob
  have hm := hO.me1.1
  have hka := hO.me1.2
  have hkk := hO.me2.2.2.2.1
  refine wv_s f50_97 rfl (fun _ => rfl) ?_
  refine wv_getfield f50_98 (hm) (by rfl) ?_
  refine wv_s f50_101 rfl (fun _ => rfl) ?_
  refine wv_resS f50_103 (by decide) (by simp) (by simp) (by decide +kernel) (c44 hka hkk (by omega) hst) (by omega) (fun v9 A1 hv => ?_)
  obtain ⟨e, rfl, e1, e2, hA1⟩ := hv
  rw [hA1]
  have hel : e ≤ mm.kept.length ∧ st ≤ e := by
    by_cases hh : st < mm.kept.length
    · have := e1 hh
      exact ⟨this.2.1, by have := this.1; omega⟩
    · have := e2 (by omega)
      omega
  have rest : ∀ T : Int32, T = zI (toI mm.kept e) → Wv sc 9 50 142 [some (.ref o), some (.ref mm.a), x2, some (.ref kq), x4, some (.ref lt.a), some (.int (zI st)), some (.int (zI fr)), x8, some (.int (zI e)), x10, x11, x12] [.int T] A Q := by
    rintro T rfl
    have hto := @toI_rg A.1 mm.kept e hkk
    refine wv_st10 f50_142 rfl (fun _ _ => rfl) ?_
    refine wv_newL f50_144 (fun ra hra => ?_)
    have hO2 := okO.push hO.2 (hO.1.new (n := 3) (c := vW) hra)
    have hr2 := hO2.atL
    refine wv_s f50_147 rfl (fun _ => rfl) ?_
    refine wv_linit f50_148 (by assumption) (by omega) (by simp) ?_
    refine wv_st11 f50_151 rfl (fun _ _ => rfl) ?_
    refine wv_s f50_153 rfl (fun _ => rfl) ?_
    refine wv_st12 f50_155 rfl (fun _ _ => rfl) ?_
    have hO3 : okO (aPut (aNew A ra vW 3) ra (vL 0 [])) F ((ra, vL 0 (((mm.kept.take st).drop st).map ChD.a)) :: L) o (fG f f1 g f2 lv1 ls lt lv2 lc rs) w s c b fi y (some mm) ct := by
      rw [List.drop_of_length_le (by rw [List.length_take]; omega)]
      exact hO2.lsL (c' := 0) (kc := 0) (ks := 0) (v' := vL 0 [])
    refine c50_r hel.2 hel.1 hkl (e - st) st 0 _ (by omega) (Nat.le_refl _) hO3 (by omega) (fun A4 rc q1 q2 q3 q4 => ?_)
    obtain ⟨p1, e3⟩ := q1.frz
    have hkr4 := e3 _ _ hkr
    have q2' : 5 * A4.2.1 + 0 ≤ 5 * (A.2.1 + 1) + rc := q2
    have q3' : A4.2.2 + 4 * 0 ≤ A.2.2 + 3 + 4 * rc := q3
    refine wv_s f50_200 rfl (fun _ => rfl) ?_
    refine wv_s f50_201 rfl (fun _ => rfl) ?_
    refine wv_s f50_203 rfl (fun _ => rfl) ?_
    refine wv_resS f50_205 (by decide) (by simp) (by simp) (by decide +kernel) (c80 (x := fr) (y := toI mm.kept e) hfr hto (by omega) hkr4 (fun c hc => (hkc c hc).ext e3) p1.1) (by omega) (fun v5 A5 hv => ?_)
    obtain ⟨sq, slc, cs, F5, rfl, e4, o5, hcs, hck, t1, t2, t3⟩ := hv
    have hO5 := okO.push (p1.2.ext e4) o5
    obtain ⟨p2, e5⟩ := hO5.frz
    have hra6 := p2.1.1 _ _ (e5 _ _ (e4 _ _ fz_self))
    have hsq6 := p2.1.1 _ _ (show fz F5 sq (vL slc (cs.map ChD.a)) sq = some (vL slc (cs.map ChD.a)) from fz_self)
    have hrows : ∀ z, z ∈ (mm.kept.take e).drop st → okCh (fz F5 sq (vL slc (cs.map ChD.a))) z := fun z hz => (((hO.2.2.2.2.2.2.2.1 mm rfl).2.2.2.1 z (List.mem_of_mem_take (List.mem_of_mem_drop hz))).ext (e3.trans e4)).ext e5
    have hrl : ((mm.kept.take e).drop st).length = e - st := by rw [List.length_drop, List.length_take]; omega
    have mk : ((mm.kept.take e).drop st ≠ [] ∨ cs ≠ []) → Wv sc 9 50 226 [some (.ref o), some (.ref mm.a), x2, some (.ref kq), x4, some (.ref lt.a), some (.int (zI st)), some (.int (zI fr)), x8, some (.int (zI e)), some (.int (zI (toI mm.kept e))), some (.ref ra), some (.ref sq)] [] A5 Q := by
      intro hne
      have h6 := p2.ob
      refine wv_s f50_226 rfl (fun _ => rfl) ?_
      refine wv_s f50_228 rfl (fun _ => rfl) ?_
      refine wv_icon f50_229 ?_
      refine wv_s f50_230 rfl (fun _ => rfl) ?_
      refine wv_s f50_232 rfl (fun _ => rfl) ?_
      refine wv_resV f50_234 (by decide) (by simp) (by simp) (by decide +kernel) (by assumption) (by rfl) (by decide +kernel) rfl (c74 (mg := true) (rows := (mm.kept.take e).drop st) (spans := cs) p2 (e5 _ _ (e4 _ _ fz_self)) fz_self hrows (fun z hz => (hck z hz).ext e5) hid) (by omega) (fun v7 A7 hv => ?_)
      obtain ⟨r, F7, ct7, rfl, n2, n3, n4, n5, n6, n7, n8, n9, n10, n11⟩ := hv
      have hgm : setLv g (lv1 ++ ls :: (lt.a, lt.mu, lt.la, lc, rs) :: lv2) ∈ (fG f f1 g f2 lv1 ls lt lv2 lc rs).2.2 := by
        show _ ∈ f1 ++ _ :: f2
        simp
      have hlm : ((lt.a, lt.mu, lt.la, lc, rs) : LvD) ∈ (setLv g (lv1 ++ ls :: (lt.a, lt.mu, lt.la, lc, rs) :: lv2)).lv := by
        show _ ∈ lv1 ++ ls :: (lt.a, lt.mu, lt.la, lc, rs) :: lv2
        simp
      have hl7 := n9.lv hgm hlm
      have hl71 : A7.1 lt.a = some (vO 6 [.ref lt.la, .int (zI lt.mu)]) := hl7.1
      have hr7 := n7.ext n9.1.1
      have hr71 := hr7.1
      refine wv_icon f50_237 ?_
      refine wv_effV f50_238 (by decide) (by simp) (by simp) (by decide +kernel) hl71 (by rfl) (by decide +kernel) rfl (c121 (nw := false) (l := (lt.a, lt.mu, lt.la, lc, rs)) hl7 hr7 (by show rs.length < 2600; omega)) (by omega) (fun A8 hA8 => ?_)
      obtain ⟨c2, k2, s2, hlg, hA8⟩ := hA8
      rw [if_neg (by decide)] at hA8 hlg
      have hO8 := n9.lsLv (c' := c2) (kc := k2) (ks := s2) (g := setLv g (lv1 ++ ls :: (lt.a, lt.mu, lt.la, lc, rs) :: lv2)) (f1 := f1) (f2 := f2) (l1 := lv1 ++ [ls]) (l2 := lv2) (l := (lt.a, lt.mu, lt.la, lc, rs)) (rs' := insB r rs) rfl (by show lv1 ++ ls :: _ = _; simp) (fun z hz => by
        rcases insB_mem.mp hz with rfl | hz
        · exact n7
        · exact ((n9.2.1 _ hgm).2 _ hlm).2 z hz)
      have eG : ((fG f f1 g f2 lv1 ls lt lv2 lc rs).1, (fG f f1 g f2 lv1 ls lt lv2 lc rs).2.1, f1 ++ setLv (setLv g (lv1 ++ ls :: (lt.a, lt.mu, lt.la, lc, rs) :: lv2)) ((lv1 ++ [ls]) ++ (lt.a, lt.mu, lt.la, c2, insB r rs) :: lv2) :: f2) = fG f f1 g f2 lv1 ls lt lv2 c2 (insB r rs) := by
        show (f.1, f.2.1, _) = (f.1, f.2.1, _)
        rw [List.append_assoc]
        rfl
      have hO9 : okO A8 F7 L o (fG f f1 g f2 lv1 ls lt lv2 c2 (insB r rs)) w s c b fi y (some mm) ct7 := by
        rw [hA8, ← eG]
        exact hO8
      have e9 : A8.2 = (A7.2.1 + k2, A7.2.2 + s2) := by rw [hA8]; rfl
      rw [List.length_map, insB_len] at hlg
      have l1 := hlg.2.1
      have l2 := hlg.2.2.1
      have l3 := hlg.2.2.2
      change lc ≤ c2 ∧ _ at hlg
      refine hQ e A8 F7 c2 (insB r rs) ct7 _ _ e1 e2 (e3.trans (e4.trans (e5.trans n6))) hO9 (.inr ⟨r, n2, n3, n4, by rw [n5]; exact hcs, rfl, n8, ?_, ?_, ?_, ?_⟩)
      · rw [e9, n4, n5, hrl]
        simp only
        have l1' : 5 * k2 + lc ≤ c2 := l1
        omega
      · rw [e9, n4, n5, hrl]
        simp only
        rw [hrl] at n11
        have l2' : s2 + 4 * lc ≤ 4 * c2 := l2
        omega
      · have l3' : c2 ≤ lc ∨ c2 ≤ 10 + 2 * (rs.length + 1) := l3
        exact l3'
      · unfold RunD.wt
        rw [n4, n5]
        rcases hne with h | h
        · have := List.length_pos_iff.mpr h
          omega
        · have := List.length_pos_iff.mpr h
          omega
    refine wv_st12 f50_208 rfl (fun _ _ => rfl) ?_
    refine wv_s f50_210 rfl (fun _ => rfl) ?_
    refine wv_lempty f50_212 (by assumption) (by omega) (by simp) ?_
    by_cases hem : (mm.kept.take e).drop st = []
    · have eb : (((mm.kept.take e).drop st).map ChD.a).isEmpty = true := by rw [hem]; rfl
      refine wv_bF f50_215 eb ?_
      refine wv_s f50_218 rfl (fun _ => rfl) ?_
      refine wv_lempty f50_220 (by assumption) (by omega) (by simp) ?_
      by_cases hcs0 : cs = []
      · have ec : ((cs.map ChD.a)).isEmpty = true := by rw [hcs0]; rfl
        refine wv_nT f50_223 ec ?_
        refine hQ e A5 _ lc rs ct _ _ e1 e2 (e3.trans (e4.trans e5)) p2 (.inl ⟨hem, ?_, rfl, rfl, rfl, ?_, ?_⟩)
        · have := congrArg List.length hcs
          rw [hcs0, List.length_map, List.length_map] at this
          exact List.length_eq_zero_iff.mp this.symm
        · rw [hcs0] at t1 t3
          simp only [List.length_nil] at t1 t3
          have hz : e - st = 0 := by rw [← hrl, hem]; rfl
          omega
        · rw [hcs0] at t2 t3
          simp only [List.length_nil] at t2 t3
          have hz : e - st = 0 := by rw [← hrl, hem]; rfl
          omega
      · have ec : ((cs.map ChD.a)).isEmpty = false := by
          cases cs with
          | nil => exact absurd rfl hcs0
          | cons _ _ => rfl
        refine wv_nF f50_223 ec ?_
        exact mk (.inr hcs0)
    · have eb : (((mm.kept.take e).drop st).map ChD.a).isEmpty = false := by
        cases hh : (mm.kept.take e).drop st with
        | nil => exact absurd hh hem
        | cons _ _ => rfl
      refine wv_bT f50_215 eb ?_
      exact mk (.inl hem)
  refine wv_st9 f50_106 rfl (fun _ _ => rfl) ?_
  refine wv_s f50_108 rfl (fun _ => rfl) ?_
  refine wv_s f50_110 rfl (fun _ => rfl) ?_
  refine wv_getfield f50_111 (hm) (by rfl) ?_
  refine wv_lsize f50_114 (hka) (by omega) (by simp) (fun hs => ?_)
  rw [List.length_map] at hs ⊢
  refine wv_cX_ge f50_117 (by omega) (by omega) (fun hb => ?_) (fun hb => ?_)
  · refine wv_bip f50_140 (by decide) ?_
    refine rest _ ?_
    unfold toI
    rw [List.getElem?_eq_none (by omega)]
  · obtain ⟨v, hvm, hv0, hv1, -, -⟩ := at_i (show e < mm.kept.length by omega)
    have hv2 := (hkk v hvm).1
    refine wv_s f50_120 rfl (fun _ => rfl) ?_
    refine wv_getfield f50_121 (hm) (by rfl) ?_
    refine wv_s f50_124 rfl (fun _ => rfl) ?_
    refine wv_lget f50_126 (hka) (by first | rfl | omega) (hv1 _) (by omega) (by simp) ?_
    refine wv_cast f50_129 (hv2) ?_
    refine wv_getfield f50_132 (by assumption) (by rfl) ?_
    refine wv_icon f50_135 ?_
    refine wv_isub f50_136 ?_
    refine wv_s (pc' := 142) f50_137 rfl (fun _ => rfl) ?_
    refine rest _ ?_
    unfold toI
    rw [hv0]
end FN
section FN2
variable {sc : gSc} {d : Nat} {A : gA} {F : Nat → Option vC} {L : List (Nat × vC)} {o : Nat} {f : Ls FamD} {w : Ls WrD} {s : Ls SnD} {c : Ls CuD} {b : Ls BkD} {fi : Nat × FiD} {y : Ls ChD} {me : Option MeD} {mm : MeD} {ct : CtD} {g : FamD} {l ls lt : LvD} {r : RunD} {i j m n q kq kqc : Nat} {x z : Int} {f1 f2 : List FamD} {lv1 lv2 : List LvD} {kr : List ChD}
theorem c50_l {Q : gO → gA → Prop} {x2 x4 : Option Value} (hkl : mm.kept.length ≤ 1000) (hkrl : kr.length < 2000) : ∀ (n st i : Nat) (fr : Int) (A : gA) (F : Nat → Option vC) (lc : Nat) (rs : List RunD) (ct : CtD) (x9 x10 x11 x12 : Option Value), st + n = mm.kept.length → i ≤ st → 0 < i → (0 ≤ fr ∧ fr ≤ 100) → F kq = some (vL kqc (kr.map ChD.a)) → (∀ c, c ∈ kr → okCh F c) → ct.2.2.1 + n + 1 < 1000000 → rs.length + n < 2000 → okO A F L o (fG f f1 g f2 lv1 ls lt lv2 lc rs) w s c b fi y (some mm) ct →
    (∀ A' F' lc' ct' nr x6 x7 x8 x9 x10 x11 x12, Ext F F' → okO A' F' L o (fG f f1 g f2 lv1 ls lt lv2 lc' (insBs rs nr)) w s c b fi y (some mm) ct' → Seg mm.kept kr ct.2.2.1 st fr nr → ctK ct' = ctKs ct nr.length 0 → 5 * A'.2.1 + lc ≤ 5 * A.2.1 + lc' + cR nr → A'.2.2 + 4 * lc ≤ A.2.2 + 4 * lc' + sR nr → (lc' ≤ lc ∨ lc' ≤ 10 + 2 * (rs.length + nr.length)) → Wv sc 9 50 257 [some (.ref o), some (.ref mm.a), x2, some (.ref kq), x4, some (.ref lt.a), x6, x7, x8, x9, x10, x11, x12] [] A' Q) →
    Wv sc 9 50 68 [some (.ref o), some (.ref mm.a), x2, some (.ref kq), x4, some (.ref lt.a), some (.int (zI st)), some (.int (zI fr)), some (.int (zI i)), x9, x10, x11, x12] [] A Q := by
  intro n
  induction n using Nat.strongRecOn with
  | _ n ih =>
  intro st i fr A F lc rs ct x9 x10 x11 x12 hn hi h0 hfr hkr hkc hid hrs hO hQ
  have hm := hO.me1.1
  have hka := hO.me1.2
  refine wv_s f50_68 rfl (fun _ => rfl) ?_
  refine wv_s f50_70 rfl (fun _ => rfl) ?_
  refine wv_getfield f50_71 (hm) (by rfl) ?_
  refine wv_lsize f50_74 (hka) (by omega) (by simp) (fun hs => ?_)
  rw [List.length_map] at hs ⊢
  refine wv_cF_gt f50_77 (by omega) (by omega) (by omega) ?_
  refine wv_s f50_80 rfl (fun _ => rfl) ?_
  refine wv_zF_eq f50_82 (by omega) (by omega) ?_
  refine wv_s f50_85 rfl (fun _ => rfl) ?_
  refine wv_s f50_87 rfl (fun _ => rfl) ?_
  refine wv_getfield f50_88 (hm) (by rfl) ?_
  refine wv_lsize f50_91 (hka) (by omega) (by simp) (fun hs2 => ?_)
  rw [List.length_map] at hs2 ⊢
  refine wv_cX_ge f50_94 (by omega) (by omega) (fun hb => ?_) (fun hb => ?_)
  · exact hQ A F lc ct [] _ _ _ _ _ _ _ Ext.refl hO (by show st = mm.kept.length; omega) rfl (by show 5 * A.2.1 + lc ≤ 5 * A.2.1 + lc + 0; omega) (by show A.2.2 + 4 * lc ≤ A.2.2 + 4 * lc + 0; omega) (.inl (Nat.le_refl _))
  · refine c50_b (by omega) (by omega) hfr hkr hkc hkrl (by omega) (by omega) hO (fun e A1 F1 lc1 rs1 ct1 x11 x12 e1 e2 e3 o1 hd => ?_)
    have he := e1 (by omega)
    have hto := @toI_rg A1.1 mm.kept e o1.me2.2.2.2.1
    rcases hd with ⟨h, -⟩ | ⟨r, n2, n3, n4, n5, n6, n7, n8, n9, n10, n11⟩
    · have := congrArg List.length h
      rw [List.length_drop, List.length_take, List.length_nil] at this
      have := he.1
      have := he.2.1
      omega
    · subst n6
      simp only [ctK, ctKs, Prod.mk.injEq] at n7
      have he1 := he.1
      have he2 := he.2.1
      refine wv_s f50_241 rfl (fun _ => rfl) ?_
      refine wv_st6 f50_243 rfl (fun _ _ => rfl) ?_
      refine wv_s f50_245 rfl (fun _ => rfl) ?_
      refine wv_icon f50_247 ?_
      refine wv_iadd f50_248 ?_
      refine wv_st7 f50_249 rfl (fun _ _ => rfl) ?_
      refine wv_inc8 f50_251 ?_
      refine wv_s (pc' := 68) f50_254 rfl (fun _ => rfl) ?_
      refine ih (mm.kept.length - e) (by omega) e (i + 1) (toI mm.kept e + 1) A1 F1 lc1 (insB r rs) ct1 _ _ _ _ (by omega) (by omega) (by omega) (by omega) (e3 _ _ hkr) (fun c hc => (hkc c hc).ext e3) (by omega) (by rw [insB_len]; omega) o1 (fun A' F' lc' ct' nr x6 x7 x8 x9 x10 x11 x12 g1 g2 g3 g4 g5 g6 g7 => ?_)
      simp only [ctK, ctKs, Prod.mk.injEq] at g4
      rw [insB_len] at g7
      refine hQ A' F' lc' ct' (r :: nr) x6 x7 x8 x9 x10 x11 x12 (e3.trans g1) g2 ⟨e, he, n2, n3, n4, n5, ?_⟩ ?_ ?_ ?_ ?_
      · rw [show ct.2.2.1 + 1 = ct1.2.2.1 by omega]
        exact g3
      · simp only [ctK, ctKs, Prod.mk.injEq, List.length_cons]
        omega
      · show _ ≤ 5 * A.2.1 + lc' + (40 + 2 * r.rows.length + 7 * r.spans.length + cR nr)
        omega
      · show _ ≤ A.2.2 + 4 * lc' + (100 + 16 * r.rows.length + 13 * r.spans.length + sR nr)
        omega
      · rw [List.length_cons]
        omega
theorem c50_a {Q : gO → gA → Prop} {x2 x4 x9 x10 x11 x12 : Option Value} (hkl : mm.kept.length ≤ 1000) (hkrl : kr.length < 2000) {lc : Nat} {rs : List RunD} (hkr : F kq = some (vL kqc (kr.map ChD.a))) (hkc : ∀ c, c ∈ kr → okCh F c) (hid : ct.2.2.1 + mm.kept.length + 2 < 1000000) (hrs : rs.length + mm.kept.length + 1 < 2000) (hO : okO A F L o (fG f f1 g f2 lv1 ls lt lv2 lc rs) w s c b fi y (some mm) ct)
    (hQ : ∀ A' F' lc' ct' nr x6 x7 x8 x9 x10 x11 x12, Ext F F' → okO A' F' L o (fG f f1 g f2 lv1 ls lt lv2 lc' (insBs rs nr)) w s c b fi y (some mm) ct' → SegA mm.kept kr ct.2.2.1 nr → ctK ct' = ctKs ct nr.length 0 → 5 * A'.2.1 + lc ≤ 5 * A.2.1 + lc' + cR nr + 40 → A'.2.2 + 4 * lc ≤ A.2.2 + 4 * lc' + sR nr + 100 → (lc' ≤ lc ∨ lc' ≤ 10 + 2 * (rs.length + nr.length)) → Wv sc 9 50 257 [some (.ref o), some (.ref mm.a), x2, some (.ref kq), x4, some (.ref lt.a), x6, x7, x8, x9, x10, x11, x12] [] A' Q) :
    Wv sc 9 50 68 [some (.ref o), some (.ref mm.a), x2, some (.ref kq), x4, some (.ref lt.a), some (.int (zI (0 : Nat))), some (.int (zI 0)), some (.int (zI 0)), x9, x10, x11, x12] [] A Q := by
  have hm := hO.me1.1
  have hka := hO.me1.2
  refine wv_s f50_68 rfl (fun _ => rfl) ?_
  refine wv_s f50_70 rfl (fun _ => rfl) ?_
  refine wv_getfield f50_71 (hm) (by rfl) ?_
  refine wv_lsize f50_74 (hka) (by omega) (by simp) (fun hs => ?_)
  rw [List.length_map] at hs ⊢
  refine wv_cF_gt f50_77 (by omega) (by omega) (by omega) ?_
  refine wv_s f50_80 rfl (fun _ => rfl) ?_
  refine wv_zT_eq f50_82 (by omega) (by omega) ?_
  refine c50_b (by omega) (by omega) (by omega) hkr hkc hkrl (by omega) (by omega) hO (fun e A1 F1 lc1 rs1 ct1 x11 x12 e1 e2 e3 o1 hd => ?_)
  have hto := @toI_rg A1.1 mm.kept e o1.me2.2.2.2.1
  have hm1 := o1.me1.1
  have hka1 := o1.me1.2
  by_cases hK : mm.kept = []
  · have hl : mm.kept.length = 0 := by rw [hK]; rfl
    have he0 := e2 (by omega)
    subst he0
    have et : toI mm.kept 0 = 99 := by rw [hK]; rfl
    rw [et] at hd ⊢
    refine wv_s f50_241 rfl (fun _ => rfl) ?_
    refine wv_st6 f50_243 rfl (fun _ _ => rfl) ?_
    refine wv_s f50_245 rfl (fun _ => rfl) ?_
    refine wv_icon f50_247 ?_
    refine wv_iadd f50_248 ?_
    refine wv_st7 f50_249 rfl (fun _ _ => rfl) ?_
    refine wv_inc8 f50_251 ?_
    refine wv_s (pc' := 68) f50_254 rfl (fun _ => rfl) ?_
    refine wv_s f50_68 rfl (fun _ => rfl) ?_
    refine wv_s f50_70 rfl (fun _ => rfl) ?_
    refine wv_getfield f50_71 (hm1) (by rfl) ?_
    refine wv_lsize f50_74 (hka1) (by omega) (by simp) (fun hs9 => ?_)
    rw [List.length_map] at hs9 ⊢
    refine wv_cT_gt f50_77 (by omega) (by omega) (by omega) ?_
    rcases hd with ⟨h1, h2, rfl, rfl, h5, h6, h7⟩ | ⟨r, n2, n3, n4, n5, n6, n7, n8, n9, n10, n11⟩
    · exact hQ A1 F1 lc1 ct1 [] _ _ _ _ _ _ _ e3 o1 (.inr ⟨hK, .inl ⟨h2, rfl⟩⟩) h5 (by show _ ≤ 5 * A.2.1 + lc1 + 0 + 40; omega) (by show _ ≤ A.2.2 + 4 * lc1 + 0 + 100; omega) (.inl (Nat.le_refl _))
    · subst n6
      have n4' : r.rows = [] := by rw [n4, hK]; rfl
      refine hQ A1 F1 lc1 ct1 [r] _ _ _ _ _ _ _ e3 o1 (.inr ⟨hK, .inr ⟨r, rfl, n2, n3, n4', n5, n11⟩⟩) n7 ?_ ?_ n10
      · show _ ≤ 5 * A.2.1 + lc1 + (40 + 2 * r.rows.length + 7 * r.spans.length + 0) + 40
        omega
      · show _ ≤ A.2.2 + 4 * lc1 + (100 + 16 * r.rows.length + 13 * r.spans.length + 0) + 100
        omega
  · have hl : 0 < mm.kept.length := List.length_pos_iff.mpr hK
    have he := e1 hl
    rcases hd with ⟨h, -⟩ | ⟨r, n2, n3, n4, n5, n6, n7, n8, n9, n10, n11⟩
    · have := congrArg List.length h
      rw [List.length_drop, List.length_take, List.length_nil] at this
      have := he.1
      have := he.2.1
      omega
    · subst n6
      simp only [ctK, ctKs, Prod.mk.injEq] at n7
      have he1 := he.1
      have he2 := he.2.1
      refine wv_s f50_241 rfl (fun _ => rfl) ?_
      refine wv_st6 f50_243 rfl (fun _ _ => rfl) ?_
      refine wv_s f50_245 rfl (fun _ => rfl) ?_
      refine wv_icon f50_247 ?_
      refine wv_iadd f50_248 ?_
      refine wv_st7 f50_249 rfl (fun _ _ => rfl) ?_
      refine wv_inc8 f50_251 ?_
      refine wv_s (pc' := 68) f50_254 rfl (fun _ => rfl) ?_
      refine c50_l hkl hkrl (mm.kept.length - e) e 1 (toI mm.kept e + 1) A1 F1 lc1 (insB r rs) ct1 _ _ _ _ (by omega) (by omega) (by omega) (by omega) (e3 _ _ hkr) (fun c hc => (hkc c hc).ext e3) (by omega) (by rw [insB_len]; omega) o1 (fun A' F' lc' ct' nr x6 x7 x8 x9 x10 x11 x12 g1 g2 g3 g4 g5 g6 g7 => ?_)
      simp only [ctK, ctKs, Prod.mk.injEq] at g4
      rw [insB_len] at g7
      refine hQ A' F' lc' ct' (r :: nr) x6 x7 x8 x9 x10 x11 x12 (e3.trans g1) g2 (.inl ⟨hK, e, he, n2, n3, n4, n5, ?_⟩) ?_ ?_ ?_ ?_
      · rw [show ct.2.2.1 + 1 = ct1.2.2.1 by omega]
        exact g3
      · simp only [ctK, ctKs, Prod.mk.injEq, List.length_cons]
        omega
      · show _ ≤ 5 * A.2.1 + lc' + (40 + 2 * r.rows.length + 7 * r.spans.length + cR nr) + 40
        omega
      · show _ ≤ A.2.2 + 4 * lc' + (100 + 16 * r.rows.length + 13 * r.spans.length + sR nr) + 100
        omega
      · rw [List.length_cons]
        omega
theorem okO.lnf (h : okO A F L o f w s c b fi y me ct) (hg : g ∈ f.2.2) (hl : l ∈ g.lv) : F l.la = none :=
  h.1.nf (c := cLl l) (obC_tm (obT_mem.mpr (.inr (.inr (.inr (.inl (List.mem_flatMap.mpr ⟨g, hg, (fCells_mem hl).2⟩)))))))
theorem keptR_len {m : MeD} {lvs : List LvD} : ∀ {l : List RunD}, (keptR m lvs l).length ≤ (l.map (fun r => r.spans.length)).sum
  | [] => Nat.le_refl _
  | r :: t => by
    have h1 := @keptR_len m lvs t
    have h2 : (keptS m lvs r.spans).length ≤ r.spans.length := List.length_filter_le _ _
    show (keptS m lvs r.spans ++ keptR m lvs t).length ≤ _
    rw [List.length_append, List.map_cons, List.sum_cons]
    omega
/-- the last step of a merging -/
theorem c50 (hO : okO A F L o f w s c b fi y (some mm) ct) (hf : f.2.2 = f1 ++ g :: f2) (hmg : mm.h = g.a) (hg : g.lv = lv1 ++ ls :: lt :: lv2) (hl1 : lv1.length = mm.lv) (hkl : mm.kept.length ≤ 1000) (hsp : (mm.ins.map (fun r => r.spans.length)).sum < 2000) (hid : ct.2.2.1 + mm.kept.length + 2 < 1000000) (hvs : ct.2.2.2.2.1 + 1 ≤ 1000000) (hrs : lt.rs.length + mm.kept.length + 1 < 2000) :
    Wc sc 9 50 [.ref o, .ref mm.a] A (fun v A' => v = .inl none ∧ ∃ nr F' lc' ct', Ext F F' ∧ SegA mm.kept (keptR mm g.lv mm.ins) ct.2.2.1 nr ∧ ctK ct' = ctKs ct nr.length 1 ∧ okO A' F' L o (fG f f1 g f2 lv1 (ls.a, mm.sg, ls.la, ls.lc, kp mm.ins ls.rs) lt lv2 lc' (insBs (kp mm.ins lt.rs) nr)) w s c b fi y none ct' ∧
      5 * A'.2.1 + lt.lc ≤ 5 * A.2.1 + lc' + cR nr + 60 + 2 * (keptR mm g.lv mm.ins).length ∧ A'.2.2 + 4 * lt.lc ≤ A.2.2 + 4 * lc' + sR nr + 150 + 8 * (keptR mm g.lv mm.ins).length ∧ (lc' ≤ lt.lc ∨ lc' ≤ 10 + 2 * ((kp mm.ins lt.rs).length + nr.length))) := by
  show Wv sc 9 50 0 [some (.ref o), some (.ref mm.a), none, none, none, none, none, none, none, none, none, none, none] [] A _
  have hgm : g ∈ f.2.2 := by rw [hf]; simp
  obtain ⟨m1, m2, m3, m4, m5, m6, m7⟩ := hO.2.2.2.2.2.2.2.1 mm rfl
  have hmA : A.1 mm.a = some (vO 7 [.ref g.a, .int (zI mm.lv), .ref mm.ia, .ref mm.ka, .int (zI mm.sg), .int (zI mm.key), .int (zI mm.dn)]) := by
    rw [← hmg]
    exact hO.me1.1
  have hgF := (hO.2.1 g hgm).1
  have hst : ∀ l, l ∈ g.lv → stLv F (obC o f w s c b fi y (some mm) ct L) l := by
    intro l hl
    have h9 := (hO.2.1 g hgm).2 l hl
    exact ⟨.inr (obC_tm (obT_mem.mpr (.inr (.inr (.inr (.inl (List.mem_flatMap.mpr ⟨g, hgm, (fCells_mem hl).1⟩))))))), .inr (obC_tm (obT_mem.mpr (.inr (.inr (.inr (.inl (List.mem_flatMap.mpr ⟨g, hgm, (fCells_mem hl).2⟩))))))), h9.1, h9.2⟩
  refine wv_s f50_0 rfl (fun _ => rfl) ?_
  refine wv_getfield f50_1 (hmA) (by rfl) ?_
  refine wv_st2 f50_4 rfl (fun _ _ => rfl) ?_
  refine wv_s f50_5 rfl (fun _ => rfl) ?_
  refine wv_resS f50_6 (by decide) (by simp) (by simp) (by decide +kernel) (c66 (F := F) (L := obC o f w s c b fi y (some mm) ct L) (f := g) (m := mm) (.inr (obC_tm (obT_mem.mpr (.inl (List.mem_cons_self ..))))) m2 m3 (.inr (obC_tm (obT_mem.mpr (.inl (List.mem_cons_of_mem _ (List.mem_cons_self ..)))))) m4 hgF hmg hst (by omega) hO.1 (by omega)) (by omega) (fun v9 A1 hv => ?_)
  obtain ⟨kq, kqc, rfl, o1, t1, t2, t3⟩ := hv
  have hkrc : ∀ z, z ∈ keptR mm g.lv mm.ins → okCh F z := by
    intro z hz
    obtain ⟨r, hr, hz⟩ := List.mem_flatMap.mp hz
    exact (m3 r hr).2.2.2.2.1 z (List.mem_filter.mp hz).1
  have hkrl := @keptR_len mm g.lv mm.ins
  obtain ⟨p1, e1⟩ := (okO.push hO.2 o1).frz
  have hkq : fz F kq (vL kqc ((keptR mm g.lv mm.ins).map ChD.a)) kq = some (vL kqc ((keptR mm g.lv mm.ins).map ChD.a)) := fz_self
  generalize hkr : keptR mm g.lv mm.ins = kr at o1 t1 t2 t3 hkrc hkrl p1 e1 hkq ⊢
  have hmA1 : A1.1 mm.a = some (vO 7 [.ref g.a, .int (zI mm.lv), .ref mm.ia, .ref mm.ka, .int (zI mm.sg), .int (zI mm.key), .int (zI mm.dn)]) := by
    rw [← hmg]
    exact p1.me1.1
  have hf1 := p1.fm hgm
  have hf11 := hf1.1
  have hls0 : g.lv[mm.lv]? = some ls := by rw [hg, ← hl1]; simp
  have hlt0 : g.lv[mm.lv + 1]? = some lt := by
    rw [hg, ← hl1, List.getElem?_append_right (by omega), show lv1.length + 1 - lv1.length = 1 by omega]
    rfl
  have hlsm := List.mem_of_getElem? hls0
  have hltm := List.mem_of_getElem? hlt0
  have l1 := p1.lv hgm hlsm
  have l11 := l1.1
  have n1 := p1.lnf hgm hlsm
  have n2 := p1.lnf hgm hltm
  have hia : A1.1 mm.ia = some (vL mm.ic (mm.ins.map RunD.a)) := p1.1.1 _ _ (e1 _ _ m2)
  have ne1 : mm.ia ≠ ls.la := by
    intro h
    have := e1 _ _ m2
    rw [h, n1] at this
    cases this
  have ne2 : mm.ia ≠ lt.la := by
    intro h
    have := e1 _ _ m2
    rw [h, n2] at this
    cases this
  refine wv_st3 f50_9 rfl (fun _ _ => rfl) ?_
  refine wv_s f50_10 rfl (fun _ => rfl) ?_
  refine wv_s f50_11 rfl (fun _ => rfl) ?_
  refine wv_getfield f50_12 (hmA1) (by rfl) ?_
  refine wv_valV f50_15 (by decide) (by simp) (by simp) (by decide +kernel) (by assumption) (by rfl) (by decide +kernel) rfl (c108 hf1 rfl hls0) (by omega) ?_
  refine wv_st4 f50_18 rfl (fun _ _ => rfl) ?_
  refine wv_s f50_20 rfl (fun _ => rfl) ?_
  refine wv_s f50_21 rfl (fun _ => rfl) ?_
  refine wv_getfield f50_22 (hmA1) (by rfl) ?_
  refine wv_icon f50_25 ?_
  refine wv_iadd f50_26 ?_
  refine wv_valV f50_27 (by decide) (by simp) (by simp) (by decide +kernel) hf11 (by rfl) (by decide +kernel) rfl (c108 hf1 (by omega) hlt0) (by omega) ?_
  have sx : ∀ X r, r ∈ mm.ins → okRun (aPut A1 ls.la X).1 r := fun X r hr => ((m3 r hr).ext e1).ext (p1.1.1.put n1)
  have sx2 : ∀ X r, r ∈ ls.rs → okRun (aPut A1 ls.la X).1 r := fun X r hr => (((p1.2.1 g hgm).2 ls hlsm).2 r hr).ext (p1.1.1.put n1)
  refine wv_st5 f50_30 rfl (fun _ _ => rfl) ?_
  refine wv_s f50_32 rfl (fun _ => rfl) ?_
  refine wv_s f50_34 rfl (fun _ => rfl) ?_
  refine wv_getfield f50_35 (hmA1) (by rfl) ?_
  refine wv_effV f50_38 (by decide) (by simp) (by simp) (by decide +kernel) (by assumption) (by rfl) (by decide +kernel) rfl (c126 l1 hia ne1 (fun r hr X => sx X r hr) (fun r hr X => sx2 X r hr)) (by omega) (fun A2 hA2 => ?_)
  have hkpm : ∀ z, z ∈ kp mm.ins ls.rs → z ∈ ls.rs := fun z hz => (List.mem_filter.mp hz).1
  have hkpt : ∀ z, z ∈ kp mm.ins lt.rs → z ∈ lt.rs := fun z hz => (List.mem_filter.mp hz).1
  have o2 := p1.lsLv (c' := ls.lc) (kc := 0) (ks := 0) (rs' := kp mm.ins ls.rs) (l := ls) (l1 := lv1) (l2 := lt :: lv2) hf hg (fun z hz => ((p1.2.1 g hgm).2 ls hlsm).2 z (hkpm z hz))
  rw [show aLst A1 ls.la (vL ls.lc ((kp mm.ins ls.rs).map RunD.a)) 0 0 = A2 from hA2.symm] at o2
  generalize hg2 : setLv g (lv1 ++ (ls.a, ls.mu, ls.la, ls.lc, kp mm.ins ls.rs) :: lt :: lv2) = g2 at o2
  have hg2l : g2.lv = lv1 ++ (ls.a, ls.mu, ls.la, ls.lc, kp mm.ins ls.rs) :: lt :: lv2 := by rw [← hg2]; rfl
  have hg2a : g2.a = g.a := by rw [← hg2]; rfl
  have hg2m : g2 ∈ ((f.1, f.2.1, f1 ++ g2 :: f2) : Ls FamD).2.2 := by show g2 ∈ f1 ++ g2 :: f2; simp
  have hlt2 : lt ∈ g2.lv := by rw [hg2l]; simp
  have l2 := o2.lv hg2m hlt2
  have l21 := l2.1
  have n3 := o2.lnf hg2m hlt2
  have hia2 : A2.1 mm.ia = some (vL mm.ic (mm.ins.map RunD.a)) := o2.1.1 _ _ (e1 _ _ m2)
  have hmA2 : A2.1 mm.a = some (vO 7 [.ref mm.h, .int (zI mm.lv), .ref mm.ia, .ref mm.ka, .int (zI mm.sg), .int (zI mm.key), .int (zI mm.dn)]) := o2.me1.1
  have sy : ∀ X r, r ∈ mm.ins → okRun (aPut A2 lt.la X).1 r := fun X r hr => ((m3 r hr).ext e1).ext (o2.1.1.put n3)
  have sy2 : ∀ X r, r ∈ lt.rs → okRun (aPut A2 lt.la X).1 r := fun X r hr => (((o2.2.1 g2 hg2m).2 lt hlt2).2 r hr).ext (o2.1.1.put n3)
  refine wv_s f50_41 rfl (fun _ => rfl) ?_
  refine wv_s f50_43 rfl (fun _ => rfl) ?_
  refine wv_getfield f50_44 (hmA2) (by rfl) ?_
  refine wv_effV f50_47 (by decide) (by simp) (by simp) (by decide +kernel) (by assumption) (by rfl) (by decide +kernel) rfl (c126 l2 hia2 ne2 (fun r hr X => sy X r hr) (fun r hr X => sy2 X r hr)) (by omega) (fun A3 hA3 => ?_)
  have o3 := o2.lsLv (c' := lt.lc) (kc := 0) (ks := 0) (rs' := kp mm.ins lt.rs) (g := g2) (f1 := f1) (f2 := f2) (l := lt) (l1 := lv1 ++ [(ls.a, ls.mu, ls.la, ls.lc, kp mm.ins ls.rs)]) (l2 := lv2) rfl (by rw [hg2l]; simp) (fun z hz => ((o2.2.1 g2 hg2m).2 lt hlt2).2 z (hkpt z hz))
  rw [show aLst A2 lt.la (vL lt.lc ((kp mm.ins lt.rs).map RunD.a)) 0 0 = A3 from hA3.symm] at o3
  have eG3 : ((((f.1, f.2.1, f1 ++ g2 :: f2) : Ls FamD).1, ((f.1, f.2.1, f1 ++ g2 :: f2) : Ls FamD).2.1, f1 ++ setLv g2 ((lv1 ++ [(ls.a, ls.mu, ls.la, ls.lc, kp mm.ins ls.rs)]) ++ (lt.a, lt.mu, lt.la, lt.lc, kp mm.ins lt.rs) :: lv2) :: f2) : Ls FamD) = fG f f1 g f2 lv1 (ls.a, ls.mu, ls.la, ls.lc, kp mm.ins ls.rs) lt lv2 lt.lc (kp mm.ins lt.rs) := by
    show (f.1, f.2.1, _) = (f.1, f.2.1, _)
    rw [List.append_assoc, ← hg2]
    rfl
  replace o3 : okO A3 (fz F kq (vL kqc (kr.map ChD.a))) L o (fG f f1 g f2 lv1 (ls.a, ls.mu, ls.la, ls.lc, kp mm.ins ls.rs) lt lv2 lt.lc (kp mm.ins lt.rs)) w s c b fi y (some mm) ct := by
    rw [← eG3]
    exact o3
  have hg3m : setLv g (lv1 ++ (ls.a, ls.mu, ls.la, ls.lc, kp mm.ins ls.rs) :: (lt.a, lt.mu, lt.la, lt.lc, kp mm.ins lt.rs) :: lv2) ∈ (fG f f1 g f2 lv1 (ls.a, ls.mu, ls.la, ls.lc, kp mm.ins ls.rs) lt lv2 lt.lc (kp mm.ins lt.rs)).2.2 := by
    show _ ∈ f1 ++ _ :: f2
    simp
  have hls3 : ((ls.a, ls.mu, ls.la, ls.lc, kp mm.ins ls.rs) : LvD) ∈ (setLv g (lv1 ++ (ls.a, ls.mu, ls.la, ls.lc, kp mm.ins ls.rs) :: (lt.a, lt.mu, lt.la, lt.lc, kp mm.ins lt.rs) :: lv2)).lv := by
    show _ ∈ lv1 ++ _ :: _
    simp
  have l31 : A3.1 ls.a = some (vO 6 [.ref ls.la, .int (zI ls.mu)]) := (o3.lv hg3m hls3).1
  have hmA3 : A3.1 mm.a = some (vO 7 [.ref mm.h, .int (zI mm.lv), .ref mm.ia, .ref mm.ka, .int (zI mm.sg), .int (zI mm.key), .int (zI mm.dn)]) := o3.me1.1
  have o4 := o3.putLv (mu := mm.sg) (g := setLv g (lv1 ++ (ls.a, ls.mu, ls.la, ls.lc, kp mm.ins ls.rs) :: (lt.a, lt.mu, lt.la, lt.lc, kp mm.ins lt.rs) :: lv2)) (f1 := f1) (f2 := f2) (l1 := lv1) (l2 := (lt.a, lt.mu, lt.la, lt.lc, kp mm.ins lt.rs) :: lv2) (l := (ls.a, ls.mu, ls.la, ls.lc, kp mm.ins ls.rs)) rfl rfl m5
  have o5 : okO (aPut A3 ls.a (vO 6 [.ref ls.la, .int (zI mm.sg)])) (fz F kq (vL kqc (kr.map ChD.a))) L o (fG f f1 g f2 lv1 (ls.a, mm.sg, ls.la, ls.lc, kp mm.ins ls.rs) lt lv2 lt.lc (kp mm.ins lt.rs)) w s c b fi y (some mm) ct := o4
  refine wv_s f50_50 rfl (fun _ => rfl) ?_
  refine wv_s f50_52 rfl (fun _ => rfl) ?_
  refine wv_getfield f50_53 (hmA3) (by rfl) ?_
  refine wv_putfield f50_56 (l31) (by simp) (by rfl) ?_
  show Wv sc 9 50 59 _ _ (aPut A3 ls.a (vO 6 [.ref ls.la, .int (zI mm.sg)])) _
  refine wv_icon f50_59 ?_
  refine wv_st6 f50_60 rfl (fun _ _ => rfl) ?_
  refine wv_icon f50_62 ?_
  refine wv_st7 f50_63 rfl (fun _ _ => rfl) ?_
  refine wv_icon f50_65 ?_
  refine wv_st8 f50_66 rfl (fun _ _ => rfl) ?_
  have lkt : (kp mm.ins lt.rs).length ≤ lt.rs.length := List.length_filter_le _ _
  refine c50_a hkl (by omega) hkq (fun z hz => (hkrc z hz).ext e1) (by omega) (by omega) o5 (fun A6 F6 lc' ct6 nr x6 x7 x8 x9 x10 x11 x12 g1 g2 g3 g4 g5 g6 g7 => ?_)
  have e35 : (aPut A3 ls.a (vO 6 [.ref ls.la, .int (zI mm.sg)])).2 = A1.2 := by
    show A3.2 = A1.2
    rw [hA3]
    show A2.2 = A1.2
    rw [hA2]
    rfl
  rw [e35] at g5 g6
  simp only [ctK, ctKs, Prod.mk.injEq] at g4
  have h7 := g2.ob
  have hnl : nr.length ≤ mm.kept.length + 1 := by
    have seg : ∀ (nr : List RunD) (id st : Nat) (fr : Int), Seg mm.kept kr id st fr nr → nr.length + st ≤ mm.kept.length := by
      intro nr
      induction nr with
      | nil => intro id st fr h; have h : st = mm.kept.length := h; simp; omega
      | cons r t ih =>
        intro id st fr h
        obtain ⟨e, he, -, -, -, -, h2⟩ := h
        have := ih _ _ _ h2
        have := he.1
        simp only [List.length_cons]
        omega
    rcases g3 with ⟨-, h⟩ | ⟨hK, ⟨-, rfl⟩ | ⟨r, rfl, -⟩⟩
    · have := seg _ _ _ _ h
      omega
    · simp
    · simp
  have hct8 : okCt (ct6.1, ct6.2.1, ct6.2.2.1, ct6.2.2.2.1, ct6.2.2.2.2.1 + 1, ct6.2.2.2.2.2) := by
    refine ctK_ok (ct := ct) (df := nr.length) (dv := 1) hO.ctc ?_ (by omega) hvs
    simp only [ctK, ctKs, Prod.mk.injEq]
    omega
  have o7 := g2.putCt hct8
  have h8 := o7.ob
  have o8 := o7.putMe0
  refine wv_s f50_257 rfl (fun _ => rfl) ?_
  refine wv_s f50_258 rfl (fun _ => rfl) ?_
  refine wv_getfield f50_259 (h7) (by rfl) ?_
  refine wv_icon f50_262 ?_
  refine wv_iadd f50_263 ?_
  refine wv_putfield f50_264 (h7) (by simp) (by rfl) ?_
  show Wv sc 9 50 267 _ _ (aPut A6 o (cOb (fG f f1 g f2 lv1 (ls.a, mm.sg, ls.la, ls.lc, kp mm.ins ls.rs) lt lv2 lc' (insBs (kp mm.ins lt.rs) nr)) w s c b fi y (some mm) (ct6.1, ct6.2.1, ct6.2.2.1, ct6.2.2.2.1, ct6.2.2.2.2.1 + 1, ct6.2.2.2.2.2))) _
  refine wv_s f50_267 rfl (fun _ => rfl) ?_
  refine wv_s f50_268 rfl (fun _ => rfl) ?_
  refine wv_putfield f50_269 (h8) (by simp) (by rfl) ?_
  exact wv_vret f50_272 (by decide +kernel) (⟨rfl, nr, F6, lc', _, e1.trans g1, g3, (by simp only [ctK, ctKs, Prod.mk.injEq]; omega), o8, by show 5 * A6.2.1 + lt.lc ≤ _; omega, by show A6.2.2 + 4 * lt.lc ≤ _; omega, g7⟩)
end FN2
