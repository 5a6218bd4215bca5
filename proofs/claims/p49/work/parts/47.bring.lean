/-! BRINGING IN -/
def brL (n first step : Nat) (v : Int32) (k : Nat) : List (Nat × Nat × Nat × Nat × Int32) := (List.range k).map (fun j => (1, n, first + step * j, first + step * j, v))
theorem brL_succ {n first step k : Nat} {v : Int32} : brL n first step v (k + 1) = brL n first step v k ++ [(1, n, first + step * k, first + step * k, v)] := by
  unfold brL
  rw [List.range_succ, List.map_append]
  rfl
theorem at_mid {α : Type} {l : List α} {j : Nat} {x : α} (h : l[j]? = some x) : l = l.take j ++ x :: l.drop (j + 1) ∧ (l.take j).length = j := by
  obtain ⟨hj, rfl⟩ := List.getElem?_eq_some_iff.mp h
  refine ⟨?_, by rw [List.length_take]; omega⟩
  rw [List.getElem_cons_drop, List.take_append_drop]
section BI
variable {sc : gSc} {d : Nat} {A : gA} {F : Nat → Option vC} {L : List (Nat × vC)} {o : Nat} {f : Ls FamD} {w : Ls WrD} {s : Ls SnD} {c : Ls CuD} {b : Ls BkD} {fi : Nat × FiD} {y : Ls ChD} {me : Option MeD} {ct : CtD} {g : FamD} {l : LvD} {r : RunD} {i j m : Nat} {x z : Int}
theorem c28_r {Q : gO → gA → Prop} {ra first step n cnt : Nat} {v : Int32} {x1 x3 x6 x9 : Option Value} (hcnt : cnt ≤ 10) (hst : 1 ≤ step ∧ step ≤ 20) (hfs : first + step * (cnt - 1) < 100) (hn : n ≤ 1000000) (hc1 : 1 ≤ cnt) : ∀ (k j : Nat) (A : gA) (F : Nat → Option vC) (rc : Nat) (rows : List ChD), j + k = cnt → okO A F ((ra, vL rc (rows.map ChD.a)) :: L) o f w s c b fi y me ct → rows.map Prod.snd = brL n first step v j → (∀ z, z ∈ rows → okCh F z) → rc ≤ 10 + 2 * j →
    (∀ A' F' rc' (rows' : List ChD) x11, Ext F F' → okO A' F' ((ra, vL rc' (rows'.map ChD.a)) :: L) o f w s c b fi y me ct → rows'.map Prod.snd = brL n first step v cnt → (∀ z, z ∈ rows' → okCh F' z) → 5 * A'.2.1 + rc ≤ 5 * A.2.1 + rc' + 5 * k → A'.2.2 + 4 * rc ≤ A.2.2 + 4 * rc' + 5 * k → rc' ≤ 30 → Wv sc 11 28 192 [some (.ref o), x1, some (.int (zI first)), x3, some (.int (zI step)), some (.int v), x6, some (.int (zI ((first + step * (cnt - 1) : Nat) : Int))), some (.int (zI n)), x9, some (.ref ra), x11] [] A' Q) →
    Wv sc 11 28 153 [some (.ref o), x1, some (.int (zI first)), x3, some (.int (zI step)), some (.int v), x6, some (.int (zI ((first + step * (cnt - 1) : Nat) : Int))), some (.int (zI n)), x9, some (.ref ra), some (.int (zI ((first + step * j : Nat) : Int)))] [] A Q
  | 0, j, A, F, rc, rows, hjk, hO, hrw, hk, hrc, hQ => by
    have e : j = cnt := by omega
    have hm : step * (cnt - 1) + step = step * cnt := by
      have : cnt = cnt - 1 + 1 := by omega
      rw [this, Nat.mul_succ]
      simp
    have hQ := hQ A F rc rows (some (.int (zI ((first + step * j : Nat) : Int)))) Ext.refl hO (by rw [hrw, e]) hk (by omega) (by omega) (by omega)
    rw [e] at hQ ⊢
    have hs2 : step * cnt ≤ 200 := by
      have := Nat.mul_le_mul hst.2 hcnt
      omega
    refine wv_s f28_153 rfl (fun _ => rfl) ?_
    refine wv_s f28_155 rfl (fun _ => rfl) ?_
    refine wv_cT_gt f28_157 (by omega) (by omega) (by omega) ?_
    exact hQ
  | k + 1, j, A, F, rc, rows, hjk, hO, hrw, hk, hrc, hQ => by
    have hm : step * j ≤ step * (cnt - 1) := Nat.mul_le_mul_left _ (by omega)
    have hs2 : step * j ≤ 200 := by
      have := Nat.mul_le_mul hst.2 (show j ≤ 10 by omega)
      omega
    have hs3 : step * (cnt - 1) ≤ 200 := by
      have := Nat.mul_le_mul hst.2 (show cnt - 1 ≤ 10 by omega)
      omega
    refine wv_s f28_153 rfl (fun _ => rfl) ?_
    refine wv_s f28_155 rfl (fun _ => rfl) ?_
    refine wv_cF_gt f28_157 (by omega) (by omega) (by omega) ?_
    refine wv_s f28_160 rfl (fun _ => rfl) ?_
    refine wv_newZ f28_162 (by decide) (by decide) (zs := [.int 0, .int 0, .int 0, .int 0, .int 0]) (by rfl) (fun ca hca => ?_)
    have hO1 := okO.push hO.2 (hO.1.new (n := gN 2) (c := vO 2 [.int 0, .int 0, .int 0, .int 0, .int 0]) hca)
    have hc4 := hO1.atL
    refine wv_s f28_165 rfl (fun _ => rfl) ?_
    refine wv_icon f28_166 ?_
    refine wv_s f28_167 rfl (fun _ => rfl) ?_
    refine wv_s f28_169 rfl (fun _ => rfl) ?_
    refine wv_s f28_171 rfl (fun _ => rfl) ?_
    refine wv_s f28_173 rfl (fun _ => rfl) ?_
    refine wv_effI f28_175 (by decide) (by simp) (by simp) (by decide +kernel) (by rfl) (c101 (k := 1) (n := n) (f := (first + step * j : Nat)) (t := (first + step * j : Nat)) (am := v) hc4) (by omega) (fun A2 hA2 => ?_)
    have hO2 := hO1.lsL (c' := 0) (kc := 0) (ks := 0) (v' := cCh (ca, 1, n, first + step * j, first + step * j, v))
    rw [show aLst (aNew A ca (vO 2 [.int 0, .int 0, .int 0, .int 0, .int 0]) (gN 2)) ca (cCh (ca, 1, n, first + step * j, first + step * j, v)) 0 0 = A2 from hA2.symm] at hO2
    obtain ⟨hO3, e1⟩ := hO2.frz
    have hra := hO3.atL
    have hcc : okCh (fz F ca (cCh (ca, 1, n, first + step * j, first + step * j, v))) (ca, 1, n, first + step * j, first + step * j, v) := ⟨fz_self, by show (1 : Nat) ≤ 4; omega, hn, by show first + step * j < 100; omega, by show first + step * j < 100; omega⟩
    have hc5 := (hcc.ext hO3.1.1).1
    have hll : (rows.map ChD.a).length = rows.length := List.length_map _
    have hrl : rows.length = j := by
      have := congrArg List.length hrw
      rw [List.length_map] at this
      rw [this]
      simp [brL]
    refine wv_ladd f28_178 hra hc5 (by decide +kernel) (by rw [hll]; omega) (by omega) (by simp) (fun c1 k1 s1 hlg => ?_)
    rw [hll, hrl] at hlg
    have hO4 := hO3.lsL (v' := vL c1 ((rows ++ [((ca, 1, n, first + step * j, first + step * j, v) : ChD)]).map ChD.a)) (c' := c1) (kc := k1) (ks := s1)
    rw [List.map_append] at hO4
    refine wv_s f28_181 rfl (fun _ => rfl) ?_
    refine wv_s f28_182 rfl (fun _ => rfl) ?_
    refine wv_s f28_184 rfl (fun _ => rfl) ?_
    refine wv_iadd f28_186 ?_
    refine wv_st11 f28_187 rfl (fun _ _ => rfl) ?_
    refine wv_s (pc' := 153) f28_189 rfl (fun _ => rfl) ?_
    have em : ((first + step * j : Nat) : Int) + (step : Int) = ((first + step * (j + 1) : Nat) : Int) := by
      rw [Nat.mul_succ]
      omega
    rw [em]
    have hlg4 := hlg.2.2.2
    refine c28_r hcnt hst hfs hn hc1 k (j + 1) _ _ c1 (rows ++ [((ca, 1, n, first + step * j, first + step * j, v) : ChD)]) (by omega) (by rw [List.map_append]; exact hO4) (by rw [List.map_append, hrw, brL_succ]; rfl) (fun z hz => ?_) (by omega) (fun A' F' rc' rows' x11 q1 q2 q3 q4 q5 q6 q7 => hQ A' F' rc' rows' x11 (e1.trans q1) q2 q3 q4 ?_ ?_ q7)
    · rcases List.mem_append.mp hz with hz | hz
      · exact (hk z hz).ext e1
      · rw [List.mem_singleton.mp hz]
        exact hcc
    · have e2 : A2.2.1 = A.2.1 + 1 := by rw [hA2]; rfl
      have q5' : 5 * A'.2.1 + c1 ≤ 5 * (A2.2.1 + k1) + rc' + 5 * k := q5
      have := hlg.2.1
      omega
    · have e2 : A2.2.2 = A.2.2 + 5 := by rw [hA2]; show A.2.2 + gN 2 = _; rw [show gN 2 = 5 from by decide +kernel]
      have q6' : A'.2.2 + 4 * c1 ≤ A2.2.2 + s1 + 4 * rc' + 5 * k := q6
      have := hlg.2.2.1
      omega
/-- a run that is brought in, where it goes -/
def insLv (j : Nat) (r : RunD) (l : LvD) : List RunD := if j = 0 then r :: l.rs else insB r l.rs
def BrP (A : gA) (F : Nat → Option vC) (L : List (Nat × vC)) (o : Nat) (f : Ls FamD) (w : Ls WrD) (s : Ls SnD) (c : Ls CuD) (b : Ls BkD) (fi : Nat × FiD) (y : Ls ChD) (me : Option MeD) (ct : CtD) (f1 : List FamD) (g : FamD) (f2 : List FamD) (first step cnt : Nat) (v9 : Int32) (v : gO) (A' : gA) : Prop :=
  ∃ jl l xa ca c' F' ct' r c2, g.lv[jl]? = some l ∧ jl = lvF me g.a first ((first + step * (cnt - 1) : Nat) : Int) 0 0 g.lv ∧ v = .inl (some (.int (zI jl))) ∧ Ext F F' ∧ (c' ≤ w.2.1 ∨ c' ≤ 10 + 2 * w.2.2.length) ∧ ctK ct' = ctKs ct 1 1 ∧
    r.id = ct.2.2.1 + 1 ∧ r.mg = false ∧ r.rows.map Prod.snd = brL (w.2.2.length + 1) first step v9 cnt ∧ r.spans = [] ∧ okRun F' r ∧
    okO A' F' L o (f.1, f.2.1, f1 ++ setLv g (g.lv.take jl ++ (l.a, l.mu, l.la, c2, insLv jl r l) :: g.lv.drop (jl + 1)) :: f2) (w.1, c', w.2.2 ++ [newWr xa ca g.g 1 (w.2.2.length + 1) first (first + step * (cnt - 1)) v9 step 3]) s c b fi y me ct' ∧
    5 * A'.2.1 ≤ 5 * A.2.1 + 150 + 2 * w.2.2.length + 2 * l.rs.length ∧ A'.2.2 ≤ A.2.2 + 460 + 8 * w.2.2.length + 8 * l.rs.length
theorem c28_b {f1 f2 : List FamD} {first step cnt : Nat} {v : Int32} {x3 x8 x9 x10 x11 : Option Value} (hO : okO A F L o f w s c b fi y me ct) (hf : f.2.2 = f1 ++ g :: f2) (hcnt : cnt ≤ 10) (hc1 : 1 ≤ cnt) (hst : 1 ≤ step ∧ step ≤ 20) (hfs : first + step * (cnt - 1) < 100) (hlen : w.2.2.length < 1900) (hid : ct.2.2.1 + 1 < 1000000) (hvs : ct.2.2.2.2.1 + 1 ≤ 1000000) (hrs : ∀ l, l ∈ g.lv → l.rs.length < 2000) :
    Wv sc 11 28 81 [some (.ref o), some (.int (zI f1.length)), some (.int (zI first)), x3, some (.int (zI step)), some (.int v), some (.ref g.a), some (.int (zI ((first + step * (cnt - 1) : Nat) : Int))), x8, x9, x10, x11] [] A (BrP A F L o f w s c b fi y me ct f1 g f2 first step cnt v) := by
  have h1 := hO.ob
  have h2 := hO.wl
  have hgm : g ∈ f.2.2 := by rw [hf]; simp
  have hf9 := (hO.fm hgm).1
  have hgg := (hO.fm hgm).2.2.2.1
  have hs3 : step * (cnt - 1) ≤ 200 := by
    have := Nat.mul_le_mul hst.2 (show cnt - 1 ≤ 10 by omega)
    omega
  refine wv_s f28_81 rfl (fun _ => rfl) ?_
  refine wv_getfield f28_82 (by assumption) (by rfl) ?_
  refine wv_lsize f28_85 (by assumption) (by omega) (by simp) (fun hs => ?_)
  rw [List.length_map] at hs ⊢
  refine wv_icon f28_88 ?_
  refine wv_iadd f28_89 ?_
  refine wv_st8 f28_90 rfl (fun _ _ => rfl) ?_
  refine wv_s f28_92 rfl (fun _ => rfl) ?_
  refine wv_getfield f28_93 (by assumption) (by rfl) ?_
  refine wv_newZ f28_96 (by decide) (by decide) (zs := [.int 0, .null, .int 0, .int 0]) (by rfl) (fun xa hxa => ?_)
  have hO3 := okO.push hO.2 (hO.1.new (n := gN 10) (c := vO 10 [.int 0, .null, .int 0, .int 0]) hxa)
  have hf8 := (hO3.fm hgm).1
  refine wv_s f28_99 rfl (fun _ => rfl) ?_
  refine wv_s f28_100 rfl (fun _ => rfl) ?_
  refine wv_getfield f28_102 (by assumption) (by rfl) ?_
  refine wv_newZ f28_105 (by decide) (by decide) (zs := [.int 0, .int 0, .int 0, .int 0, .int 0]) (by rfl) (fun ca hca => ?_)
  have hO4 := okO.push hO3.2 (Own.new (n := gN 2) (c := vO 2 [.int 0, .int 0, .int 0, .int 0, .int 0]) hO3.1 hca)
  have hc4 := hO4.atL
  refine wv_s f28_108 rfl (fun _ => rfl) ?_
  refine wv_icon f28_109 ?_
  refine wv_s f28_110 rfl (fun _ => rfl) ?_
  refine wv_s f28_112 rfl (fun _ => rfl) ?_
  refine wv_s f28_113 rfl (fun _ => rfl) ?_
  refine wv_s f28_115 rfl (fun _ => rfl) ?_
  refine wv_effI f28_117 (by decide) (by simp) (by simp) (by decide +kernel) (by rfl) (c101 (k := 1) (n := (w.2.2.length : Int) + 1) (f := first) (t := ((first + step * (cnt - 1) : Nat) : Int)) (am := v) hc4) (by omega) (fun A5 hA5 => ?_)
  have hO5 := hO4.lsL (c' := 0) (kc := 0) (ks := 0) (v' := vO 2 [.int (zI 1), .int (zI ((w.2.2.length : Int) + 1)), .int (zI first), .int (zI ((first + step * (cnt - 1) : Nat) : Int)), .int v])
  rw [show aLst (aNew (aNew A xa (vO 10 [.int 0, .null, .int 0, .int 0]) (gN 10)) ca (vO 2 [.int 0, .int 0, .int 0, .int 0, .int 0]) (gN 2)) ca (vO 2 [.int (zI 1), .int (zI ((w.2.2.length : Int) + 1)), .int (zI first), .int (zI ((first + step * (cnt - 1) : Nat) : Int)), .int v]) 0 0 = A5 from hA5.symm] at hO5
  obtain ⟨hO6, e1⟩ := hO5.frz
  have hx6 := hO6.atL
  refine wv_s f28_120 rfl (fun _ => rfl) ?_
  refine wv_icon f28_122 ?_
  refine wv_effI f28_123 (by decide) (by simp) (by simp) (by decide +kernel) (by rfl) (c150 (g := g.g) (ca := ca) (s := step) (z := 3) hx6) (by omega) (fun A7 hA7 => ?_)
  have hO7 := hO6.lsL (c' := 0) (kc := 0) (ks := 0) (v' := cWr (newWr xa ca g.g 1 (w.2.2.length + 1) first (first + step * (cnt - 1)) v step 3))
  rw [show aLst A5 xa (cWr (newWr xa ca g.g 1 (w.2.2.length + 1) first (first + step * (cnt - 1)) v step 3)) 0 0 = A7 from hA7.symm] at hO7
  have h7 := hO7.wl
  have hx7 : A7.1 xa = some (vO 10 [.int (zI g.g), .ref ca, .int (zI step), .int (zI 3)]) := hO7.atL
  have hll : (w.2.2.map WrD.a).length = w.2.2.length := List.length_map _
  refine wv_ladd f28_126 h7 hx7 (by decide +kernel) (by omega) (by omega) (by simp) (fun c1 k1 s1 hlg => ?_)
  rw [hll] at hlg
  have hbase : okO A7 (fz F ca (vO 2 [.int (zI 1), .int (zI ((w.2.2.length : Int) + 1)), .int (zI first), .int (zI ((first + step * (cnt - 1) : Nat) : Int)), .int v])) ((xa, cWr (newWr xa ca g.g 1 (w.2.2.length + 1) first (first + step * (cnt - 1)) v step 3)) :: L) o f w s c b fi y me ct := hO7
  have hO8 := okO.addWr (c' := c1) (kc := k1) (ks := s1) (x := newWr xa ca g.g 1 (w.2.2.length + 1) first (first + step * (cnt - 1)) v step 3) ⟨(hbase.pop).tl, hbase.2⟩ hbase.pop ⟨⟨fz_self, by show (1 : Nat) ≤ 4; omega, by show w.2.2.length + 1 ≤ 1000000; omega, by show first < 100; omega, hfs⟩, hgg, hst.2, by show (3 : Nat) ≤ 3; omega⟩
  rw [List.map_append] at hO8
  have hlf := lg_flat hlg
  have e7 : A7.2 = (A.2.1 + 2, A.2.2 + 9) := by
    rw [hA7, hA5]
    show (A.2.1 + 1 + 1, A.2.2 + gN 10 + gN 2) = _
    rw [show gN 10 = 4 from by decide +kernel, show gN 2 = 5 from by decide +kernel]
  have h8 := hO8.ob
  have hlvle := @lvF_le me g.a first ((first + step * (cnt - 1) : Nat) : Int) g.lv 0 0
  have hf4 := (hO.fm hgm).2.2.1
  rw [hf4] at hlvle
  generalize hjl : lvF me g.a first ((first + step * (cnt - 1) : Nat) : Int) 0 0 g.lv = jl at hlvle
  obtain ⟨l, hl0, -⟩ : ∃ l, g.lv[jl]? = some l ∧ True := ⟨g.lv[jl]'(by omega), List.getElem?_eq_getElem _, trivial⟩
  refine wv_s f28_129 rfl (fun _ => rfl) ?_
  refine wv_s f28_130 rfl (fun _ => rfl) ?_
  refine wv_s f28_131 rfl (fun _ => rfl) ?_
  refine wv_s f28_133 rfl (fun _ => rfl) ?_
  refine wv_s f28_134 rfl (fun _ => rfl) ?_
  refine wv_valV f28_136 (by decide) (by simp) (by simp) (by decide +kernel) (by assumption) (by rfl) (by decide +kernel) rfl (c69 hO8 hgm (by omega) (by omega)) (by omega) ?_
  rw [hjl]
  refine wv_st9 f28_139 rfl (fun _ _ => rfl) ?_
  refine wv_newL f28_141 (fun ra hra => ?_)
  have hO9 := okO.push hO8.2 (hO8.1.new (n := 3) (c := vW) hra)
  have hra9 := hO9.atL
  refine wv_s f28_144 rfl (fun _ => rfl) ?_
  refine wv_linit f28_145 (by assumption) (by omega) (by simp) ?_
  refine wv_st10 f28_148 rfl (fun _ _ => rfl) ?_
  refine wv_s f28_150 rfl (fun _ => rfl) ?_
  refine wv_st11 f28_151 rfl (fun _ _ => rfl) ?_
  have hO10 := hO9.lsL (c' := 0) (kc := 0) (ks := 0) (v' := vL 0 (([] : List ChD).map ChD.a))
  rw [show (zI (first : Int)) = zI ((first + step * 0 : Nat) : Int) by rw [Nat.mul_zero, Nat.add_zero]]
  refine c28_r (first := first) (step := step) (n := w.2.2.length + 1) (cnt := cnt) hcnt hst hfs (by omega) hc1 cnt 0 _ _ 0 [] (by omega) hO10 (by simp [brL]) (fun z hz => by cases hz) (by omega) (fun A11 F11 rc rows x11 q1 q2 q3 q4 q5 q6 q7 => ?_)
  obtain ⟨p1, e2⟩ := q2.frz
  have h11 := p1.ob
  have hf11 := p1.fm hgm
  have hf11' := hf11.1
  refine wv_s f28_192 rfl (fun _ => rfl) ?_
  refine wv_s f28_194 rfl (fun _ => rfl) ?_
  refine wv_valV f28_196 (by decide) (by simp) (by simp) (by decide +kernel) (by assumption) (by rfl) (by decide +kernel) rfl (c108 (l := l) (j := jl) hf11 rfl hl0) (by omega) ?_
  refine wv_s f28_199 rfl (fun _ => rfl) ?_
  refine wv_icon f28_200 ?_
  refine wv_s f28_201 rfl (fun _ => rfl) ?_
  refine wv_newL f28_203 (fun sp hsp => ?_)
  have hO12 := okO.push p1.2 (p1.1.new (n := 3) (c := vW) hsp)
  have hsp9 := hO12.atL
  refine wv_s f28_206 rfl (fun _ => rfl) ?_
  refine wv_linit f28_207 (by assumption) (by omega) (by simp) ?_
  have hO13 := hO12.lsL (c' := 0) (kc := 0) (ks := 0) (v' := vL 0 (([] : List ChD).map ChD.a))
  obtain ⟨p2, e3⟩ := hO13.frz
  have h13 := p2.ob
  have hk3 : ∀ z, z ∈ rows → okCh (fz (fz F11 ra (vL rc (rows.map ChD.a))) sp (vL 0 (([] : List ChD).map ChD.a))) z := fun z hz => ((q4 z hz).ext e2).ext e3
  refine wv_resV f28_210 (by decide) (by simp) (by simp) (by decide +kernel) h13 (by rfl) (by decide +kernel) rfl (c74 (mg := false) (rows := rows) (spans := []) p2 (e3 _ _ fz_self) fz_self hk3 (fun z hz => by cases hz) hid) (by omega) (fun v14 A14 hv => ?_)
  obtain ⟨r, F14, ct14, rfl, n2, n3, n4, n5, n6, n7, n8, n9, n10, n11⟩ := hv
  have hl14 := n9.lv hgm (List.mem_of_getElem? hl0)
  have hl14' := hl14.1
  have hr14 := n7.ext n9.1.1
  have hr14' := hr14.1
  have hrsl := hrs l (List.mem_of_getElem? hl0)
  obtain ⟨em, eml⟩ := at_mid hl0
  have fin : ∀ (nw : Bool), (nw = true ↔ jl = 0) → Wv sc 11 28 223 [some (.ref o), some (.int (zI f1.length)), some (.int (zI first)), x3, some (.int (zI step)), some (.int v), some (.ref g.a), some (.int (zI ((first + step * (cnt - 1) : Nat) : Int))), some (.int (zI ((w.2.2.length + 1 : Nat) : Int))), some (.int (zI jl)), some (.ref ra), x11] [.int (bI nw), .ref r.a, .ref l.a] A14 (BrP A F L o f w s c b fi y me ct f1 g f2 first step cnt v) := by
    intro nw hnw
    refine wv_effV f28_223 (by decide) (by simp) (by simp) (by decide +kernel) hl14' (by rfl) (by decide +kernel) rfl (c121 (nw := nw) hl14 hr14 (by omega)) (by omega) (fun A15 hA15 => ?_)
    obtain ⟨c2, k2, s2, hlg2, hA15⟩ := hA15
    have ei : (if nw = true then r :: l.rs else insB r l.rs) = insLv jl r l := by
      unfold insLv
      by_cases h0 : jl = 0
      · rw [if_pos (hnw.mpr h0), if_pos h0]
      · rw [if_neg (fun w => h0 (hnw.mp w)), if_neg h0]
    rw [ei] at hA15 hlg2
    have hil : (insLv jl r l).length = l.rs.length + 1 := by
      unfold insLv
      split
      · rfl
      · exact insB_len
    have hO15 := n9.lsLv (c' := c2) (kc := k2) (ks := s2) (l1 := g.lv.take jl) (l2 := g.lv.drop (jl + 1)) (l := l) (rs' := insLv jl r l) hf em (fun z hz => by
      have hz2 : z = r ∨ z ∈ l.rs := by
        unfold insLv at hz
        split at hz
        · exact List.mem_cons.mp hz
        · exact insB_mem.mp hz
      rcases hz2 with rfl | hz2
      · exact n7
      · exact ((n9.2.1 g hgm).2 l (List.mem_of_getElem? hl0)).2 z hz2)
    rw [← hA15] at hO15
    have h15 := hO15.ob
    have hct8 : okCt (ct14.1, ct14.2.1, ct14.2.2.1, ct14.2.2.2.1, ct14.2.2.2.2.1 + 1, ct14.2.2.2.2.2) := by
      refine ctK_ok (ct := ct) (df := 1) (dv := 1) hO.ctc ?_ hid hvs
      simp only [ctK, ctKs, Prod.mk.injEq] at n8 ⊢
      omega
    have hO16 := hO15.putCt hct8
    have e15 : A15.2 = (A14.2.1 + k2, A14.2.2 + s2) := by rw [hA15]; rfl
    have hlf2 := lg_flat hlg2
    rw [List.length_map, hil] at hlf2
    have hrl : rows.length = cnt := by
      have := congrArg List.length q3
      rw [List.length_map] at this
      rw [this]
      simp [brL]
    have q5' : 5 * A11.2.1 + 0 ≤ 5 * (A7.2.1 + k1 + 1) + rc + 5 * cnt := q5
    have q6' : A11.2.2 + 4 * 0 ≤ A7.2.2 + s1 + 3 + 4 * rc + 5 * cnt := q6
    have n10' : A14.2.1 = A11.2.1 + 1 + 2 := n10
    have n11' : A14.2.2 ≤ A11.2.2 + 3 + 7 + 8 * rows.length := n11
    rw [e7] at q5' q6'
    simp only at q5' q6'
    refine wv_s f28_226 rfl (fun _ => rfl) ?_
    refine wv_s f28_227 rfl (fun _ => rfl) ?_
    refine wv_getfield f28_228 (h15) (by rfl) ?_
    refine wv_icon f28_231 ?_
    refine wv_iadd f28_232 ?_
    refine wv_putfield f28_233 (h15) (by simp) (by rfl) ?_
    refine wv_s f28_236 rfl (fun _ => rfl) ?_
    exact wv_iret f28_238 (by rfl) (⟨jl, l, xa, ca, c1, F14, _, r, c2, hl0, hjl.symm, rfl, fun x y h => n6 x y (e3 x y (e2 x y (q1 x y (e1 x y h)))), hlg.2.2.2, (by simp only [ctK, ctKs, Prod.mk.injEq] at n8 ⊢; omega), n2, n3, by rw [n4]; exact q3, n5, n7, hO16, (by show 5 * A15.2.1 ≤ _; rw [e15]; simp only; omega), (by show A15.2.2 ≤ _; rw [e15]; simp only; omega)⟩)
  have hjle : jl ≤ 3 := by omega
  refine wv_s f28_213 rfl (fun _ => rfl) ?_
  refine wv_zX_ne f28_215 (by omega) (fun hb => ?_) (fun hb => ?_)
  · refine wv_icon f28_222 ?_
    exact fin false ⟨fun h => (by cases h), fun h => (by omega)⟩
  · refine wv_icon f28_218 ?_
    refine wv_s (pc' := 223) f28_219 rfl (fun _ => rfl) ?_
    exact fin true ⟨fun _ => (by omega), fun _ => rfl⟩
/-- bringing in, ahead of the flush -/
theorem c28_a {f1 f2 : List FamD} {l0 : LvD} {lt : List LvD} {first last step cnt : Nat} {v : Int32} {Q : gO → gA → Prop} (hO : okO A F L o f w s c b fi y me ct) (hf : f.2.2 = f1 ++ g :: f2) (hg : g.lv = l0 :: lt) (hfull : l0.rs.length < 6) (hcnt : cnt ≤ 10) (hc1 : 1 ≤ cnt) (hst : 1 ≤ step ∧ step ≤ 20) (hfl : first ≤ last) (hla : last < 100) (hq1 : (last - first) / step = cnt - 1) (hq2 : last - (last - first) % step = first + step * (cnt - 1)) (hlen : w.2.2.length < 1900) (hid : ct.2.2.1 + 1 < 1000000) (hvs : ct.2.2.2.2.1 + 1 ≤ 1000000)
    (hQ1 : w.2.2.any (fun v => v.memOf g.g && v.c.ov first ((first + step * (cnt - 1) : Nat) : Int)) = false → ∀ A' ct', ctK ct' = ctKs ct 0 0 → okO A' F L o f w s c b fi y me ct' → A'.2 = A.2 → Wv sc 11 28 81 [some (.ref o), some (.int (zI f1.length)), some (.int (zI first)), some (.int (zI last)), some (.int (zI step)), some (.int v), some (.ref g.a), some (.int (zI ((first + step * (cnt - 1) : Nat) : Int))), none, none, none, none] [] A' Q)
    (hQ2 : w.2.2.any (fun v => v.memOf g.g && v.c.ov first ((first + step * (cnt - 1) : Nat) : Int)) = true → ∀ A' F' ct' r c', ctK ct' = ctKs ct 1 1 → Ext F F' → r.id = ct.2.2.1 + 1 → r.mg = false → r.rows = flR g.g [] w.2.2 → r.spans = flS g.g w.2.2 → okRun F' r → okO A' F' L o (f.1, f.2.1, f1 ++ setLv g ((l0.a, l0.mu, l0.la, c', r :: l0.rs) :: lt) :: f2) (w.1, w.2.1, w.2.2.map (flW g.g)) s c b fi y me ct' →
      5 * A'.2.1 ≤ 5 * A.2.1 + 60 + 4 * w.2.2.length + 2 * l0.rs.length → A'.2.2 ≤ A.2.2 + 150 + 24 * w.2.2.length + 8 * l0.rs.length → Wv sc 11 28 81 [some (.ref o), some (.int (zI f1.length)), some (.int (zI first)), some (.int (zI last)), some (.int (zI step)), some (.int v), some (.ref g.a), some (.int (zI ((first + step * (cnt - 1) : Nat) : Int))), none, none, none, none] [] A' Q) :
    Wc sc 11 28 [.ref o, .int (zI f1.length), .int (zI first), .int (zI last), .int (zI step), .int v] A Q := by
  show Wv sc 11 28 0 [some (.ref o), some (.int (zI f1.length)), some (.int (zI first)), some (.int (zI last)), some (.int (zI step)), some (.int v), none, none, none, none, none, none] [] A _
  have h1 := hO.ob
  have hgm : g ∈ f.2.2 := by rw [hf]; simp
  have hgi : f.2.2[f1.length]? = some g := by rw [hf]; simp
  have hd1 : ((last : Int) - (first : Int)) / (step : Int) = ((cnt - 1 : Nat) : Int) := by
    rw [← hq1, Int.natCast_ediv, Int.natCast_sub hfl]
  have hd2 : (last : Int) - ((last : Int) - (first : Int)) % (step : Int) = ((first + step * (cnt - 1) : Nat) : Int) := by
    have hmle : (last - first) % step ≤ last := Nat.le_trans (Nat.mod_le _ _) (Nat.sub_le _ _)
    rw [← hq2, Int.natCast_sub hmle, Int.natCast_emod, Int.natCast_sub hfl]
  have hs3 : step * (cnt - 1) ≤ 200 := by
    have := Nat.mul_le_mul hst.2 (show cnt - 1 ≤ 10 by omega)
    omega
  refine wv_s f28_0 rfl (fun _ => rfl) ?_
  refine wv_s f28_1 rfl (fun _ => rfl) ?_
  refine wv_valV f28_2 (by decide) (by simp) (by simp) (by decide +kernel) (by assumption) (by rfl) (by decide +kernel) rfl (c47 hO hgi) (by omega) ?_
  refine wv_st6 f28_5 rfl (fun _ _ => rfl) ?_
  refine wv_s f28_7 rfl (fun _ => rfl) ?_
  refine wv_s f28_8 rfl (fun _ => rfl) ?_
  refine wv_effS f28_9 (by decide) (by simp) (by simp) (by decide +kernel) (c29 (by omega) (by omega) (by omega)) (by omega) (fun A1 hA1 => ?_)
  refine wv_s f28_12 rfl (fun _ => rfl) ?_
  refine wv_icon f28_14 ?_
  refine wv_cF_lt f28_15 (by omega) (by omega) (by omega) ?_
  refine wv_s f28_18 rfl (fun _ => rfl) ?_
  refine wv_bip f28_20 (by decide) ?_
  refine wv_cF_gt f28_22 (by omega) (by omega) (by omega) ?_
  refine wv_s f28_25 rfl (fun _ => rfl) ?_
  refine wv_s f28_26 rfl (fun _ => rfl) ?_
  refine wv_isub f28_27 ?_
  refine wv_s f28_28 rfl (fun _ => rfl) ?_
  rw [hA1]
  refine wv_idiv f28_30 (by omega) ?_
  rw [hd1]
  refine wv_bip f28_31 (by decide) ?_
  refine wv_cT_lt f28_33 (by omega) (by omega) (by omega) ?_
  refine wv_s f28_46 rfl (fun _ => rfl) ?_
  refine wv_s f28_47 rfl (fun _ => rfl) ?_
  refine wv_effV f28_49 (by decide) (by simp) (by simp) (by decide +kernel) h1 (by rfl) (by decide +kernel) rfl (c21 hO hgm hg hfull) (by omega) (fun A2 hA2 => ?_)
  obtain ⟨ct2, q1, q2, q3⟩ := hA2
  have h2 := q2.ob
  refine wv_s f28_52 rfl (fun _ => rfl) ?_
  refine wv_s f28_53 rfl (fun _ => rfl) ?_
  refine wv_s f28_54 rfl (fun _ => rfl) ?_
  refine wv_isub f28_55 ?_
  refine wv_s f28_56 rfl (fun _ => rfl) ?_
  refine wv_irem f28_58 (by omega) ?_
  refine wv_isub f28_59 ?_
  rw [hd2]
  refine wv_st7 f28_60 rfl (fun _ _ => rfl) ?_
  refine wv_s f28_62 rfl (fun _ => rfl) ?_
  refine wv_s f28_63 rfl (fun _ => rfl) ?_
  refine wv_s f28_65 rfl (fun _ => rfl) ?_
  refine wv_s f28_66 rfl (fun _ => rfl) ?_
  refine wv_valV f28_68 (by decide) (by simp) (by simp) (by decide +kernel) (by assumption) (by rfl) (by decide +kernel) rfl (c64 q2 hgm (by omega) (by omega)) (by omega) ?_
  cases hany : w.2.2.any (fun v => v.memOf g.g && v.c.ov first ((first + step * (cnt - 1) : Nat) : Int)) with
  | false =>
    refine wv_bT f28_71 (rfl) ?_
    exact hQ1 hany A2 ct2 q1 q2 q3
  | true =>
    simp only [ctK, ctKs, Prod.mk.injEq] at q1
    refine wv_bF f28_71 (rfl) ?_
    refine wv_s f28_74 rfl (fun _ => rfl) ?_
    refine wv_s f28_75 rfl (fun _ => rfl) ?_
    refine wv_resV f28_77 (by decide) (by simp) (by simp) (by decide +kernel) (by assumption) (by rfl) (by decide +kernel) rfl (c52 q2 hf hg (by omega) (by omega) (by omega) (by omega)) (by omega) (fun v9 A3 hv => ?_)
    obtain ⟨r, F3, ct3, c3, rfl, n2, n3, n4, n5, n6, n7, n8, n9, n10, n11⟩ := hv
    simp only [ctK, ctKs, Prod.mk.injEq] at n8
    rw [q3] at n10 n11
    refine wv_s f28_80 rfl (fun _ => rfl) ?_
    exact hQ2 hany A3 F3 ct3 r c3 (by simp only [ctK, ctKs, Prod.mk.injEq]; omega) n6 (by rw [n2]; omega) n3 n4 n5 n7 n9 n10 n11
theorem c28_t {f1 f2 : List FamD} {l0 : LvD} {lt : List LvD} {first last step cnt : Nat} {v : Int32} (hO : okO A F L o f w s c b fi y me ct) (hf : f.2.2 = f1 ++ g :: f2) (hg : g.lv = l0 :: lt) (hfull : 6 ≤ l0.rs.length) (hcnt : cnt ≤ 10) (hc1 : 1 ≤ cnt) (hst : 1 ≤ step ∧ step ≤ 20) (hfl : first ≤ last) (hla : last < 100) (hq1 : (last - first) / step = cnt - 1) :
    Wc sc 11 28 [.ref o, .int (zI f1.length), .int (zI first), .int (zI last), .int (zI step), .int v] A (fun v A' => v = .inr 2 ∧ A' = aThr A) := by
  show Wv sc 11 28 0 [some (.ref o), some (.int (zI f1.length)), some (.int (zI first)), some (.int (zI last)), some (.int (zI step)), some (.int v), none, none, none, none, none, none] [] A _
  have h1 := hO.ob
  have hgm : g ∈ f.2.2 := by rw [hf]; simp
  have hgi : f.2.2[f1.length]? = some g := by rw [hf]; simp
  have hd1 : ((last : Int) - (first : Int)) / (step : Int) = ((cnt - 1 : Nat) : Int) := by
    rw [← hq1, Int.natCast_ediv, Int.natCast_sub hfl]
  refine wv_s f28_0 rfl (fun _ => rfl) ?_
  refine wv_s f28_1 rfl (fun _ => rfl) ?_
  refine wv_valV f28_2 (by decide) (by simp) (by simp) (by decide +kernel) (by assumption) (by rfl) (by decide +kernel) rfl (c47 hO hgi) (by omega) ?_
  refine wv_st6 f28_5 rfl (fun _ _ => rfl) ?_
  refine wv_s f28_7 rfl (fun _ => rfl) ?_
  refine wv_s f28_8 rfl (fun _ => rfl) ?_
  refine wv_effS f28_9 (by decide) (by simp) (by simp) (by decide +kernel) (c29 (by omega) (by omega) (by omega)) (by omega) (fun A1 hA1 => ?_)
  refine wv_s f28_12 rfl (fun _ => rfl) ?_
  refine wv_icon f28_14 ?_
  refine wv_cF_lt f28_15 (by omega) (by omega) (by omega) ?_
  refine wv_s f28_18 rfl (fun _ => rfl) ?_
  refine wv_bip f28_20 (by decide) ?_
  refine wv_cF_gt f28_22 (by omega) (by omega) (by omega) ?_
  refine wv_s f28_25 rfl (fun _ => rfl) ?_
  refine wv_s f28_26 rfl (fun _ => rfl) ?_
  refine wv_isub f28_27 ?_
  refine wv_s f28_28 rfl (fun _ => rfl) ?_
  rw [hA1]
  refine wv_idiv f28_30 (by omega) ?_
  rw [hd1]
  refine wv_bip f28_31 (by decide) ?_
  refine wv_cT_lt f28_33 (by omega) (by omega) (by omega) ?_
  refine wv_s f28_46 rfl (fun _ => rfl) ?_
  refine wv_s f28_47 rfl (fun _ => rfl) ?_
  exact wv_thrV f28_49 (by decide) (by simp) (by simp) (by decide +kernel) h1 (by rfl) (by decide +kernel) rfl (c21_t hO hgm hg hfull) (by omega) (by decide +kernel) (by decide +kernel) (fun A' h => ⟨rfl, h⟩)
end BI
