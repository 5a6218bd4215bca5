/-! WRITES, flushes -/
theorem obC_perm {o : Nat} {f : Ls FamD} {w : Ls WrD} {s : Ls SnD} {c : Ls CuD} {b : Ls BkD} {fi : Nat × FiD} {y : Ls ChD} {me : Option MeD} {ct : CtD} {L : List (Nat × vC)} {p : Nat × vC} : (p :: obC o f w s c b fi y me ct L).Perm (obC o f w s c b fi y me ct (p :: L)) := by
  show (p :: ([(o, cOb f w s c b fi y me ct), (f.1, vL f.2.1 (f.2.2.map FamD.a)), (w.1, vL w.2.1 (w.2.2.map WrD.a)), (s.1, vL s.2.1 (s.2.2.map SnD.a)), (c.1, vL c.2.1 (c.2.2.map CuD.a)), (b.1, vL b.2.1 (b.2.2.map BkD.a)), (fi.1, cFi fi.2), (y.1, vL y.2.1 (y.2.2.map ChD.a))] ++ (meC me ++ (c.2.2.map cuP ++ (w.2.2.map wrP ++ (f.2.2.flatMap fmP ++ L)))))).Perm _
  refine List.perm_middle.symm.trans (List.Perm.append_left _ ?_)
  refine List.perm_middle.symm.trans (List.Perm.append_left _ ?_)
  refine List.perm_middle.symm.trans (List.Perm.append_left _ ?_)
  refine List.perm_middle.symm.trans (List.Perm.append_left _ ?_)
  exact List.perm_middle.symm
theorem lg_flat {c n c' kc ks : Nat} (h : lg c n c' kc ks) : 5 * kc ≤ 10 + 2 * n ∧ ks ≤ 40 + 8 * n := by
  unfold lg at h
  omega
theorem ov_len_cap {c n c' kc ks : Nat} (h : lg c n c' kc ks) : c' ≤ c ∨ c' ≤ 10 + 2 * n := h.2.2.2
/-- the counters that count: snapshots, cursors, files, versions, blocks, asked, passed -/
def ctK (ct : CtD) : Nat × Nat × Nat × Nat × Nat × Nat × Nat := (ct.1, ct.2.1, ct.2.2.1, ct.2.2.2.2.1, ct.2.2.2.2.2.1, ct.2.2.2.2.2.2.1, ct.2.2.2.2.2.2.2.1)
def ctKs (ct : CtD) (df dv : Nat) : Nat × Nat × Nat × Nat × Nat × Nat × Nat := (ct.1, ct.2.1, ct.2.2.1 + df, ct.2.2.2.2.1 + dv, ct.2.2.2.2.2.1, ct.2.2.2.2.2.2.1, ct.2.2.2.2.2.2.2.1)
theorem ctK_ok {ct ct' : CtD} {df dv : Nat} (h : okCt ct) (hk : ctK ct' = ctKs ct df dv) (h1 : ct.2.2.1 + df < 1000000) (h2 : ct.2.2.2.2.1 + dv ≤ 1000000) : okCt ct' := by
  obtain ⟨a, b, c, d, e, f, g, i, j, k⟩ := ct
  obtain ⟨a', b', c', d', e', f', g', i', j', k'⟩ := ct'
  simp only [ctK, ctKs, Prod.mk.injEq] at hk
  obtain ⟨q1, q2, q3, q4, q5, q6, q7⟩ := hk
  simp only [okCt] at h h1 h2 ⊢
  omega
theorem ctK_tr {c1 c2 c3 : CtD} {a b a' b' : Nat} (h1 : ctK c2 = ctKs c1 a b) (h2 : ctK c3 = ctKs c2 a' b') : ctK c3 = ctKs c1 (a + a') (b + b') := by
  simp only [ctK, ctKs, Prod.mk.injEq] at *
  obtain ⟨p1, p2, p3, p4, p5, p6, p7⟩ := h1
  obtain ⟨q1, q2, q3, q4, q5, q6, q7⟩ := h2
  omega
def flW (g : Nat) (w : WrD) : WrD := if w.memOf g then (w.a, w.g, w.c, w.s, 3) else w
def flR (g : Nat) (acc : List ChD) (l : List WrD) : List ChD := l.foldl (fun acc w => if w.memOf g = true ∧ w.c.k ≠ 3 then insR w.c acc else acc) acc
def flS (g : Nat) (l : List WrD) : List ChD := (l.filter (fun w => w.memOf g && decide (w.c.k = 3))).map WrD.c
def setLv (g : FamD) (t : List LvD) : FamD := (g.a, g.g, g.o, g.va, t)
theorem flR_len {g : Nat} : ∀ {l : List WrD} {acc : List ChD}, (flR g acc l).length ≤ acc.length + l.length
  | [], acc => Nat.le_refl _
  | w :: l, acc => by
    show (flR g (if w.memOf g = true ∧ w.c.k ≠ 3 then insR w.c acc else acc) l).length ≤ _
    have := @flR_len g l (if w.memOf g = true ∧ w.c.k ≠ 3 then insR w.c acc else acc)
    have h2 : (if w.memOf g = true ∧ w.c.k ≠ 3 then insR w.c acc else acc).length ≤ acc.length + 1 := by
      split
      · rw [insR_len]
        omega
      · omega
    simp only [List.length_cons]
    omega
section WT
variable {sc : gSc} {d : Nat} {A : gA} {F : Nat → Option vC} {L : List (Nat × vC)} {o : Nat} {f : Ls FamD} {w : Ls WrD} {s : Ls SnD} {c : Ls CuD} {b : Ls BkD} {fi : Nat × FiD} {y : Ls ChD} {me : Option MeD} {ct : CtD} {g : FamD} {l : LvD} {r : RunD} {i j m : Nat} {x z : Int}
theorem okO.push (h : okS F f w s c b y me ct) {p : Nat × vC} (h1 : Own A F (p :: obC o f w s c b fi y me ct L)) : okO A F (p :: L) o f w s c b fi y me ct := ⟨h1.perm obC_perm, h⟩
theorem okO.pop {p : Nat × vC} (h : okO A F (p :: L) o f w s c b fi y me ct) : Own A F (p :: obC o f w s c b fi y me ct L) := h.1.perm obC_perm.symm
theorem okO.lsL {q c' kc ks : Nat} {v v' : vC} (h : okO A F ((q, v) :: L) o f w s c b fi y me ct) : okO (aLst A q v' kc ks) F ((q, v') :: L) o f w s c b fi y me ct := okO.push h.2 (h.pop.lst (L1 := []))
theorem okO.swL {p q : Nat × vC} (h : okO A F (p :: q :: L) o f w s c b fi y me ct) : okO A F (q :: p :: L) o f w s c b fi y me ct := by
  have h1 := h.pop
  have h2 := h1.perm (List.Perm.cons p obC_perm.symm)
  have h3 := h2.perm (List.Perm.swap q p _)
  exact okO.push h.2 (h3.perm (List.Perm.cons q obC_perm))
theorem okO.frz {q : Nat} {v : vC} (h : okO A F ((q, v) :: L) o f w s c b fi y me ct) : okO A (fz F q v) L o f w s c b fi y me ct ∧ Ext F (fz F q v) := by
  have h1 := h.pop
  exact ⟨⟨h1.frz, h.2.ext (Own.ext_fz h1)⟩, Own.ext_fz h1⟩
theorem okO.atL {q : Nat} {v : vC} (h : okO A F ((q, v) :: L) o f w s c b fi y me ct) : A.1 q = some v := h.pop.at (List.mem_cons_self ..)
theorem fCells_mid {l1 l2 : List LvD} {l : LvD} : fCells (l1 ++ l :: l2) = fCells l1 ++ ((l.a, cLv l) :: (l.la, cLl l) :: fCells l2) := by simp [fCells, lvCells]
theorem setLv_ok {l1 l2 : List LvD} {l l' : LvD} (hf : okFm F g) (hg : g.lv = l1 ++ l :: l2) (ha : l'.a = l.a) : okFm F (setLv g (l1 ++ l' :: l2)) := by
  have e : (l1 ++ l' :: l2).map LvD.a = g.lv.map LvD.a := by rw [hg]; simp [ha]
  refine ⟨hf.1, ?_, ?_, hf.2.2.2.1, hf.2.2.2.2⟩
  · show F g.va = some (vR (gComp 1) 4 (fun j => ((l1 ++ l' :: l2).map LvD.a)[j]?))
    rw [e]
    exact hf.2.1
  · have := congrArg List.length e
    rw [List.length_map, List.length_map] at this
    exact this.trans hf.2.2.1
/-- a level's list -/
theorem okO.lsLv {f1 f2 : List FamD} {l1 l2 : List LvD} {c' kc ks : Nat} {rs' : List RunD} (h : okO A F L o f w s c b fi y me ct) (hf : f.2.2 = f1 ++ g :: f2) (hg : g.lv = l1 ++ l :: l2) (hr : ∀ r, r ∈ rs' → okRun F r) :
    okO (aLst A l.la (vL c' (rs'.map RunD.a)) kc ks) F L o (f.1, f.2.1, f1 ++ setLv g (l1 ++ (l.a, l.mu, l.la, c', rs') :: l2) :: f2) w s c b fi y me ct := by
  obtain ⟨fa, fc, fs⟩ := f
  obtain ⟨ga, gg, go, gv, gl⟩ := g
  have hf : fs = f1 ++ (ga, gg, go, gv, gl) :: f2 := hf
  have hg : gl = l1 ++ l :: l2 := hg
  subst hf
  subst hg
  have h1 := h.1
  have e1 : obC o (fa, fc, f1 ++ (ga, gg, go, gv, l1 ++ l :: l2) :: f2) w s c b fi y me ct L = ([(o, cOb (fa, fc, f1 ++ (ga, gg, go, gv, l1 ++ l :: l2) :: f2) w s c b fi y me ct), (fa, vL fc ((f1 ++ (ga, gg, go, gv, l1 ++ l :: l2) :: f2).map FamD.a)), (w.1, vL w.2.1 (w.2.2.map WrD.a)), (s.1, vL s.2.1 (s.2.2.map SnD.a)), (c.1, vL c.2.1 (c.2.2.map CuD.a)), (b.1, vL b.2.1 (b.2.2.map BkD.a)), (fi.1, cFi fi.2), (y.1, vL y.2.1 (y.2.2.map ChD.a))] ++ (meC me ++ (c.2.2.map cuP ++ (w.2.2.map wrP ++ (f1.flatMap fmP ++ (fCells l1 ++ [(l.a, cLv l)])))))) ++ (l.la, cLl l) :: (fCells l2 ++ (f2.flatMap fmP ++ L)) := by
    simp [obC, obT, fmP, fCells_mid, FamD.lv]
  rw [e1] at h1
  have h2 := h1.lst (c := vL c' (rs'.map RunD.a)) (kc := kc) (ks := ks)
  refine ⟨?_, fun g9 hg9 => ?_, h.2.2⟩
  · have e2 : obC o (fa, fc, f1 ++ setLv (ga, gg, go, gv, l1 ++ l :: l2) (l1 ++ (l.a, l.mu, l.la, c', rs') :: l2) :: f2) w s c b fi y me ct L = ([(o, cOb (fa, fc, f1 ++ (ga, gg, go, gv, l1 ++ l :: l2) :: f2) w s c b fi y me ct), (fa, vL fc ((f1 ++ (ga, gg, go, gv, l1 ++ l :: l2) :: f2).map FamD.a)), (w.1, vL w.2.1 (w.2.2.map WrD.a)), (s.1, vL s.2.1 (s.2.2.map SnD.a)), (c.1, vL c.2.1 (c.2.2.map CuD.a)), (b.1, vL b.2.1 (b.2.2.map BkD.a)), (fi.1, cFi fi.2), (y.1, vL y.2.1 (y.2.2.map ChD.a))] ++ (meC me ++ (c.2.2.map cuP ++ (w.2.2.map wrP ++ (f1.flatMap fmP ++ (fCells l1 ++ [(l.a, cLv l)])))))) ++ (l.la, vL c' (rs'.map RunD.a)) :: (fCells l2 ++ (f2.flatMap fmP ++ L)) := by
      simp [obC, obT, fmP, fCells_mid, FamD.lv, setLv, FamD.a, cOb, LvD.a, LvD.la, LvD.mu, cLv, cLl, LvD.lc, LvD.rs]
    rw [e2]
    exact h2
  · have k := h.2.1
    rcases List.mem_append.mp hg9 with hm | hm
    · exact k g9 (List.mem_append_left _ hm)
    · rcases List.mem_cons.mp hm with rfl | hm
      · obtain ⟨k1, k2⟩ := k _ (List.mem_append_right _ (List.mem_cons_self ..))
        refine ⟨setLv_ok k1 rfl rfl, fun l9 hl9 => ?_⟩
        rcases List.mem_append.mp (show l9 ∈ l1 ++ (l.a, l.mu, l.la, c', rs') :: l2 from hl9) with hm | hm
        · exact k2 l9 (List.mem_append_left _ hm)
        · rcases List.mem_cons.mp hm with rfl | hm
          · exact ⟨(k2 l (List.mem_append_right _ (List.mem_cons_self ..))).1, hr⟩
          · exact k2 l9 (List.mem_append_right _ (List.mem_cons_of_mem _ hm))
      · exact k g9 (List.mem_append_right _ (List.mem_cons_of_mem _ hm))
/-- how far a level is merged -/
theorem okO.putLv {f1 f2 : List FamD} {l1 l2 : List LvD} {mu : Int} (h : okO A F L o f w s c b fi y me ct) (hf : f.2.2 = f1 ++ g :: f2) (hg : g.lv = l1 ++ l :: l2) (hm : -1 ≤ mu ∧ mu ≤ 100) :
    okO (aPut A l.a (vO 6 [.ref l.la, .int (zI mu)])) F L o (f.1, f.2.1, f1 ++ setLv g (l1 ++ (l.a, mu, l.la, l.lc, l.rs) :: l2) :: f2) w s c b fi y me ct := by
  obtain ⟨fa, fc, fs⟩ := f
  obtain ⟨ga, gg, go, gv, gl⟩ := g
  have hf : fs = f1 ++ (ga, gg, go, gv, gl) :: f2 := hf
  have hg : gl = l1 ++ l :: l2 := hg
  subst hf
  subst hg
  have h1 := h.1
  have e1 : obC o (fa, fc, f1 ++ (ga, gg, go, gv, l1 ++ l :: l2) :: f2) w s c b fi y me ct L = ([(o, cOb (fa, fc, f1 ++ (ga, gg, go, gv, l1 ++ l :: l2) :: f2) w s c b fi y me ct), (fa, vL fc ((f1 ++ (ga, gg, go, gv, l1 ++ l :: l2) :: f2).map FamD.a)), (w.1, vL w.2.1 (w.2.2.map WrD.a)), (s.1, vL s.2.1 (s.2.2.map SnD.a)), (c.1, vL c.2.1 (c.2.2.map CuD.a)), (b.1, vL b.2.1 (b.2.2.map BkD.a)), (fi.1, cFi fi.2), (y.1, vL y.2.1 (y.2.2.map ChD.a))] ++ (meC me ++ (c.2.2.map cuP ++ (w.2.2.map wrP ++ (f1.flatMap fmP ++ fCells l1))))) ++ (l.a, cLv l) :: ((l.la, cLl l) :: (fCells l2 ++ (f2.flatMap fmP ++ L))) := by
    simp [obC, obT, fmP, fCells_mid, FamD.lv]
  rw [e1] at h1
  have h2 := h1.put (c := vO 6 [.ref l.la, .int (zI mu)])
  refine ⟨?_, fun g9 hg9 => ?_, h.2.2⟩
  · have e2 : obC o (fa, fc, f1 ++ setLv (ga, gg, go, gv, l1 ++ l :: l2) (l1 ++ (l.a, mu, l.la, l.lc, l.rs) :: l2) :: f2) w s c b fi y me ct L = ([(o, cOb (fa, fc, f1 ++ (ga, gg, go, gv, l1 ++ l :: l2) :: f2) w s c b fi y me ct), (fa, vL fc ((f1 ++ (ga, gg, go, gv, l1 ++ l :: l2) :: f2).map FamD.a)), (w.1, vL w.2.1 (w.2.2.map WrD.a)), (s.1, vL s.2.1 (s.2.2.map SnD.a)), (c.1, vL c.2.1 (c.2.2.map CuD.a)), (b.1, vL b.2.1 (b.2.2.map BkD.a)), (fi.1, cFi fi.2), (y.1, vL y.2.1 (y.2.2.map ChD.a))] ++ (meC me ++ (c.2.2.map cuP ++ (w.2.2.map wrP ++ (f1.flatMap fmP ++ fCells l1))))) ++ (l.a, vO 6 [.ref l.la, .int (zI mu)]) :: ((l.la, cLl l) :: (fCells l2 ++ (f2.flatMap fmP ++ L))) := by
      simp [obC, obT, fmP, fCells_mid, FamD.lv, setLv, FamD.a, cOb, LvD.a, LvD.la, LvD.mu, cLv, cLl, LvD.lc, LvD.rs]
    rw [e2]
    exact h2
  · have k := h.2.1
    rcases List.mem_append.mp hg9 with hm9 | hm9
    · exact k g9 (List.mem_append_left _ hm9)
    · rcases List.mem_cons.mp hm9 with rfl | hm9
      · obtain ⟨k1, k2⟩ := k _ (List.mem_append_right _ (List.mem_cons_self ..))
        refine ⟨setLv_ok k1 rfl rfl, fun l9 hl9 => ?_⟩
        rcases List.mem_append.mp (show l9 ∈ l1 ++ (l.a, mu, l.la, l.lc, l.rs) :: l2 from hl9) with hm8 | hm8
        · exact k2 l9 (List.mem_append_left _ hm8)
        · rcases List.mem_cons.mp hm8 with rfl | hm8
          · exact ⟨hm, (k2 l (List.mem_append_right _ (List.mem_cons_self ..))).2⟩
          · exact k2 l9 (List.mem_append_right _ (List.mem_cons_of_mem _ hm8))
      · exact k g9 (List.mem_append_right _ (List.mem_cons_of_mem _ hm9))
/-- a new run out of two lists that don't change any more -/
theorem c74 {mg : Bool} {ra rc sa sc9 : Nat} {rows spans : List ChD} (hO : okO A F L o f w s c b fi y me ct) (hra : F ra = some (vL rc (rows.map ChD.a))) (hsa : F sa = some (vL sc9 (spans.map ChD.a))) (hk1 : ∀ c, c ∈ rows → okCh F c) (hk2 : ∀ c, c ∈ spans → okCh F c) (hid : ct.2.2.1 + 1 < 1000000) :
    Wc sc 6 74 [.ref o, .int (bI mg), .ref ra, .ref sa] A (fun v A' => ∃ v9, v = .inl (some v9) ∧ ∃ r F' ct', v9 = .ref r.a ∧ r.id = ct.2.2.1 + 1 ∧ r.mg = mg ∧ r.rows = rows ∧ r.spans = spans ∧ Ext F F' ∧ okRun F' r ∧ ctK ct' = ctKs ct 1 0 ∧ okO A' F' L o f w s c b fi y me ct' ∧ A'.2.1 = A.2.1 + 2 ∧ A'.2.2 ≤ A.2.2 + 7 + 8 * rows.length) := by
  show Wv sc 6 74 0 [some (.ref o), some (.int (bI mg)), some (.ref ra), some (.ref sa), none] [] A _
  have h1 := hO.ob
  have hct : okCt (ct.1, ct.2.1, ct.2.2.1 + 1, ct.2.2.2.1, ct.2.2.2.2) := by
    obtain ⟨g1, g2, g3, g4⟩ := hO.ctc
    exact ⟨g1, g2, hid, g4⟩
  have hO1 := hO.putCt hct
  have h2 := hO1.ob
  refine wv_s f74_0 rfl (fun _ => rfl) ?_
  refine wv_s f74_1 rfl (fun _ => rfl) ?_
  refine wv_getfield f74_2 (by assumption) (by rfl) ?_
  refine wv_icon f74_5 ?_
  refine wv_iadd f74_6 ?_
  refine wv_putfield f74_7 (by assumption) (by simp) (by rfl) ?_
  show Wv sc 6 74 10 _ _ (aPut A o (cOb f w s c b fi y me (ct.1, ct.2.1, ct.2.2.1 + 1, ct.2.2.2.1, ct.2.2.2.2))) _
  refine wv_newZ f74_10 (by decide) (by decide) (zs := [.int 0, .int 0, .null, .null, .int 0, .int 0, .null]) (by rfl) (fun q hq => ?_)
  have hO2 := hO1.1.new (n := gN 8) (c := vO 8 [.int 0, .int 0, .null, .null, .int 0, .int 0, .null]) hq
  have h3 := hO2.at (q := o) (List.mem_cons_of_mem _ (List.mem_cons_self ..))
  refine wv_s f74_13 rfl (fun _ => rfl) ?_
  refine wv_s f74_14 rfl (fun _ => rfl) ?_
  refine wv_getfield f74_15 (h3) (by rfl) ?_
  refine wv_s f74_18 rfl (fun _ => rfl) ?_
  refine wv_s f74_19 rfl (fun _ => rfl) ?_
  refine wv_s f74_20 rfl (fun _ => rfl) ?_
  refine wv_effI f74_21 (by decide) (by simp) (by simp) (by decide +kernel) (by rfl) (c136 (L := obC o f w s c b fi y me (ct.1, ct.2.1, ct.2.2.1 + 1, ct.2.2.2.1, ct.2.2.2.2) L) (id := ct.2.2.1 + 1) (rows := rows) (spans := spans) hO2 (by omega) hra hsa hk1 hk2) (by omega) (fun A3 hA3 => ?_)
  obtain ⟨r, F', n1, n2, n3, n4, n5, n6, n7, n8, n9, n10⟩ := hA3
  subst n1
  have hO3 : okO A3 F' L o f w s c b fi y me (ct.1, ct.2.1, ct.2.2.1 + 1, ct.2.2.2.1, ct.2.2.2.2) := ⟨n8, hO1.2.ext n6⟩
  have h4 := hO3.ob
  have hrA := n7.ext hO3.1.1
  have hr1 := hrA.1
  refine wv_st4 f74_24 rfl (fun _ _ => rfl) ?_
  refine wv_s f74_26 rfl (fun _ => rfl) ?_
  refine wv_s f74_27 rfl (fun _ => rfl) ?_
  refine wv_getfield f74_28 (by assumption) (by rfl) ?_
  refine wv_s f74_31 rfl (fun _ => rfl) ?_
  refine wv_valV f74_33 (by decide) (by simp) (by simp) (by decide +kernel) (by assumption) (by rfl) (by decide +kernel) rfl ((c148 hrA).up (Nat.le_refl _) (fun _ _ h => h.2)) (by omega) ?_
  have hct2 : okCt (ct.1, ct.2.1, ct.2.2.1 + 1, ct.2.2.2.1 + zI (r.wt : Nat), ct.2.2.2.2) := hct
  have hO4 := hO3.putCt hct2
  have h5 := hO4.ob
  have e1 : (aPut A3 o (cOb f w s c b fi y me (ct.1, ct.2.1, ct.2.2.1 + 1, ct.2.2.2.1 + zI (r.wt : Nat), ct.2.2.2.2))).2 = A3.2 := rfl
  refine wv_s f74_36 rfl (fun _ => rfl) ?_
  refine wv_putfield f74_37 (h4) (by simp) (by rfl) ?_
  refine wv_s f74_40 rfl (fun _ => rfl) ?_
  exact wv_aret f74_42 (by rfl) (⟨_, rfl, r, F', _, rfl, n2, n3, n4, n5, n6, n7, rfl, hO4, by show A3.2.1 = _; rw [n9]; rfl, by show A3.2.2 ≤ _; rw [n4] at *; have n10' : A3.2.2 ≤ A.2.2 + gN 8 + 8 * rows.length := n10; rw [show gN 8 = 7 from by decide +kernel] at n10'; omega⟩)
end WT
