/-! A STEP; a new object; families -/
theorem nxK_rg {V : Nat → Option vC} {key : Int} {l : List RunD} : ∀ {m : Int}, (0 ≤ m ∧ m ≤ 100) → (∀ r, r ∈ l → okRun V r) → 0 ≤ nxK key m l ∧ nxK key m l ≤ m := by
  induction l with
  | nil => intro m hm _; exact ⟨hm.1, Int.le_refl _⟩
  | cons c l ih =>
    intro m hm hl
    have h4 := @kbh_rg V key c.rows (hl c (List.mem_cons_self ..)).2.2.2.1
    have := @ih (min m (kbh key c.rows)) (by omega) (fun c hc => hl c (List.mem_cons_of_mem _ hc))
    show 0 ≤ nxK key (min m (kbh key c.rows)) l ∧ nxK key (min m (kbh key c.rows)) l ≤ m
    omega
section ST
variable {sc : gSc} {d : Nat} {A : gA} {F : Nat → Option vC} {L : List (Nat × vC)} {o : Nat} {f : Ls FamD} {w : Ls WrD} {s : Ls SnD} {c : Ls CuD} {b : Ls BkD} {fi : Nat × FiD} {y : Ls ChD} {me : Option MeD} {mm : MeD} {ct : CtD} {g : FamD} {l ls lt : LvD} {r : RunD} {i j m n q ca cc : Nat} {x z : Int} {f1 f2 : List FamD} {lv1 lv2 : List LvD}
theorem c41_n {Q : gO → gA → Prop} (hO : okO A F L o f w s c b fi y (some mm) ct) (hd : mm.dn + 1 ≤ 1000000)
    (hQ : ∀ A', okO A' F L o f w s c b fi y (some (mm.setS (nxK mm.key 100 mm.ins) (mm.dn + 1))) ct → A'.2 = A.2 → Wv sc 10 41 18 [some (.ref o), some (.ref mm.a)] [] A' Q) :
    Wc sc 10 41 [.ref o, .ref mm.a] A Q := by
  show Wv sc 10 41 0 [some (.ref o), some (.ref mm.a)] [] A _
  have hm := hO.me1.1
  obtain ⟨m1, m2, m3, m4, m5, m6, m7⟩ := hO.2.2.2.2.2.2.2.1 mm rfl
  have hO1 := hO.putMS (key := mm.key) (dn := mm.dn + 1) m6 hd
  have hm1 : (aPut A mm.a (cMe (mm.setS mm.key (mm.dn + 1)))).1 mm.a = some (cMe (mm.setS mm.key (mm.dn + 1))) := hO1.me1.1
  have hia : (aPut A mm.a (cMe (mm.setS mm.key (mm.dn + 1)))).1 mm.ia = some (vL mm.ic (mm.ins.map RunD.a)) := hO1.1.1 _ _ m2
  have hnk := @nxK_rg F mm.key mm.ins 100 (by omega) m3
  have hO2 : okO (aPut (aPut A mm.a (cMe (mm.setS mm.key (mm.dn + 1)))) mm.a (cMe (mm.setS (nxK mm.key 100 mm.ins) (mm.dn + 1)))) F L o f w s c b fi y (some (mm.setS (nxK mm.key 100 mm.ins) (mm.dn + 1))) ct := hO1.putMS (mm := mm.setS mm.key (mm.dn + 1)) (key := nxK mm.key 100 mm.ins) (dn := mm.dn + 1) (by omega) hd
  refine wv_s f41_0 rfl (fun _ => rfl) ?_
  refine wv_s f41_1 rfl (fun _ => rfl) ?_
  refine wv_getfield f41_2 (hm) (by rfl) ?_
  refine wv_icon f41_5 ?_
  refine wv_iadd f41_6 ?_
  refine wv_putfield f41_7 (hm) (by simp) (by rfl) ?_
  show Wv sc 10 41 10 _ _ (aPut A mm.a (cMe (mm.setS mm.key (mm.dn + 1)))) _
  refine wv_s f41_10 rfl (fun _ => rfl) ?_
  refine wv_s f41_11 rfl (fun _ => rfl) ?_
  refine wv_valV f41_12 (by decide) (by simp) (by simp) (by decide +kernel) (hm1) (by rfl) (by decide +kernel) rfl (c135 (key := mm.key) hm1 (by omega) hia (fun r hr => (m3 r hr).ext hO1.1.1)) (by omega) ?_
  refine wv_putfield f41_15 (hm1) (by simp) (by rfl) ?_
  show Wv sc 10 41 18 _ _ (aPut (aPut A mm.a (cMe (mm.setS mm.key (mm.dn + 1)))) mm.a (cMe (mm.setS (nxK mm.key 100 mm.ins) (mm.dn + 1)))) _
  exact hQ _ hO2 rfl
theorem c41_s {N kk : Nat} (hO : okO A F L o f w s (ca, cc, []) b fi y (some mm) ct) (hd : mm.dn + 1 ≤ 1000000) (hgm : g ∈ f.2.2) (hmg : mm.h = g.a) (hkey : nxK mm.key 100 mm.ins = (kk : Int)) (hk1 : kk < 100) (hwt : wtS mm.ins < 2600) (hN : (wayW (nxK mm.key 100 mm.ins) mm.ins).length ≤ N) (hkl : mm.kept.length + (wayW (nxK mm.key 100 mm.ins) mm.ins).length < 2600) (hw : w.2.2.length ≤ 1000000) :
    Wc sc 10 41 [.ref o, .ref mm.a] A (fun v A' => v = .inl none ∧ ∃ yc' kc' ct', ctK ct' = ctKs ct 0 0 ∧ okO A' F L o f w s (ca, cc, []) b fi (y.1, yc', wayW (nxK mm.key 100 mm.ins) mm.ins) (some ((mm.setS (nxK mm.key 100 mm.ins) (mm.dn + 1)).setK kc' (mm.kept ++ selB (wayW (nxK mm.key 100 mm.ins) mm.ins) (sfK w.2.2.length (s.2.2.map SnD.m) (ovBl ((mm.lv : Int) + 1) (nxK mm.key 100 mm.ins) (nxK mm.key 100 mm.ins) 1 (g.lv.drop 1)) (wayW (nxK mm.key 100 mm.ins) mm.ins))))) ct' ∧
      5 * A'.2.1 + (y.2.1 + mm.kc) ≤ 5 * A.2.1 + (yc' + kc') + 5 ∧ A'.2.2 + 4 * (y.2.1 + mm.kc) ≤ A.2.2 + 4 * (yc' + kc') + N ∧ (yc' ≤ y.2.1 ∨ yc' ≤ 10 + 2 * N) ∧ (kc' ≤ mm.kc ∨ kc' ≤ 10 + 2 * (mm.kept.length + N))) := by
  refine c41_n hO hd (fun A1 hO1 e1 => ?_)
  have h1 := hO1.ob
  have hm : A1.1 mm.a = some (cMe (mm.setS (nxK mm.key 100 mm.ins) (mm.dn + 1))) := hO1.me1.1
  have hO1k : (mm.setS (nxK mm.key 100 mm.ins) (mm.dn + 1)).key = (kk : Int) := hkey
  have hm' : A1.1 mm.a = some (vO 7 [.ref mm.h, .int (zI mm.lv), .ref mm.ia, .ref mm.ka, .int (zI mm.sg), .int (zI kk), .int (zI ((mm.dn + 1 : Nat) : Int))]) := by rw [← hkey]; exact hm
  refine wv_s f41_18 rfl (fun _ => rfl) ?_
  refine wv_getfield f41_19 (hm') (by rfl) ?_
  refine wv_bip f41_22 (by decide) ?_
  refine wv_cF_ge f41_24 (by omega) (by omega) (by omega) ?_
  refine wv_s f41_27 rfl (fun _ => rfl) ?_
  refine wv_s f41_28 rfl (fun _ => rfl) ?_
  refine wv_effV (P := fun A' => ∃ yc' kc' ct', ctK ct' = ctKs ct 0 0 ∧ okO A' F L o f w s (ca, cc, []) b fi (y.1, yc', wayW (nxK mm.key 100 mm.ins) mm.ins) (some ((mm.setS (nxK mm.key 100 mm.ins) (mm.dn + 1)).setK kc' (mm.kept ++ selB (wayW (nxK mm.key 100 mm.ins) mm.ins) (sfK w.2.2.length (s.2.2.map SnD.m) (ovBl ((mm.lv : Int) + 1) (nxK mm.key 100 mm.ins) (nxK mm.key 100 mm.ins) 1 (g.lv.drop 1)) (wayW (nxK mm.key 100 mm.ins) mm.ins))))) ct' ∧
      5 * A'.2.1 + (y.2.1 + mm.kc) ≤ 5 * A1.2.1 + (yc' + kc') + 5 ∧ A'.2.2 + 4 * (y.2.1 + mm.kc) ≤ A1.2.2 + 4 * (yc' + kc') + N ∧ (yc' ≤ y.2.1 ∨ yc' ≤ 10 + 2 * N) ∧ (kc' ≤ mm.kc ∨ kc' ≤ 10 + 2 * (mm.kept.length + N))) f41_29 (by decide) (by simp) (by simp) (by decide +kernel) h1 (by rfl) (by decide +kernel) rfl (c92 (g := g) (N := N) (kk := kk) (mm := mm.setS (nxK mm.key 100 mm.ins) (mm.dn + 1)) hO1 hgm hmg hO1k hk1 hwt hN hkl hw) (by omega) (fun A2 hA2 => ?_)
  rw [e1] at hA2
  refine wv_s (pc' := 40) f41_32 rfl (fun _ => rfl) ?_
  exact wv_vret f41_40 (by decide +kernel) (⟨rfl, hA2⟩)
theorem c41_f (hO : okO A F L o f w s c b fi y (some mm) ct) (hd : mm.dn + 1 ≤ 1000000) (hkey : nxK mm.key 100 mm.ins = 100) (hf : f.2.2 = f1 ++ g :: f2) (hmg : mm.h = g.a) (hg : g.lv = lv1 ++ ls :: lt :: lv2) (hl1 : lv1.length = mm.lv) (hkl : mm.kept.length ≤ 1000) (hsp : (mm.ins.map (fun r => r.spans.length)).sum < 2000) (hid : ct.2.2.1 + mm.kept.length + 2 < 1000000) (hvs : ct.2.2.2.2.1 + 1 ≤ 1000000) (hrs : lt.rs.length + mm.kept.length + 1 < 2000) :
    Wc sc 10 41 [.ref o, .ref mm.a] A (fun v A' => v = .inl none ∧ ∃ nr F' lc' ct', Ext F F' ∧ SegA mm.kept (keptR mm g.lv mm.ins) ct.2.2.1 nr ∧ ctK ct' = ctKs ct nr.length 1 ∧ okO A' F' L o (fG f f1 g f2 lv1 (ls.a, mm.sg, ls.la, ls.lc, kp mm.ins ls.rs) lt lv2 lc' (insBs (kp mm.ins lt.rs) nr)) w s c b fi y none ct' ∧
      5 * A'.2.1 + lt.lc ≤ 5 * A.2.1 + lc' + cR nr + 60 + 2 * (keptR mm g.lv mm.ins).length ∧ A'.2.2 + 4 * lt.lc ≤ A.2.2 + 4 * lc' + sR nr + 150 + 8 * (keptR mm g.lv mm.ins).length ∧ (lc' ≤ lt.lc ∨ lc' ≤ 10 + 2 * ((kp mm.ins lt.rs).length + nr.length))) := by
  refine c41_n hO hd (fun A1 hO1 e1 => ?_)
  have h1 := hO1.ob
  have hm : A1.1 mm.a = some (cMe (mm.setS (nxK mm.key 100 mm.ins) (mm.dn + 1))) := hO1.me1.1
  have hm' : A1.1 mm.a = some (vO 7 [.ref mm.h, .int (zI mm.lv), .ref mm.ia, .ref mm.ka, .int (zI mm.sg), .int (zI 100), .int (zI ((mm.dn + 1 : Nat) : Int))]) := by rw [← hkey]; exact hm
  refine wv_s f41_18 rfl (fun _ => rfl) ?_
  refine wv_getfield f41_19 (hm') (by rfl) ?_
  refine wv_bip f41_22 (by decide) ?_
  refine wv_cT_ge f41_24 (by omega) (by omega) (by omega) ?_
  refine wv_s f41_35 rfl (fun _ => rfl) ?_
  refine wv_s f41_36 rfl (fun _ => rfl) ?_
  refine wv_effV (P := fun A' => ∃ nr F' lc' ct', Ext F F' ∧ SegA mm.kept (keptR mm g.lv mm.ins) ct.2.2.1 nr ∧ ctK ct' = ctKs ct nr.length 1 ∧ okO A' F' L o (fG f f1 g f2 lv1 (ls.a, mm.sg, ls.la, ls.lc, kp mm.ins ls.rs) lt lv2 lc' (insBs (kp mm.ins lt.rs) nr)) w s c b fi y none ct' ∧
      5 * A'.2.1 + lt.lc ≤ 5 * A1.2.1 + lc' + cR nr + 60 + 2 * (keptR mm g.lv mm.ins).length ∧ A'.2.2 + 4 * lt.lc ≤ A1.2.2 + 4 * lc' + sR nr + 150 + 8 * (keptR mm g.lv mm.ins).length ∧ (lc' ≤ lt.lc ∨ lc' ≤ 10 + 2 * ((kp mm.ins lt.rs).length + nr.length))) f41_37 (by decide) (by simp) (by simp) (by decide +kernel) h1 (by rfl) (by decide +kernel) rfl (c50 (mm := mm.setS (nxK mm.key 100 mm.ins) (mm.dn + 1)) hO1 hf hmg hg hl1 hkl hsp hid hvs hrs) (by omega) (fun A2 hA2 => ?_)
  rw [e1] at hA2
  exact wv_vret f41_40 (by decide +kernel) (⟨rfl, hA2⟩)
/-- a new object -/
def ct0 : CtD := (0, 0, 0, 0, 0, 0, 0, 0, 0, 0)
theorem c18 (hO : Own A F ((q, vO 11 [.null, .null, .null, .null, .null, .null, .null, .null, .int 0, .int 0, .int 0, .int 0, .int 0, .int 0, .int 0, .int 0, .int 0, .int 0]) :: L)) :
    Wc sc 3 18 [.ref q] A (fun v A' => v = .inl none ∧ ∃ fa wa sa ca ba fi ya, okO A' F L q (fa, 0, []) (wa, 0, []) (sa, 0, []) (ca, 0, []) (ba, 0, []) (fi, fi0) (ya, 0, []) none ct0 ∧ A'.2.1 = A.2.1 + 7 ∧ A'.2.2 = A.2.2 + 21) := by
  show Wv sc 3 18 0 [some (.ref q)] [] A _
  refine wv_s f18_0 rfl (fun _ => rfl) ?_
  refine wv_objI f18_1 (by simp) ?_
  refine wv_s f18_4 rfl (fun _ => rfl) ?_
  refine wv_newL f18_5 (fun fa hfa => ?_)
  have o1 := hO.new (n := 3) (c := vW) hfa
  have a1 := o1.at (List.mem_cons_self ..)
  refine wv_s f18_8 rfl (fun _ => rfl) ?_
  refine wv_linit f18_9 (a1) (by omega) (by simp) ?_
  have o2 := o1.put (L1 := []) (c := vL 0 [])
  have a2 := Own.at (q := q) o2 (List.mem_cons_of_mem _ (List.mem_cons_self ..))
  refine wv_putfield f18_12 (a2) (by simp) (by rfl) ?_
  refine wv_s f18_15 rfl (fun _ => rfl) ?_
  refine wv_newL f18_16 (fun wa hwa => ?_)
  have o3 := Own.put (L1 := [(fa, vL 0 [])]) (c := vO 11 [.ref fa, .null, .null, .null, .null, .null, .null, .null, .int 0, .int 0, .int 0, .int 0, .int 0, .int 0, .int 0, .int 0, .int 0, .int 0]) o2
  have o4 := Own.new (n := 3) (c := vW) o3 hwa
  have a3 := o4.at (List.mem_cons_self ..)
  refine wv_s f18_19 rfl (fun _ => rfl) ?_
  refine wv_linit f18_20 (a3) (by omega) (by simp) ?_
  have o5 := Own.put (L1 := []) (c := vL 0 []) o4
  have a4 := Own.at (q := q) o5 (List.mem_cons_of_mem _ (List.mem_cons_of_mem _ (List.mem_cons_self ..)))
  refine wv_putfield f18_23 (a4) (by simp) (by rfl) ?_
  refine wv_s f18_26 rfl (fun _ => rfl) ?_
  refine wv_newL f18_27 (fun sa hsa => ?_)
  have o6 := Own.put (L1 := [(wa, vL 0 []), (fa, vL 0 [])]) (c := vO 11 [.ref fa, .ref wa, .null, .null, .null, .null, .null, .null, .int 0, .int 0, .int 0, .int 0, .int 0, .int 0, .int 0, .int 0, .int 0, .int 0]) o5
  have o7 := Own.new (n := 3) (c := vW) o6 hsa
  have a5 := o7.at (List.mem_cons_self ..)
  refine wv_s f18_30 rfl (fun _ => rfl) ?_
  refine wv_linit f18_31 (a5) (by omega) (by simp) ?_
  have o8 := Own.put (L1 := []) (c := vL 0 []) o7
  have a6 := Own.at (q := q) o8 (List.mem_cons_of_mem _ (List.mem_cons_of_mem _ (List.mem_cons_of_mem _ (List.mem_cons_self ..))))
  refine wv_putfield f18_34 (a6) (by simp) (by rfl) ?_
  refine wv_s f18_37 rfl (fun _ => rfl) ?_
  refine wv_newL f18_38 (fun ca hca => ?_)
  have o9 := Own.put (L1 := [(sa, vL 0 []), (wa, vL 0 []), (fa, vL 0 [])]) (c := vO 11 [.ref fa, .ref wa, .ref sa, .null, .null, .null, .null, .null, .int 0, .int 0, .int 0, .int 0, .int 0, .int 0, .int 0, .int 0, .int 0, .int 0]) o8
  have o10 := Own.new (n := 3) (c := vW) o9 hca
  have a7 := o10.at (List.mem_cons_self ..)
  refine wv_s f18_41 rfl (fun _ => rfl) ?_
  refine wv_linit f18_42 (a7) (by omega) (by simp) ?_
  have o11 := Own.put (L1 := []) (c := vL 0 []) o10
  have a8 := Own.at (q := q) o11 (List.mem_cons_of_mem _ (List.mem_cons_of_mem _ (List.mem_cons_of_mem _ (List.mem_cons_of_mem _ (List.mem_cons_self ..)))))
  refine wv_putfield f18_45 (a8) (by simp) (by rfl) ?_
  refine wv_s f18_48 rfl (fun _ => rfl) ?_
  refine wv_newL f18_49 (fun ba hba => ?_)
  have o12 := Own.put (L1 := [(ca, vL 0 []), (sa, vL 0 []), (wa, vL 0 []), (fa, vL 0 [])]) (c := vO 11 [.ref fa, .ref wa, .ref sa, .ref ca, .null, .null, .null, .null, .int 0, .int 0, .int 0, .int 0, .int 0, .int 0, .int 0, .int 0, .int 0, .int 0]) o11
  have o13 := Own.new (n := 3) (c := vW) o12 hba
  have a9 := o13.at (List.mem_cons_self ..)
  refine wv_s f18_52 rfl (fun _ => rfl) ?_
  refine wv_linit f18_53 (a9) (by omega) (by simp) ?_
  have o14 := Own.put (L1 := []) (c := vL 0 []) o13
  have a10 := Own.at (q := q) o14 (List.mem_cons_of_mem _ (List.mem_cons_of_mem _ (List.mem_cons_of_mem _ (List.mem_cons_of_mem _ (List.mem_cons_of_mem _ (List.mem_cons_self ..))))))
  refine wv_putfield f18_56 (a10) (by simp) (by rfl) ?_
  refine wv_s f18_59 rfl (fun _ => rfl) ?_
  refine wv_newZ f18_60 (by decide) (by decide) (zs := [.int 0, .int 0, .int 0]) (by rfl) (fun fi hfi => ?_)
  have o15 := Own.put (L1 := [(ba, vL 0 []), (ca, vL 0 []), (sa, vL 0 []), (wa, vL 0 []), (fa, vL 0 [])]) (c := vO 11 [.ref fa, .ref wa, .ref sa, .ref ca, .ref ba, .null, .null, .null, .int 0, .int 0, .int 0, .int 0, .int 0, .int 0, .int 0, .int 0, .int 0, .int 0]) o14
  have o16 := Own.new (n := gN 5) (c := vO 5 [.int 0, .int 0, .int 0]) o15 hfi
  refine wv_s f18_63 rfl (fun _ => rfl) ?_
  refine wv_effI f18_64 (by decide) (by simp) (by simp) (by decide +kernel) (by rfl) (c112) (by omega) (fun A1 hA1 => ?_)
  rw [hA1]
  have a11 := Own.at (q := q) o16 (List.mem_cons_of_mem _ (List.mem_cons_of_mem _ (List.mem_cons_of_mem _ (List.mem_cons_of_mem _ (List.mem_cons_of_mem _ (List.mem_cons_of_mem _ (List.mem_cons_self ..)))))))
  refine wv_putfield f18_67 (a11) (by simp) (by rfl) ?_
  refine wv_s f18_70 rfl (fun _ => rfl) ?_
  refine wv_newL f18_71 (fun ya hya => ?_)
  have o17 := Own.put (L1 := [(fi, vO 5 [.int 0, .int 0, .int 0]), (ba, vL 0 []), (ca, vL 0 []), (sa, vL 0 []), (wa, vL 0 []), (fa, vL 0 [])]) (c := vO 11 [.ref fa, .ref wa, .ref sa, .ref ca, .ref ba, .ref fi, .null, .null, .int 0, .int 0, .int 0, .int 0, .int 0, .int 0, .int 0, .int 0, .int 0, .int 0]) o16
  have o18 := Own.new (n := 3) (c := vW) o17 hya
  have a12 := o18.at (List.mem_cons_self ..)
  refine wv_s f18_74 rfl (fun _ => rfl) ?_
  refine wv_linit f18_75 (a12) (by omega) (by simp) ?_
  have o19 := Own.put (L1 := []) (c := vL 0 []) o18
  have a13 := Own.at (q := q) o19 (List.mem_cons_of_mem _ (List.mem_cons_of_mem _ (List.mem_cons_of_mem _ (List.mem_cons_of_mem _ (List.mem_cons_of_mem _ (List.mem_cons_of_mem _ (List.mem_cons_of_mem _ (List.mem_cons_self ..))))))))
  have o20 := Own.put (L1 := [(ya, vL 0 []), (fi, vO 5 [.int 0, .int 0, .int 0]), (ba, vL 0 []), (ca, vL 0 []), (sa, vL 0 []), (wa, vL 0 []), (fa, vL 0 [])]) (c := vO 11 [.ref fa, .ref wa, .ref sa, .ref ca, .ref ba, .ref fi, .ref ya, .null, .int 0, .int 0, .int 0, .int 0, .int 0, .int 0, .int 0, .int 0, .int 0, .int 0]) o19
  have o21 := Own.perm o20 (L' := obC q (fa, 0, []) (wa, 0, []) (sa, 0, []) (ca, 0, []) (ba, 0, []) (fi, fi0) (ya, 0, []) none ct0 L) (List.Perm.append_right L (List.reverse_perm [(q, vO 11 [.ref fa, .ref wa, .ref sa, .ref ca, .ref ba, .ref fi, .ref ya, .null, .int 0, .int 0, .int 0, .int 0, .int 0, .int 0, .int 0, .int 0, .int 0, .int 0]), (fa, vL 0 []), (wa, vL 0 []), (sa, vL 0 []), (ca, vL 0 []), (ba, vL 0 []), (fi, vO 5 [.int 0, .int 0, .int 0]), (ya, vL 0 [])]))
  refine wv_putfield f18_78 (a13) (by simp) (by rfl) ?_
  exact wv_vret f18_81 (by decide +kernel) (⟨rfl, fa, wa, sa, ca, ba, fi, ya, ⟨o21, (fun x hx => by cases hx), (fun x hx => by cases hx), (fun x hx => by cases hx), (fun x hx => by cases hx), (fun x hx => by cases hx), (fun x hx => by cases hx), (fun x hx => by cases hx), by unfold okCt ct0; decide⟩, rfl, rfl⟩)
/-- a new family -/
theorem c19 {op : Nat} (hO : okO A F L o f w s c b fi y me ct) (h3 : f.2.2.length < 3) (hop : op = 43 ∨ op = 62 ∨ op = 60) :
    Wc sc 8 19 [.ref o, .int (zI op)] A (fun v A' => v = .inl (some (.int (zI f.2.2.length))) ∧ ∃ g F' c', g.g = f.2.2.length ∧ g.o = op ∧ (∀ l, l ∈ g.lv → nilLv l) ∧ Ext F F' ∧ okO A' F' L o (f.1, c', f.2.2 ++ [g]) w s c b fi y me ct ∧ 5 * A'.2.1 ≤ 5 * A.2.1 + 70 ∧ A'.2.2 ≤ A.2.2 + 100) := by
  show Wv sc 8 19 0 [some (.ref o), some (.int (zI op)), none] [] A _
  have h1 := hO.ob
  have h2 := hO.fl
  have go : Wv sc 8 19 28 [some (.ref o), some (.int (zI op)), none] [] A (fun v A' => v = .inl (some (.int (zI f.2.2.length))) ∧ ∃ g F' c', g.g = f.2.2.length ∧ g.o = op ∧ (∀ l, l ∈ g.lv → nilLv l) ∧ Ext F F' ∧ okO A' F' L o (f.1, c', f.2.2 ++ [g]) w s c b fi y me ct ∧ 5 * A'.2.1 ≤ 5 * A.2.1 + 70 ∧ A'.2.2 ≤ A.2.2 + 100) := by
    refine wv_s f19_28 rfl (fun _ => rfl) ?_
    refine wv_getfield f19_29 (h1) (by rfl) ?_
    refine wv_lsize f19_32 (h2) (by omega) (by simp) (fun hs => ?_)
    rw [List.length_map] at hs ⊢
    refine wv_icon f19_35 ?_
    refine wv_cT_lt f19_36 (by omega) (by omega) (by omega) ?_
    refine wv_newZ f19_49 (by decide) (by decide) (zs := [.int 0, .int 0, .null]) (by rfl) (fun q hq => ?_)
    have hO1 := hO.1.new (n := gN 4) (c := vO 4 [.int 0, .int 0, .null]) hq
    have h4 := hO1.at (q := o) (List.mem_cons_of_mem _ (List.mem_cons_self ..))
    have h5 := hO1.at (q := f.1) (c := vL f.2.1 (f.2.2.map FamD.a)) (by simp [obC])
    refine wv_s f19_52 rfl (fun _ => rfl) ?_
    refine wv_s f19_53 rfl (fun _ => rfl) ?_
    refine wv_getfield f19_54 (h4) (by rfl) ?_
    refine wv_lsize f19_57 h5 (by omega) (by simp) (fun hs2 => ?_)
    rw [List.length_map] at hs2 ⊢
    refine wv_s f19_60 rfl (fun _ => rfl) ?_
    refine wv_effI f19_61 (by decide) (by simp) (by simp) (by decide +kernel) (by rfl) (c104 (L := obC o f w s c b fi y me ct L) (g := f.2.2.length) (o := op) hO1 (by omega) hop) (by omega) (fun A2 hA2 => ?_)
    obtain ⟨g, F', rfl, g2, g3, g4, g5, g6, g7, g8, g9⟩ := hA2
    have hO2 : Own A2 F' (obC o f w s c b fi y me ct (fCells g.lv ++ L)) := by
      refine g7.perm ?_
      show (fCells g.lv ++ (([(o, cOb f w s c b fi y me ct), (f.1, vL f.2.1 (f.2.2.map FamD.a)), (w.1, vL w.2.1 (w.2.2.map WrD.a)), (s.1, vL s.2.1 (s.2.2.map SnD.a)), (c.1, vL c.2.1 (c.2.2.map CuD.a)), (b.1, vL b.2.1 (b.2.2.map BkD.a)), (fi.1, cFi fi.2), (y.1, vL y.2.1 (y.2.2.map ChD.a))]) ++ (meC me ++ (c.2.2.map cuP ++ (w.2.2.map wrP ++ (f.2.2.flatMap fmP ++ L)))))).Perm _
      refine perm_out.trans (List.Perm.append_left _ ?_)
      refine perm_out.trans (List.Perm.append_left _ ?_)
      refine perm_out.trans (List.Perm.append_left _ ?_)
      refine perm_out.trans (List.Perm.append_left _ ?_)
      exact perm_out
    have h7 := hO2.at (q := o) (List.mem_cons_self ..)
    have h8 := hO2.at (q := f.1) (c := vL f.2.1 (f.2.2.map FamD.a)) (by simp [obC])
    have h9 := (g6.ext hO2.1).1
    have hll : (f.2.2.map FamD.a).length = f.2.2.length := List.length_map _
    refine wv_st2 f19_64 rfl (fun _ _ => rfl) ?_
    refine wv_s f19_65 rfl (fun _ => rfl) ?_
    refine wv_getfield f19_66 (h7) (by rfl) ?_
    refine wv_s f19_69 rfl (fun _ => rfl) ?_
    refine wv_ladd f19_70 h8 h9 (by decide +kernel) (by omega) (by omega) (by simp) (fun c1 k1 s1 hlg => ?_)
    rw [hll] at hlg
    have hlf := lg_flat hlg
    have hO3 := hO2.setAt 1 rfl (c := vL c1 ((f.2.2 ++ [g]).map FamD.a)) (kc := k1) (ks := s1)
    have hO4 : okO (aLst A2 f.1 (vL c1 ((f.2.2 ++ [g]).map FamD.a)) k1 s1) F' L o (f.1, c1, f.2.2 ++ [g]) w s c b fi y me ct := by
      have e0 := hO.2.ext g5
      refine ⟨?_, fun z hz => ?_, e0.2⟩
      · have e1 : obC o (f.1, c1, f.2.2 ++ [g]) w s c b fi y me ct L = (obC o f w s c b fi y me ct (fCells g.lv ++ L)).set 1 (f.1, vL c1 ((f.2.2 ++ [g]).map FamD.a)) := by
          simp [obC, obT, fmP, cOb]
        rw [e1]
        exact hO3
      · rcases List.mem_append.mp hz with hz | hz
        · exact e0.1 z hz
        · rw [List.mem_singleton.mp hz]
          refine ⟨g6, fun l hl => ?_⟩
          obtain ⟨n1, n2, n3⟩ := g4 l hl
          exact ⟨by rw [n1]; omega, fun r hr => by rw [n2] at hr; cases hr⟩
    rw [List.map_append] at hO4
    have h10 : (aLst A2 f.1 (vL c1 (f.2.2.map FamD.a ++ [g].map FamD.a)) k1 s1).1 g.a = some (cFam g) := (hO4.fm (g := g) (by simp)).1
    have e9 : A2.2.1 = A.2.1 + 1 + 9 := g8
    have e8 : A2.2.2 = A.2.2 + gN 4 + 24 := g9
    rw [show gN 4 = 3 from by decide +kernel] at e8
    refine wv_s f19_73 rfl (fun _ => rfl) ?_
    refine wv_s f19_74 rfl (fun _ => rfl) ?_
    refine wv_getfield f19_75 (h10) (by rfl) ?_
    rw [g2]
    exact wv_iret f19_78 (by rfl) ⟨rfl, g, F', c1, g2, g3, g4, g5, hO4, by show 5 * (A2.2.1 + k1) ≤ _; omega, by show A2.2.2 + s1 ≤ _; omega⟩
  refine wv_s f19_0 rfl (fun _ => rfl) ?_
  refine wv_bip f19_1 (by decide) ?_
  refine wv_cX_eq f19_3 (by omega) (by omega) (fun hb => ?_) (fun hb => ?_)
  · exact go
  · refine wv_s f19_6 rfl (fun _ => rfl) ?_
    refine wv_bip f19_7 (by decide) ?_
    refine wv_cX_eq f19_9 (by omega) (by omega) (fun hb2 => ?_) (fun hb2 => ?_)
    · exact go
    · refine wv_s f19_12 rfl (fun _ => rfl) ?_
      refine wv_bip f19_13 (by decide) ?_
      refine wv_cT_eq f19_15 (by omega) (by omega) (by omega) ?_
      exact go
end ST
