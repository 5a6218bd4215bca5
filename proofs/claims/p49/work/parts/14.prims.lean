/-! WHAT NEEDS NO CODE OF OURS: Object.<init>, arraycopy, getClass, charAt, floatToRawIntBits -/
def gCasA : List Nat := [1566, 1582, 1574, 1579, 1571, 1567, 1564, 1581, 1577, 1578, 1573, 1565]
theorem gCasA_ok : (List.range 12).all (fun ci => match gCasA[ci]? with | some j => decide (lw_tbl[j]? = some (Cond.castable (gCn ci) "java/lang/Object")) | none => false) = true := by decide +kernel
theorem gCasA_at {ci : Nat} {q : vw_C} (h : gCl[ci]? = some q) : Cond.castable q.1 "java/lang/Object" ∈ lw_tbl := by
  have hl : ci < 12 := (List.getElem?_eq_some_iff.mp h).1
  have e : gCn ci = q.1 := by simp only [gCn, h]
  have h1 := List.all_eq_true.mp gCasA_ok ci (List.mem_range.mpr hl)
  split at h1
  · rw [← e]
    exact List.mem_of_getElem? (of_decide_eq_true h1)
  · cases h1
section PRIM
variable {sL : State} {D : va_G} {ex : Nat → Nat} {sc : gSc} {aL : Array Value} {m : Nat} {p : Program} {l : Launch} {e : Env} {R : Room} {s : State} {mth : MethodId} {args : Array Value} {below : List Frame} {meth : Method} {c : Code} {Q : State → Prop}
variable {len a b pc z : Nat} {ls : gL} {st : List Value} {h h0 : gH} {r : List Value × gH} {ads : List Nat} {H : Heap} {locs : List Loc} {cells slots : Nat} {mls : Array Slot} {mst : List Value} {hp : List Nat}
/-- after the kit's va_copyq: a copy of references to objects of any classes that are the component's -/
theorem gCopyq {cc : ByteArray} {rest : List Value} {tys : List (ClassId × FieldType)} {ws : va_W} {A : Nat → Prop} {H0 : Heap} {a1 index : Nat} (hexec : p.tables.exec = Jvm.exec) (hb : c.code = cc) (hml : c.maxLocals = mls.size) {own : String} (hown : s.vm.findClass own = some mth.cls) (hlink : (Cond.methodLink own index arraycopyName).before args s = true) (hnat : (Cond.native arraycopyName).before args s = true) (hstat : (Cond.static arraycopyName).before args s = true) (hini : (Cond.initialized "java/lang/System").before args s = true)
    (hK : va_K D gCl tys s) (hP : va_P D gCl ws H) (hD : va_D A ws) (hS : va_S A H0 H locs) (q0 q1 t0 t1 : Nat) {a0 : Nat} {c0 c1 : ClassId} {n0 n1 : Nat} {f g : Nat → Option Nat} {E0 E1 : String} (ha0 : ws[q0]? = some (a0, .inl (c0, n0, .inr (.inr (.inr (.inr f)))))) (ha1 : ws[q1]? = some (a1, .inl (c1, n1, .inr (.inr (.inr (.inr g)))))) (ht0 : tys[t0]? = some (c0, .object E0)) (ht1 : tys[t1]? = some (c1, .object E1))
    {sp dp n : Int32} (h1 : ¬ sp < 0) (h2 : ¬ dp < 0) (h3 : ¬ n < 0) (h4 : sp.toNatClampNeg + n.toNatClampNeg ≤ n0) (h5 : dp.toNatClampNeg + n.toNatClampNeg ≤ n1) (hel : ∀ i : Nat, i < n.toNatClampNeg → ∀ y : Nat, f (sp.toNatClampNeg + i) = some y → ∃ (cellV : Cell) (C : String), H[y]? = some cellV ∧ cellV.vm.isStatics = false ∧ s.vm.findClass C = some cellV.cls ∧ va_Nw (.castable C E1) s)
    (hframes : 1 ≤ R.frames) (hlocals : (rest.map fun v => v.category).sum + (nativeFrameWords "java/lang/System" "arraycopy" 5 + 11) ≤ R.locals) (hdg : decode cc pc = .ok (.invokestatic index, 3))
    (kk : ∀ (H1 : Heap) (locs1 : List Loc), va_P D gCl (ws.set q1 (a1, .inl (c1, n1, .inr (.inr (.inr (.inr (va_cpy f g sp.toNatClampNeg dp.toNatClampNeg n.toNatClampNeg))))))) H1 → va_D A (ws.set q1 (a1, .inl (c1, n1, .inr (.inr (.inr (.inr (va_cpy f g sp.toNatClampNeg dp.toNatClampNeg n.toNatClampNeg))))))) → va_S A H0 H1 locs1 → W p l e R s mth args below meth c H1 locs1 cells slots Q (F0 mth (pc + 3) mls rest)) : W p l e R s mth args below meth c H locs cells slots Q (F0 mth pc mls (.int n :: .int dp :: .ref a1 :: .int sp :: .ref a0 :: rest)) := by
  have nn : ∀ z : Int32, ¬ z < 0 → z.toInt = (z.toNatClampNeg : Int) := by
    intro z hz
    have hz0 : (0 : Int) ≤ z.toInt := by
      have := Int32.not_lt.mp hz
      simpa using Int32.le_iff_toInt_le.mp this
    show z.toInt = ((z.toInt.toNat : Nat) : Int)
    omega
  intro T hT X
  have hc0 : H[a0]? = some (vp_cell c0 (n0, .inr (.inr (.inr (.inr f))))) := hP q0 _ ha0
  have hc1 : H[a1]? = some (vp_cell c1 (n1, .inr (.inr (.inr (.inr g))))) := hP q1 _ ha1
  obtain ⟨-, k0, hk0, cm0, hkk0⟩ := (hK.2 t0 _ ht0).1 n0 (fun j => va_rf (f j))
  obtain ⟨-, k1, hk1, cm1, hkk1⟩ := (hK.2 t1 _ ht1).1 n1 (fun j => va_rf (g j))
  obtain ⟨vm', X', step⟩ := X.arraycopy hexec hown hlink hnat hstat hini (src := a0) (dst := a1) (cs := vp_cell c0 (n0, .inr (.inr (.inr (.inr f))))) (cd := vp_cell c1 (n1, .inr (.inr (.inr (.inr g))))) (srcPos := sp) (destPos := dp) (n := n) (by rw [hT]; exact hc0) (by rw [hT]; exact hc1)
    (fun _ h => by cases h) (fun _ h => by cases h) (fun h => by cases h) (fun h => by cases h) hk0 hk1 hkk0 hkk1 rfl h1 h2 h3
    (by rw [nn sp h1, nn n h3]; show ¬ _ > ((arrV c0 n0 (fun j => va_rf (f j))).slots.size : Int); rw [arrV_size]; omega)
    (by rw [nn dp h2, nn n h3]; show ¬ _ > ((arrV c1 n1 (fun j => va_rf (g j))).slots.size : Int); rw [arrV_size]; omega)
    (fun vm₁ hal i hi => by
      have e : (vp_cell c0 (n0, .inr (.inr (.inr (.inr f))))).slots.getD (sp.toNatClampNeg + i) .null = va_rf (f (sp.toNatClampNeg + i)) := by
        show (arrV c0 n0 (fun j => va_rf (f j))).slots.getD _ _ = _
        rw [Array.getD_eq_getD_getElem?, arrV_read _ _ (by omega)]
        rfl
      rw [e]
      cases hy : f (sp.toNatClampNeg + i) with
      | none => exact ⟨rfl, trivial⟩
      | some y =>
        obtain ⟨cellV, C, g1, g2, g3, hca⟩ := hel i hi y hy
        obtain ⟨kA, comp, r1, r2, r3, -⟩ := (hK.2 t1 _ ht1).2
        cases hk1.symm.trans r1
        cases hkk1.symm.trans r2
        obtain ⟨c9, t9, f1, f2, f3⟩ := Cond.castable_spec (va_Nw.use (A := args) rfl hca)
        have ec : cellV.cls = c9 := Option.some.inj (g3.symm.trans f1)
        have et : cm1 = t9 := Option.some.inj (r3.symm.trans f2)
        obtain ⟨kC, hkC, -⟩ := Vm.findClass_spec g3
        obtain ⟨kE, hkE, -⟩ := Vm.findClass_spec r3
        obtain ⟨kC', hkC', -⟩ := hal.2.2 _ _ hkC
        obtain ⟨kE', hkE', -⟩ := hal.2.2 _ _ hkE
        refine ⟨rfl, cellV, (show T.heap[y]? = some cellV by rw [hT]; exact g1), (fun q h => by rw [h] at g2; cases g2), ⟨kC', hkC'⟩, ?_, ?_⟩
        · exact ⟨kE', hkE'⟩
        · show vm₁.assignable _ _ = true
          rw [hal.assignable, ec, et]
          exact f3)
    (g := F0 mth pc mls (.int n :: .int dp :: .ref a1 :: .int sp :: .ref a0 :: rest)) rfl (by rw [hml]) (rest := rest) rfl (by rw [hb]; exact hdg) hframes (by show 2 * 0 + _ + _ ≤ _; omega)
  have e1 : copied (vp_cell c0 (n0, .inr (.inr (.inr (.inr f))))) (vp_cell c1 (n1, .inr (.inr (.inr (.inr g))))) sp dp n = vp_cell c1 (n1, .inr (.inr (.inr (.inr (va_cpy f g sp.toNatClampNeg dp.toNatClampNeg n.toNatClampNeg))))) := by
    rw [vp_cell_q, vp_cell_q, vp_cell_q]
    exact va_copied (fun z => va_rf z) c0 c1 f g h4
  rw [e1] at X' step
  have hl : a1 < H.size := (Array.getElem?_eq_some_iff.mp hc1).1
  have hheap : ((T.setVm vm').setCell a1 (vp_cell c1 (n1, .inr (.inr (.inr (.inr (va_cpy f g sp.toNatClampNeg dp.toNatClampNeg n.toNatClampNeg))))))).heap = H.setIfInBounds a1 (vp_cell c1 (n1, .inr (.inr (.inr (.inr (va_cpy f g sp.toNatClampNeg dp.toNatClampNeg n.toNatClampNeg)))))) := by rw [← hT]; rfl
  have oq : ∀ q : Nat, q ≠ a1 → (H.setIfInBounds a1 (vp_cell c1 (n1, .inr (.inr (.inr (.inr (va_cpy f g sp.toNatClampNeg dp.toNatClampNeg n.toNatClampNeg)))))))[q]? = H[q]? := fun q hq => by simp [Array.getElem?_setIfInBounds, Ne.symm hq]
  obtain ⟨t, a9, b9⟩ := kk _ _ (hP.set hD ha1 (show (H.setIfInBounds a1 _)[a1]? = some _ by simp [Array.getElem?_setIfInBounds, hl]) oq) (hD.set ha1) ⟨by simp; exact hS.1, fun q g1 g2 => by
      rw [oq q (fun e => g2 (by rw [e]; exact hD.2 q1 _ ha1))]
      exact hS.2.1 q g1 g2, fun q hq => by
      rcases List.mem_append.mp hq with h | h
      · exact hS.2.2 q h
      · obtain ⟨z, -, hz⟩ := List.mem_map.mp h
        rw [← hz]
        exact hD.2 q1 _ ha1⟩ _ hheap X'
  exact ⟨t, step t a9, b9⟩
/-- the bits of a float, by the machine's own method -/
theorem gFbits {cc : ByteArray} {rest : List Value} {index : Nat} {x : UInt32} (hexec : p.tables.exec = Jvm.exec) (hb : c.code = cc) (hml : c.maxLocals = mls.size) {own : String} (hown : s.vm.findClass own = some mth.cls) (hlink : (Cond.methodLink own index gFb).before args s = true) (hnat : (Cond.native gFb).before args s = true) (hstat : (Cond.static gFb).before args s = true) (hini : (Cond.initialized "java/lang/Float").before args s = true)
    (hframes : 1 ≤ R.frames) (hlocals : (rest.map fun v => v.category).sum + 14 ≤ R.locals) (hdg : decode cc pc = .ok (.invokestatic index, 3))
    (kk : W p l e R s mth args below meth c H locs cells slots Q (F0 mth (pc + 3) mls (.int x.toInt32 :: rest))) : W p l e R s mth args below meth c H locs cells slots Q (F0 mth pc mls (.float x :: rest)) := by
  intro T hT X
  subst hb
  obtain ⟨r, kF, methF, hnF, hmF, hkF, N⟩ := NativeOf.of_static hnat hstat (ps := [.float]) (ret := some .int) (by decide +kernel)
  have hinitF : kF.init = .initialized := Cond.initialized_spec (findClass_of_methodNamed hnF) hkF hini
  obtain ⟨vm', X', step⟩ := X.invokestatic hexec hown hlink hnF hmF N.static hkF hinitF (by decide) (g := F0 mth pc mls (.float x :: rest)) rfl (argsL := [.float x]) (rest := rest) (by rw [N.sig]; rfl) rfl hdg
  obtain ⟨kF', N'⟩ := N.alike X'.warmed.alike
  obtain ⟨t, a1, b1⟩ := kk (T.setVm vm') hT X'
  refine ⟨t, step t fun acts => ?_, b1⟩
  have hw : nativeFrameWords "java/lang/Float" "floatToRawIntBits" 1 = 3 := by decide
  exact Steps.floatToRawIntBitsOf (g := F0 mth pc mls rest) (ig := .invokestatic index) (len := 3) p X'.here acts N' x
    (X'.notFull (g := F0 mth pc mls rest) (by rw [hml]) (vars := nativeFrameWords "java/lang/Float" "floatToRawIntBits" 1) hframes (by rw [hw]; show 2 * 0 + (rest.map fun v => v.category).sum + (3 + 11) ≤ _; omega)) hdg a1
theorem gp_sp (HL : gLf sL D ex sc aL) (F : gFr sL m p s mth meth c) (hd : decode (gB m) pc = .ok (.invokespecial z, 3)) (h9 : 900 ≤ a) (hres : gRes m pc (.invokespecial z, 3, a, b) hp = true) (hs : gPrim a st h = some r) (hRf : 20 ≤ R.frames) (hRl : 400 ≤ R.locals)
    (P : gPt sL.heap.size D ex h0 s (gMx m) ls st h ads H locs cells slots mls mst) (kk : gKk sL D ex m p l e R s mth args below meth c Q h0 ads (pc + 3, ls, r.1, r.2)) : W p l e R s mth args below meth c H locs cells slots Q (F0 mth pc mls mst) := by
  obtain ⟨hx, hb, hml, hown, hret, hlk, hnm, hO⟩ := F
  obtain ⟨hH, hS, hLo, hst, hc, hsl⟩ := P
  simp only [gRes, if_pos h9] at hres
  unfold gPrim at hs
  split at hs
  · rename_i x st1
    split at hs
    · rename_i h8
      cases hs
      obtain ⟨a9, m1, ha, rfl, h1⟩ := gRs_r hst
      simp only [Bool.and_eq_true] at hres
      obtain ⟨⟨w1, w2⟩, w3⟩ := hres
      refine W.objInit hx hb hown (gw_at hO.1 HL.1 (gW_in w1) rfl _) (gw_at hO.1 HL.1 (gW_in w2) rfl _) (gw_at hO.1 HL.1 (gW_in w3) rfl _) (g := F0 mth pc mls (.ref a9 :: m1)) rfl (by rw [hml]; exact hLo.2.1) rfl hd (by omega) (by rw [gRs_sum h1]; show 2 * 0 + _ + 12 ≤ _; omega) ?_
      exact kk ads H locs cells slots mls _ ⟨[], (List.append_nil _).symm⟩ ⟨hH, hS, hLo, h1, hc, hsl⟩
    · cases hs
  all_goals first
    | (cases hs; done)
    | (simp at hres; done)
theorem gp_st (HL : gLf sL D ex sc aL) (F : gFr sL m p s mth meth c) (hd : decode (gB m) pc = .ok (.invokestatic z, 3)) (h9 : 900 ≤ a) (hres : gRes m pc (.invokestatic z, 3, a, b) hp = true) (hs : gPrim a st h = some r) (hRf : 20 ≤ R.frames) (hRl : 400 ≤ R.locals)
    (P : gPt sL.heap.size D ex h0 s (gMx m) ls st h ads H locs cells slots mls mst) (kk : gKk sL D ex m p l e R s mth args below meth c Q h0 ads (pc + 3, ls, r.1, r.2)) : W p l e R s mth args below meth c H locs cells slots Q (F0 mth pc mls mst) := by
  obtain ⟨hx, hb, hml, hown, hret, hlk, hnm, hO⟩ := F
  obtain ⟨hH, hS, hLo, hst, hc, hsl⟩ := P
  simp only [gRes, if_pos h9] at hres
  unfold gPrim at hs
  split at hs
  · simp at hres
  · rename_i n9 dp d9 sp o9 st1
    split at hs
    · rename_i ty n0 f ty1 n1 g hq0 hq1
      split at hs
      · rename_i hcon
        obtain ⟨rfl, rfl, c1, c2, c3, c4, c5, c6, c7⟩ := hcon
        cases hs
        obtain ⟨m1, rfl, g1⟩ := gRs_i hst
        obtain ⟨m2, rfl, g2⟩ := gRs_i g1
        obtain ⟨a1, m3, ha1, rfl, g3⟩ := gRs_r g2
        obtain ⟨m4, rfl, g4⟩ := gRs_i g3
        obtain ⟨a0, m5, ha0, rfl, g5⟩ := gRs_r g4
        obtain ⟨ws, tys, hads, hP, hD, hK, hlen, hcor⟩ := id hH
        obtain ⟨e0, he0, cA0, t0, f', rfl, ht0, hf0⟩ := gCell (B := 0) (D := D) hads hcor ha0 hq0
        obtain ⟨e1, he1, cA1, t1, g', rfl, ht1, hg1⟩ := gCell (B := 0) (D := D) hads hcor ha1 hq1
        simp only [Bool.and_eq_true] at hres
        obtain ⟨⟨⟨w1, w2⟩, w3⟩, w4⟩ := hres
        refine gCopyq hx hb (by rw [hml]; exact hLo.2.1.symm) hown (gw_at hO.1 HL.1 (gW_in w1) rfl _) (gw_at hO.1 HL.1 (gW_in w2) rfl _) (gw_at hO.1 HL.1 (gW_in w3) rfl _) (gw_at hO.1 HL.1 (gW_in w4) rfl _) hK hP hD hS o9 d9 t0 t1 he0 he1 ht0 ht1 c1 c2 c3 c4 c5 (fun i hi y hy => ?_) (by omega) ?_ hd (fun H1 locs1 hP1 hD1 hS1 => ?_)
        · have h7 := List.all_eq_true.mp c7 i (List.mem_range.mpr hi)
          have hro := hf0 (sp.toNatClampNeg + i)
          rw [hy] at hro
          cases hfi : f (sp.toNatClampNeg + i) with
          | none => rw [hfi] at hro; cases hro
          | some k =>
            rw [hfi] at hro h7
            obtain ⟨y', hy', e9⟩ := hro
            cases e9
            unfold gObj at h7
            simp only at h7
            split at h7
            · rename_i x9 hq9
              obtain ⟨ci, fs⟩ := x9
              obtain ⟨e9, he9, fs', rfl, hfs⟩ := gCell (B := 0) (D := D) hads hcor hy' hq9
              obtain ⟨q9, hcl, -⟩ := hP _ _ he9
              obtain ⟨cell, k1, k2, k3⟩ := va_recv hK hP hcl he9
              exact ⟨cell, q9.1, k1, k2, k3, va_Nw.warmC hO.1 (va_Nw.of rfl (HL.1 _ (gCasA_at hcl)))⟩
            · cases h7
        · rw [gRs_sum g5]
          have hw : nativeFrameWords "java/lang/System" "arraycopy" 5 ≤ 100 := by decide
          omega
        · refine kk ads H1 locs1 cells slots mls _ ⟨[], (List.append_nil _).symm⟩ ⟨gHp_put hads hlen hcor he1 ⟨cA1, t1, _, rfl, ht1, fun i => ?_⟩ hP1 hD1 hK, hS1, hLo, g5, hc, hsl⟩
          unfold va_cpy
          split
          · exact hf0 _
          · exact hg1 _
      · cases hs
    · cases hs
  · simp at hres
  · simp at hres
  · rename_i x st1
    split at hs
    · rename_i h8
      cases hs
      obtain ⟨m1, rfl, h1⟩ := gRs_f hst
      simp only [Bool.and_eq_true] at hres
      obtain ⟨⟨⟨w1, w2⟩, w3⟩, w4⟩ := hres
      refine gFbits hx hb (by rw [hml]; exact hLo.2.1.symm) hown (gw_at hO.1 HL.1 (gW_in w1) rfl _) (gw_at hO.1 HL.1 (gW_in w2) rfl _) (gw_at hO.1 HL.1 (gW_in w3) rfl _) (gw_at hO.1 HL.1 (gW_in w4) rfl _) (by omega) (by rw [gRs_sum h1]; omega) hd ?_
      exact kk ads H locs cells slots mls _ ⟨[], (List.append_nil _).symm⟩ ⟨hH, hS, hLo, ⟨_, m1, rfl, rfl, h1⟩, hc, hsl⟩
    · cases hs
  · cases hs
theorem gp_vi (HL : gLf sL D ex sc aL) (HT : gTx sL ex) (F : gFr sL m p s mth meth c) (hd : decode (gB m) pc = .ok (.invokevirtual z, 3)) (h9 : 900 ≤ a) (hres : gRes m pc (.invokevirtual z, 3, a, b) hp = true) (hs : gPrim a st h = some r) (hRf : 20 ≤ R.frames) (hRl : 400 ≤ R.locals) (hroom : cells ≤ R.cells ∧ slots ≤ R.slots)
    (P : gPt sL.heap.size D ex h0 s (gMx m) ls st h ads H locs cells slots mls mst) (kk : gKk sL D ex m p l e R s mth args below meth c Q h0 ads (pc + 3, ls, r.1, r.2)) : W p l e R s mth args below meth c H locs cells slots Q (F0 mth pc mls mst) := by
  obtain ⟨hx, hb, hml, hown, hret, hlk, hnm, hO⟩ := F
  obtain ⟨hH, hS, hLo, hst, hc, hsl⟩ := P
  simp only [gRes, if_pos h9] at hres
  unfold gPrim at hs
  split at hs
  · simp at hres
  · simp at hres
  · rename_i r9 st1
    split at hs
    · rename_i ty n f hq
      split at hs
      · rename_i hcon
        obtain ⟨rfl, h8⟩ := hcon
        cases hs
        obtain ⟨a9, m1, ha, rfl, h1⟩ := gRs_r hst
        obtain ⟨ws, tys, hads, hP, hD, hK, hlen, hcor⟩ := id hH
        obtain ⟨e9, he, cA, t, g, rfl, ht, hg⟩ := gCell (B := 0) (D := D) hads hcor ha hq
        simp only [Bool.and_eq_true] at hres
        obtain ⟨⟨⟨⟨w1, w2⟩, w3⟩, w4⟩, w5⟩ := hres
        refine va_getC (C := "[Ljava/lang/Object;") (mi := ex 3) hx hb (by rw [hml]; exact hLo.2.1.symm) hown (gw_at hO.1 HL.1 (gW_in w1) rfl _) (va_Dc.use (va_Dc.moved hO.1.alike (va_Dc.of (HL.1 _ (gW_in w2))))) (gw_at hO.1 HL.1 (gW_in w3) rfl _) (gw_at hO.1 HL.1 (gW_in w4) rfl _) (gw_at hO.1 HL.1 (gW_in w5) rfl _) (va_Mi.moved hO.1.alike HL.2.2.2.2.2.2) ⟨_, hP r9 _ he, rfl, va_nmO (hK.2 t _ ht).2 rfl⟩ (by omega) (by rw [gRs_sum h1]; omega) hd ?_
        exact kk ads H locs cells slots mls _ ⟨[], (List.append_nil _).symm⟩ ⟨hH, hS, hLo, ⟨_, m1, rfl, ⟨by omega, rfl⟩, h1⟩, hc, hsl⟩
      · cases hs
    · cases hs
  · rename_i i9 st1
    split at hs
    · rename_i h8
      obtain ⟨m0, rfl, h0'⟩ := gRs_i hst
      obtain ⟨m1, -, rfl, h1⟩ := gRs_e h0'
      have hgo : ∀ hi : i9 = 0 ∨ i9 = 1 ∨ i9 = 2, r = (.int (gPl i9.toNatClampNeg) :: st1, h) → W p l e R s mth args below meth c H locs cells slots Q (F0 mth pc mls (.int i9 :: .ref (ex 1) :: m1)) := by
        intro hi hr
        have hHT := HT
        obtain ⟨vb, hob, -, -, -, -, -⟩ := hHT
        have hob9 := ((va_O.moved hO.1.alike hob).kept (fun q hq _ => hO.2.2 q hq)).kept hS.2.1
        have hcell : ∃ cellB : Cell, H[ex 1]? = some cellB ∧ cellB.vm.isStatics = false ∧ s.vm.findClass "java/lang/String" = some cellB.cls := by
          obtain ⟨cell, q1, q2, q3, -⟩ := hob9
          exact ⟨cell, q1, q2, q3⟩
        have w1 : gW hp 0 (.methodLink (gY m).cls z ⟨"java/lang/String", "charAt", "(I)C"⟩) = true := by simpa using hres
        refine gpCallV (av := [.int i9]) (rest := m1) (C := "java/lang/String") HL.1 hO hx hb hown gk_cha_code gk_ini_String gk_cha_inst gk_cha_sel (gW_in w1) (by decide) (by show _ = some (1 : Nat); decide +kernel) (gp_cha l HL.1 HT hi) (by decide) (by omega) (by omega) (by rw [hml]; exact hLo.2.1) hS (fun q hq => hq) hcell (by rw [gRs_sum h1]; exact h8) hd hroom (fun H1 locs1 z1 k1 hS1 => ?_)
        refine kk ads H1 locs1 cells slots mls _ ⟨[], (List.append_nil _).symm⟩ ?_
        rw [hr]
        exact ⟨gHp_keep hH k1, hS1, hLo, ⟨_, m1, rfl, rfl, h1⟩, hc, hsl⟩
      split at hs
      · rename_i e0
        cases hs
        exact hgo (Or.inl e0) (by rw [e0]; rfl)
      · split at hs
        · rename_i e0
          cases hs
          exact hgo (Or.inr (Or.inl e0)) (by rw [e0]; rfl)
        · split at hs
          · rename_i e0
            cases hs
            exact hgo (Or.inr (Or.inr e0)) (by rw [e0]; rfl)
          · cases hs
    · cases hs
  · simp at hres
  · cases hs
end PRIM
