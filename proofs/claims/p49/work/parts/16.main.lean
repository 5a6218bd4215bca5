section MAIN
/-- THE INTERPRETER IS RIGHT, for runs of n steps: from a point of a frame the machine comes to the method's end, as the interpreter tells it -/
def gP (sL : State) (D : va_G) (ex : Nat → Nat) (sc : gSc) (l : Launch) (n : Nat) : Prop :=
  ∀ (d m pc : Nat) (ls : gL) (st : List Value) (h : gH) (o : gO) (hE : gH), gRun sc n d m pc ls st h = some (o, hE) →
  ∀ (p : Program) (e : Env) (s : State) (mth : MethodId) (args : Array Value) (below : List Frame) (meth : Method) (c : Code) (h0 : gH) (ads0 x0 : List Nat) (H : Heap) (locs : List Loc) (cells slots : Nat) (mls : Array Slot) (mst : List Value),
  gFr sL m p s mth meth c → c.exceptionTable.toList = tableOf (gTb m) → gPt sL.heap.size D ex h0 s (gMx m) ls st h (ads0 ++ x0) H locs cells slots mls mst →
  W p l e (gRm d (hE.1 - h0.1) (hE.2.1 - h0.2.1)) s mth args below meth c H locs cells slots (vx_MQ below (gQo sL D ex ads0 o hE) (gXo sL D ex ads0 o hE) args s (hE.1 - h0.1) (hE.2.1 - h0.2.1) (fun q => sL.heap.size ≤ q)) (F0 mth pc mls mst)
variable {sL : State} {D : va_G} {ex : Nat → Nat} {sc : gSc} {aL : Array Value} {l : Launch}
theorem gLg_len {ads : List Nat} : ∀ {l m : List Value}, gRs ads ex l m → (lg_sl m).length = m.length
  | [], _, h => by cases (show _ = [] from h); rfl
  | v :: l, _, h => by
    obtain ⟨w, l', rfl, h1, h2⟩ := h
    have hc := gR_cat h1
    have ih := gLg_len h2
    simp only [lg_sl, List.flatMap_cons, List.length_append, List.length_cons] at ih ⊢
    rw [hc, ih]
    simp
    omega
theorem gLv_args {ads : List Nat} : ∀ {l m : List Value} (j i : Nat) (w : Value), gRs ads ex l m → m[i]? = some w → (j + i, w) ∈ lv_args j m
  | [], _, j, i, w, h, hw => by cases (show _ = [] from h); simp at hw
  | v :: l, _, j, i, w, h, hw => by
    obtain ⟨w0, l', rfl, h1, h2⟩ := h
    have hc := gR_cat h1
    have e : lv_args j (w0 :: l') = (j, w0) :: lv_args (j + 1) l' := by
      show (j, w0) :: lv_args (if w0.category = 2 then j + 2 else j + 1) l' = _
      rw [hc]
      rfl
    rw [e]
    cases i with
    | zero =>
      cases (show some w0 = some w from by simpa using hw)
      exact List.mem_cons_self
    | succ i =>
      refine List.mem_cons_of_mem _ ?_
      rw [show j + (i + 1) = j + 1 + i by omega]
      exact gLv_args (j + 1) i w h2 (by simpa using hw)
theorem gStart_at {a : Nat} {av : List Value} {i : Nat} {v : Value} (h : (gStart a av)[i]? = some (some v)) : av[i]? = some v := by
  unfold gStart at h
  by_cases hi : i < (av.map some).length
  · rw [List.getElem?_append_left hi, List.getElem?_map] at h
    cases hv : av[i]? with
    | none => rw [hv] at h; cases h
    | some w =>
      rw [hv] at h
      cases h
      rfl
  · rw [List.getElem?_append_right (by omega), List.getElem?_replicate] at h
    split at h <;> cases h
theorem gM_of {n : Nat} (hP : gP sL D ex sc l n) {d a : Nat} {av : List Value} {h : gH} {o : gO} {hE : gH} {ads : List Nat} (hrun : gRun sc n d a 0 (gStart a av) [] h = some (o, hE)) (hlen : av.length ≤ gMx a) (hy : plainFor (gY a) = true) :
    vx_Met l (gY a) [gCodeW a] (gRm d (hE.1 - h.1) (hE.2.1 - h.2.1)) (gPc sL D ex av h ads) (gQo sL D ex ads o hE) (gXo sL D ex ads o hE) (hE.1 - h.1) (hE.2.1 - h.2.1) (fun q => sL.heap.size ≤ q) := by
  refine gx_of hy (fun p e s m args below meth c hx hb hml hown hret hlk hnm hT hPc => ?_)
  obtain ⟨avl, rfl, hav, hO, hH⟩ := hPc
  have hll : avl.length = av.length := gRs_len hav
  have hl := lv_entry avl (n := gMx a) (by rw [gLg_len hav, hll]; exact hlen)
  rw [lg_entry_eq]
  generalize (lg_sl avl ++ List.replicate (gMx a - (lg_sl avl).length) Slot.unset).toArray = mls at hl ⊢
  refine hP d a 0 _ _ _ _ _ hrun p e s m _ below meth c h ads [] s.heap [] 0 0 mls [] ⟨hx, hb, hml, hown, hret, hlk, hnm, hO⟩ hT ⟨by rw [List.append_nil]; exact hH, va_S.rf, ⟨?_, hl.1, hl.2.1, fun i v hv => ?_⟩, rfl, by omega, by omega⟩
  · unfold gStart
    rw [List.length_append, List.length_map, List.length_replicate]
    omega
  · rw [List.append_nil]
    obtain ⟨w, h1, h2⟩ := gRs_at hav (gStart_at hv)
    have h3 := hl.2.2 _ (gLv_args 0 i w hav h1)
    rw [Nat.zero_add] at h3
    exact ⟨w, h3, h2⟩
section STEP
variable {m : Nat} {p : Program} {e : Env} {R : Room} {s : State} {mth : MethodId} {args : Array Value} {below : List Frame} {meth : Method} {c : Code} {Q : State → Prop}
variable {pc : Nat} {ls : gL} {st : List Value} {h h0 : gH} {r : gQ} {ads : List Nat} {H : Heap} {locs : List Loc} {cells slots : Nat} {mls : Array Slot} {mst : List Value} {hp : List Nat} {q : gI}
set_option maxHeartbeats 4000000 in
theorem gs_any (HL : gLf sL D ex sc aL) (F : gFr sL m p s mth meth c) (hd : decode (gB m) pc = .ok (q.1, q.2.1)) (hl : gLen q.1 q.2.1 = true) (hres : gRes m pc q hp = true) (hs : gStep sc q pc ls st h = some r)
    (P : gPt sL.heap.size D ex h0 s (gMx m) ls st h ads H locs cells slots mls mst) (hroom : r.2.2.2.1 ≤ h0.1 + R.cells ∧ r.2.2.2.2.1 ≤ h0.2.1 + R.slots) (kk : gKk sL D ex m p l e R s mth args below meth c Q h0 ads r) : W p l e R s mth args below meth c H locs cells slots Q (F0 mth pc mls mst) := by
  obtain ⟨i, len, a, b⟩ := q
  cases i with
    | aconst_null => exact gs_null HL F hd hl hres hs P kk
    | iconst x0 => exact gs_iconst HL F hd hl hres hs P kk
    | bipush x0 => exact gs_bipush HL F hd hl hres hs P kk
    | sipush x0 => exact gs_sipush HL F hd hl hres hs P kk
    | fconst x0 => exact gs_fconst HL F hd hl hres hs P kk
    | iload x0 => exact gs_iload HL F hd hl hres hs P kk
    | iload_n x0 => exact gs_iload_n HL F hd hl hres hs P kk
    | istore x0 => exact gs_istore HL F hd hl hres hs P kk
    | istore_n x0 => exact gs_istore_n HL F hd hl hres hs P kk
    | fload x0 => exact gs_fload HL F hd hl hres hs P kk
    | fload_n x0 => exact gs_fload_n HL F hd hl hres hs P kk
    | fstore x0 => exact gs_fstore HL F hd hl hres hs P kk
    | fstore_n x0 => exact gs_fstore_n HL F hd hl hres hs P kk
    | aload x0 => exact gs_aload HL F hd hl hres hs P kk
    | aload_n x0 => exact gs_aload_n HL F hd hl hres hs P kk
    | astore x0 => exact gs_astore HL F hd hl hres hs P kk
    | astore_n x0 => exact gs_astore_n HL F hd hl hres hs P kk
    | iinc x0 x1 => exact gs_iinc HL F hd hl hres hs P kk
    | iadd => exact gs_iadd HL F hd hl hres hs P kk
    | isub => exact gs_isub HL F hd hl hres hs P kk
    | imul => exact gs_imul HL F hd hl hres hs P kk
    | ixor => exact gs_ixor HL F hd hl hres hs P kk
    | ishl => exact gs_ishl HL F hd hl hres hs P kk
    | ishr => exact gs_ishr HL F hd hl hres hs P kk
    | iushr => exact gs_iushr HL F hd hl hres hs P kk
    | idiv => exact gs_idiv HL F hd hl hres hs P kk
    | irem => exact gs_irem HL F hd hl hres hs P kk
    | i2c => exact gs_i2c HL F hd hl hres hs P kk
    | i2f => exact gs_i2f HL F hd hl hres hs P kk
    | f2i => exact gs_f2i HL F hd hl hres hs P kk
    | fsub => exact gs_fsub HL F hd hl hres hs P kk
    | fmul => exact gs_fmul HL F hd hl hres hs P kk
    | fdiv => exact gs_fdiv HL F hd hl hres hs P kk
    | fcmp x0 => exact gs_fcmp HL F hd hl hres hs P kk
    | dup => exact gs_dup HL F hd hl hres hs P kk
    | pop => exact gs_pop HL F hd hl hres hs P kk
    | dup_x1 => exact gs_dup_x1 HL F hd hl hres hs P kk
    | dup2 => exact gs_dup2 HL F hd hl hres hs P kk
    | goto x0 => exact gs_goto HL F hd hl hres hs P kk
    | ifCond x0 x1 => exact gs_ifCond HL F hd hl hres hs P kk
    | if_icmp x0 x1 => exact gs_if_icmp HL F hd hl hres hs P kk
    | ifnull x0 => exact gs_ifnull HL F hd hl hres hs P kk
    | ifnonnull x0 => exact gs_ifnonnull HL F hd hl hres hs P kk
    | tableswitch x0 x1 x2 x3 => exact gs_tableswitch HL F hd hres hs P kk
    | lookupswitch x0 x1 => exact gs_lookupswitch HL F hd hres hs P kk
    | getfield x0 => exact gs_getfield HL F hd hl hres hs P kk
    | putfield x0 => exact gs_putfield HL F hd hl hres hs P kk
    | getstatic x0 => exact gs_getstatic HL F hd hl hres hs P kk
    | new x0 => exact gs_new HL F hd hl hres hs P hroom kk
    | if_acmp x0 x1 => exact gs_if_acmp HL F hd hl hres hs P kk
    | ldc x0 => exact gs_ldc HL F hd hl hres hs P kk
    | ldc_w x0 => exact gs_ldc_w HL F hd hl hres hs P kk
    | newarray x0 => exact gs_newarray HL F hd hl hres hs P hroom kk
    | anewarray x0 => exact gs_anewarray HL F hd hl hres hs P hroom kk
    | checkcast x0 => exact gs_checkcast HL F hd hl hres hs P kk
    | arraylength => exact gs_arraylength HL F hd hl hres hs P kk
    | iaload => exact gs_iaload HL F hd hl hres hs P kk
    | baload => exact gs_baload HL F hd hl hres hs P kk
    | caload => exact gs_caload HL F hd hl hres hs P kk
    | iastore => exact gs_iastore HL F hd hl hres hs P kk
    | bastore => exact gs_bastore HL F hd hl hres hs P kk
    | castore => exact gs_castore HL F hd hl hres hs P kk
    | aaload => exact gs_aaload HL F hd hl hres hs P kk
    | aastore => exact gs_aastore HL F hd hl hres hs P kk
    | _ => exact absurd hs (by simp [gStep])
end STEP
section ENDS
variable {m : Nat} {p : Program} {e : Env} {s : State} {mth : MethodId} {args : Array Value} {below : List Frame} {meth : Method} {c : Code}
variable {d pc : Nat} {ls : gL} {st : List Value} {h h0 : gH} {ads0 x0 : List Nat} {H : Heap} {locs : List Loc} {cells slots : Nat} {mls : Array Slot} {mst : List Value}
theorem gRet_v {v : Value} {w : Value} (F : gFr sL m p s mth meth c) (P : gPt sL.heap.size D ex h0 s (gMx m) ls st h (ads0 ++ x0) H locs cells slots mls mst) (hw : gR (ads0 ++ x0) ex v w) (t : State) (ht : t.heap = H) (hW : s.WarmedH t.vm) : gQo sL D ex ads0 (.inl (some v)) h args s (.returned (some w)) t := by
  obtain ⟨hH, hS, hLo, hst, hc, hsl⟩ := P
  exact ⟨x0, some w, rfl, ⟨w, rfl, hw⟩, by rw [ht]; exact gHp_moved hW.alike hH, hS.F ht⟩
theorem gEnd_i {x : Int32} (F : gFr sL m p s mth meth c) (hd : decode (gB m) pc = .ok (.ireturn, 1)) (hr : gRetOk m (.int x) = true) (P : gPt sL.heap.size D ex h0 s (gMx m) ls [.int x] h (ads0 ++ x0) H locs cells slots mls mst) :
    W p l e (gRm d (h.1 - h0.1) (h.2.1 - h0.2.1)) s mth args below meth c H locs cells slots (vx_MQ below (gQo sL D ex ads0 (.inl (some (.int x))) h) (gXo sL D ex ads0 (.inl (some (.int x))) h) args s (h.1 - h0.1) (h.2.1 - h0.2.1) (fun q => sL.heap.size ≤ q)) (F0 mth pc mls mst) := by
  have hq := fun w hw => gRet_v (args := args) (v := .int x) (w := w) F P hw
  obtain ⟨hx, hb, hml, hown, hret, hlk, hnm, hO⟩ := F
  obtain ⟨hH, hS, hLo, hst, hc, hsl⟩ := P
  obtain ⟨m1, rfl, h1⟩ := gRs_i hst
  cases (show m1 = [] from h1)
  have e1 : h.1 - h0.1 = cells := by omega
  have e2 : h.2.1 - h0.2.1 = slots := by omega
  rw [e1, e2]
  refine vx_ret ?_
  unfold gRetOk at hr
  split at hr
  · rename_i y e3 e4
    exact W.iret hx hb (hret.trans e3) (fun t ht hW => hq _ rfl t ht hW) hS.2.2 hd hlk
  · rename_i y e3 e4
    cases e4
    refine W.zret hx hb (hret.trans e3) ?_ (fun t ht hW => hq _ rfl t ht hW) hS.2.2 hd hlk
    simp only [Bool.or_eq_true, beq_iff_eq] at hr
    rcases hr with rfl | rfl <;> decide
  all_goals first
    | (rename_i e3 e4; cases e4; done)
    | (rename_i y e3 e4; cases e4; done)
    | (rename_i y z e3 e4; cases e4; done)
    | (cases hr; done)
theorem gEnd_f {x : UInt32} (F : gFr sL m p s mth meth c) (hd : decode (gB m) pc = .ok (.freturn, 1)) (hr : gRetOk m (.float x) = true) (P : gPt sL.heap.size D ex h0 s (gMx m) ls [.float x] h (ads0 ++ x0) H locs cells slots mls mst) :
    W p l e (gRm d (h.1 - h0.1) (h.2.1 - h0.2.1)) s mth args below meth c H locs cells slots (vx_MQ below (gQo sL D ex ads0 (.inl (some (.float x))) h) (gXo sL D ex ads0 (.inl (some (.float x))) h) args s (h.1 - h0.1) (h.2.1 - h0.2.1) (fun q => sL.heap.size ≤ q)) (F0 mth pc mls mst) := by
  have hq := fun w hw => gRet_v (args := args) (v := .float x) (w := w) F P hw
  obtain ⟨hx, hb, hml, hown, hret, hlk, hnm, hO⟩ := F
  obtain ⟨hH, hS, hLo, hst, hc, hsl⟩ := P
  obtain ⟨m1, rfl, h1⟩ := gRs_f hst
  cases (show m1 = [] from h1)
  have e1 : h.1 - h0.1 = cells := by omega
  have e2 : h.2.1 - h0.2.1 = slots := by omega
  rw [e1, e2]
  refine vx_ret ?_
  unfold gRetOk at hr
  split at hr
  all_goals first
    | (rename_i y e3 e4; cases e4; exact W.fret hx hb (hret.trans e3) (fun t ht hW => hq _ rfl t ht hW) hS.2.2 hd hlk)
    | (rename_i e3 e4; cases e4; done)
    | (rename_i y e3 e4; cases e4; done)
    | (rename_i y z e3 e4; cases e4; done)
    | (cases hr; done)
theorem gRet_ref {v : Value} (hr : gRetOk m v = true) (ha : ∀ x, v ≠ .int x) (hf : ∀ x, v ≠ .float x) : ∃ rt, gRt m = some rt ∧ ((∃ n, rt = .object n) ∨ ∃ t, rt = .array t) ∧ (v = .null ∨ (∃ a, v = .ref a) ∨ ∃ j, v = .retAddr j) := by
  unfold gRetOk at hr
  split at hr
  · exact absurd rfl (ha _)
  · exact absurd rfl (ha _)
  · exact absurd rfl (hf _)
  · rename_i e3; exact ⟨_, e3, Or.inl ⟨_, rfl⟩, Or.inl rfl⟩
  · rename_i e3; exact ⟨_, e3, Or.inl ⟨_, rfl⟩, Or.inr (Or.inl ⟨_, rfl⟩)⟩
  · rename_i e3; exact ⟨_, e3, Or.inl ⟨_, rfl⟩, Or.inr (Or.inr ⟨_, rfl⟩)⟩
  · rename_i e3; exact ⟨_, e3, Or.inr ⟨_, rfl⟩, Or.inl rfl⟩
  · rename_i e3; exact ⟨_, e3, Or.inr ⟨_, rfl⟩, Or.inr (Or.inl ⟨_, rfl⟩)⟩
  · rename_i e3; exact ⟨_, e3, Or.inr ⟨_, rfl⟩, Or.inr (Or.inr ⟨_, rfl⟩)⟩
  · cases hr
theorem gEnd_a {v : Value} (F : gFr sL m p s mth meth c) (hd : decode (gB m) pc = .ok (.areturn, 1)) (hr : gRetOk m v = true) (ha : ∀ x, v ≠ .int x) (hf : ∀ x, v ≠ .float x) (P : gPt sL.heap.size D ex h0 s (gMx m) ls [v] h (ads0 ++ x0) H locs cells slots mls mst) :
    W p l e (gRm d (h.1 - h0.1) (h.2.1 - h0.2.1)) s mth args below meth c H locs cells slots (vx_MQ below (gQo sL D ex ads0 (.inl (some v)) h) (gXo sL D ex ads0 (.inl (some v)) h) args s (h.1 - h0.1) (h.2.1 - h0.2.1) (fun q => sL.heap.size ≤ q)) (F0 mth pc mls mst) := by
  have hq := fun w hw => gRet_v (args := args) (v := v) (w := w) F P hw
  obtain ⟨hx, hb, hml, hown, hret, hlk, hnm, hO⟩ := F
  obtain ⟨hH, hS, hLo, hst, hc, hsl⟩ := P
  obtain ⟨w, m1, rfl, hvw, h1⟩ := hst
  cases (show m1 = [] from h1)
  have e1 : h.1 - h0.1 = cells := by omega
  have e2 : h.2.1 - h0.2.1 = slots := by omega
  rw [e1, e2]
  refine vx_ret ?_
  obtain ⟨rt, k1, k2, k3⟩ := gRet_ref hr ha hf
  have k4 : w = .null ∨ ∃ a, w = .ref a := by
    rcases k3 with rfl | ⟨a, rfl⟩ | ⟨j, rfl⟩
    · exact Or.inl hvw
    · obtain ⟨a9, -, rfl⟩ := hvw
      exact Or.inr ⟨_, rfl⟩
    · obtain ⟨-, rfl⟩ := hvw
      exact Or.inr ⟨_, rfl⟩
  exact W.aret hx hb (hret.trans k1) k2 k4 (fun t ht hW => hq _ hvw t ht hW) hS.2.2 hd hlk
theorem gEnd_v (F : gFr sL m p s mth meth c) (hd : decode (gB m) pc = .ok (.return_, 1)) (hr : gRt m = none) (P : gPt sL.heap.size D ex h0 s (gMx m) ls [] h (ads0 ++ x0) H locs cells slots mls mst) :
    W p l e (gRm d (h.1 - h0.1) (h.2.1 - h0.2.1)) s mth args below meth c H locs cells slots (vx_MQ below (gQo sL D ex ads0 (.inl none) h) (gXo sL D ex ads0 (.inl none) h) args s (h.1 - h0.1) (h.2.1 - h0.2.1) (fun q => sL.heap.size ≤ q)) (F0 mth pc mls mst) := by
  obtain ⟨hx, hb, hml, hown, hret, hlk, hnm, hO⟩ := F
  obtain ⟨hH, hS, hLo, hst, hc, hsl⟩ := P
  cases (show mst = [] from hst)
  have e1 : h.1 - h0.1 = cells := by omega
  have e2 : h.2.1 - h0.2.1 = slots := by omega
  rw [e1, e2]
  refine vx_ret ?_
  exact W.vret hx hb (hret.trans hr) (fun t ht hW => ⟨x0, none, rfl, rfl, by rw [ht]; exact gHp_moved hW.alike hH, hS.F ht⟩) hS.2.2 hd hlk
end ENDS
theorem gPass_tb {m : Nat} (h : gPass m = true) : tableOf (gTb m) = [] := by
  unfold gPass at h
  rw [List.isEmpty_iff.mp h]
  rfl
/-- behind a call -/
theorem gBehind {n : Nat} (HL : gLf sL D ex sc aL) (HX : gLx sL l) (hP : gP sL D ex sc l n) {d m pc : Nat} {ls : gL} {rst : List Value} {h hc' : gH} {oc o : gO} {hE : gH} {thr : Bool}
    (hb : (∃ v, oc = .inl v ∧ gRun sc n d m (pc + 3) ls (v.toList ++ rst) hc' = some (o, hE)) ∨ (∃ E, oc = .inr E ∧ thr = true ∧ ((∃ hp k g, gHand m pc E = some (hp, k, g) ∧ gRun sc n d m g (ls.set k none) [] hc' = some (o, hE)) ∨ (gHand m pc E = none ∧ gPass m = true ∧ o = .inr E ∧ hE = hc'))))
    {p : Program} {e : Env} {s : State} {mth : MethodId} {args : Array Value} {below : List Frame} {meth : Method} {c : Code} {h0 : gH} {ads0 x0 : List Nat} {cells slots : Nat} {mls : Array Slot} {mrest : List Value}
    (F : gFr sL m p s mth meth c) (hT : c.exceptionTable.toList = tableOf (gTb m)) (hLo : gLo (ads0 ++ x0) ex ls mls (gMx m)) (hrst : gRs (ads0 ++ x0) ex rst mrest) (hc1 : hc'.1 = h0.1 + cells) (hc2 : hc'.2.1 = h0.2.1 + slots) :
    gKc sL D ex p l e (gRm d (hE.1 - h0.1) (hE.2.1 - h0.2.1)) s mth args below meth c (vx_MQ below (gQo sL D ex ads0 o hE) (gXo sL D ex ads0 o hE) args s (hE.1 - h0.1) (hE.2.1 - h0.2.1) (fun q => sL.heap.size ≤ q)) pc (ads0 ++ x0) oc hc' cells slots mls mrest := by
  refine ⟨fun v x w H1 locs1 e1 hvw hH1 hS1 => ?_, fun E x q ce H1 locs1 e1 hH1 hS1 hcell hv hcl => ?_⟩
  · rcases hb with ⟨v', e2, hrun⟩ | ⟨E, e2, -⟩
    · rw [e1] at e2
      cases e2
      refine hP _ _ _ _ _ _ _ _ hrun p e s mth args below meth c h0 ads0 (x0 ++ x) H1 locs1 cells slots mls _ F hT ⟨by rw [← List.append_assoc]; exact hH1, hS1, by rw [← List.append_assoc]; exact gLo_up x hLo, ?_, hc1, hc2⟩
      rw [← List.append_assoc]
      cases v with
      | none =>
        cases (show w = none from hvw)
        exact gRs_up x hrst
      | some v =>
        obtain ⟨w', rfl, hw'⟩ := hvw
        exact ⟨w', mrest, rfl, hw', gRs_up x hrst⟩
    · rw [e1] at e2
      cases e2
  · rcases hb with ⟨v', e2, -⟩ | ⟨E', e2, -, hb⟩
    · rw [e1] at e2
      cases e2
    · rw [e1] at e2
      cases e2
      rcases hb with ⟨hpc, k, g, hh, hrun⟩ | ⟨hh, hpass, rfl, rfl⟩
      · refine gCatch HL HX F hT hh hcell hv hcl hLo (fun mls' hLo' => ?_)
        exact hP _ _ _ _ _ _ _ _ hrun p e s mth args below meth c h0 ads0 (x0 ++ x) H1 locs1 cells slots mls' [] F hT ⟨by rw [← List.append_assoc]; exact hH1, hS1, by rw [← List.append_assoc]; exact gLo_up x hLo', rfl, hc1, hc2⟩
      · obtain ⟨hx, hbb, hml, hown, hret, hlk, hnm, hO⟩ := F
        rw [gPass_tb hpass] at hT
        refine vx_out (E := gEx E) (ce := ce) (by rw [hT]; intro z hz; cases hz) hlk hcell hv hcl (fun t ht hal => ⟨rfl, x0 ++ x, ?_, hS1.F ht⟩) hS1.2.2 (by omega) (by omega)
        rw [ht, ← List.append_assoc]
        exact gHp_moved hal hH1
theorem gP_zero : gP sL D ex sc l 0 := by
  intro d m pc ls st h o hE hr
  rw [gRun_zero] at hr
  cases hr
set_option maxHeartbeats 4000000 in
theorem gP_succ {n : Nat} (HL : gLf sL D ex sc aL) (HT : gTx sL ex) (HX : gLx sL l) (hP : gP sL D ex sc l n) : gP sL D ex sc l (n + 1) := by
  intro d m pc ls st h o hE hr p e s mth args below meth c h0 ads0 x0 H locs cells slots mls mst F hT P
  have hmono := gRun_mono sc (n + 1) _ _ _ _ _ _ _ _ hr
  have hc1 := P.2.2.2.2.1
  have hc2 := P.2.2.2.2.2
  have hLo := P.2.2.1
  have hst := P.2.2.2.1
  rw [gRun_succ] at hr
  have hkk : ∀ r : gQ, gRun sc n d m r.1 r.2.1 r.2.2.1 r.2.2.2 = some (o, hE) → gKk sL D ex m p l e (gRm d (hE.1 - h0.1) (hE.2.1 - h0.2.1)) s mth args below meth c (vx_MQ below (gQo sL D ex ads0 o hE) (gXo sL D ex ads0 o hE) args s (hE.1 - h0.1) (hE.2.1 - h0.2.1) (fun q => sL.heap.size ≤ q)) h0 (ads0 ++ x0) r := by
    intro r hrun ads' H' locs' cells' slots' mls' mst' hx P'
    obtain ⟨x, rfl⟩ := hx
    rw [List.append_assoc] at P'
    exact hP _ _ _ _ _ _ _ _ hrun p e s mth args below meth c h0 ads0 (x0 ++ x) H' locs' cells' slots' mls' mst' F hT P'
  have hst1 : ∀ (q : gI), gFetch m pc = some q → ∀ r : gQ, gStep sc q pc ls st h = some r → gRun sc n d m r.1 r.2.1 r.2.2.1 r.2.2.2 = some (o, hE) → W p l e (gRm d (hE.1 - h0.1) (hE.2.1 - h0.2.1)) s mth args below meth c H locs cells slots (vx_MQ below (gQo sL D ex ads0 o hE) (gXo sL D ex ads0 o hE) args s (hE.1 - h0.1) (hE.2.1 - h0.2.1) (fun q => sL.heap.size ≤ q)) (F0 mth pc mls mst) := by
    intro q hq r hs hrun
    obtain ⟨hp, hd, hl, hres⟩ := gFetch_ok hq
    have h2 := gRun_mono sc n _ _ _ _ _ _ _ _ hrun
    exact gs_any HL F hd hl hres hs P (by show _ ≤ h0.1 + (hE.1 - h0.1) ∧ _ ≤ h0.2.1 + (hE.2.1 - h0.2.1); omega) (hkk r hrun)
  unfold gStp at hr
  split at hr
  · cases hr
  · rename_i q hq
    obtain ⟨i, len, a, b⟩ := q
    obtain ⟨hp, hd, hl, hres⟩ := gFetch_ok hq
    simp only at hr hd hl
    split at hr
    · have e1 : len = 1 := by simpa [gLen] using hl
      subst e1
      split at hr
      · rename_i x
        split at hr
        · rename_i hok
          cases hr
          exact gEnd_i F hd hok P
        · cases hr
      · cases hr
    · have e1 : len = 1 := by simpa [gLen] using hl
      subst e1
      split at hr
      · rename_i x
        split at hr
        · rename_i hok
          cases hr
          exact gEnd_f F hd hok P
        · cases hr
      · cases hr
    · have e1 : len = 1 := by simpa [gLen] using hl
      subst e1
      split at hr
      · rename_i v
        split at hr
        · rename_i hok
          cases hr
          rw [Bool.and_eq_true] at hok
          exact gEnd_a F hd hok.1 (fun x hx => by
            rw [hx] at hok
            exact absurd hok.2 (by simp [gRefV])) (fun x hx => by
            rw [hx] at hok
            exact absurd hok.2 (by simp [gRefV])) P
        · cases hr
      · cases hr
    · have e1 : len = 1 := by simpa [gLen] using hl
      subst e1
      split at hr
      · split at hr
        · rename_i hok
          cases hr
          exact gEnd_v F hd hok P
        · cases hr
      · cases hr
    · split at hr
      · rename_i h1000
        split at hr
        · rename_i hcon
          obtain ⟨h8, hpass⟩ := hcon
          cases hr
          have e1 : len = 3 := by simpa [gLen] using hl
          subst e1
          simp only [gRes, if_pos h1000] at hres
          have hT' := hT
          rw [gPass_tb hpass] at hT'
          simp only at hmono
          refine gThrow HL HX F hT' hres hd P h8 (by show 20 ≤ d + 20; omega) (by show 400 ≤ 40 * d + 400; omega) (by show cells + 1 ≤ h.1 + 1 - h0.1; omega) (by show slots + 6 ≤ h.2.1 + 6 - h0.2.1; omega) (by show cells + 1 ≤ h.1 + 1 - h0.1; omega) (by show slots + 6 ≤ h.2.1 + 6 - h0.2.1; omega) (fun t hal hz hk => ⟨rfl, x0, ?_, ?_⟩)
          · exact gHp_keep (gHp_moved hal P.1) hk
          · exact ⟨Nat.le_trans P.2.1.1 hz, fun q h1 h2 => by
              rw [hk q (Nat.lt_of_lt_of_le h1 P.2.1.1)]
              exact P.2.1.2.1 q h1 h2⟩
        · cases hr
      · split at hr
        · rename_i r hs
          exact hst1 _ hq r hs hr
        · cases hr
    · rcases gCall_some hr with ⟨h9, r, hs, hrun⟩ | ⟨h9, hb1, hb2, -, hmx, d', rfl, oc, hc', hcal, hbeh⟩
      · have e1 : len = 3 := by simpa [gLen] using hl
        subst e1
        exact gp_st HL F hd h9 hres hs (by show 20 ≤ d + 20; omega) (by show 400 ≤ 40 * d + 400; omega) P (hkk (pc + 3, ls, r.1, r.2) hrun)
      · have e1 : len = 3 := by simpa [gLen] using hl
        subst e1
        simp only [gRes, if_neg (show ¬ 900 ≤ a by exact Nat.not_le.mpr h9), Bool.and_eq_true, decide_eq_true_eq] at hres
        have k1 := gRun_mono sc n _ _ _ _ _ _ _ _ hcal
        have hmx' : b ≤ gMx a := hmx
        have hb1' : b ≤ st.length := hb1
        have hl9 : (st.take b).reverse.length ≤ gMx a := by
          rw [List.length_reverse, List.length_take]
          omega
        have k2 : hc'.1 ≤ hE.1 ∧ hc'.2.1 ≤ hE.2.1 := by
          rcases hbeh with ⟨v, -, h5⟩ | ⟨E, -, -, ⟨_, _, _, -, h5⟩ | ⟨-, -, -, h5⟩⟩
          · exact gRun_mono sc n _ _ _ _ _ _ _ _ h5
          · exact gRun_mono sc n _ _ _ _ _ _ _ _ h5
          · rw [h5]
            exact ⟨Nat.le_refl _, Nat.le_refl _⟩
        obtain ⟨pk, hmok⟩ := gKnd_ok hres.1 (by decide)
        obtain ⟨a1, a2, a3, a4⟩ := gArgs hst hb1
        refine gCall_st HL F hres.1 hres.2 hd P (gM_of hP hcal hl9 (gMok_all hmok).1) hb1 hb2 rfl rfl (by show cells + (hc'.1 - h.1) ≤ hE.1 - h0.1 ∧ slots + (hc'.2.1 - h.2.1) ≤ hE.2.1 - h0.2.1; omega) ?_
        exact gBehind (h := h) HL HX hP hbeh F hT hLo a2 (by omega) (by omega)
    · rcases gCall_some hr with ⟨h9, r, hs, hrun⟩ | ⟨h9, hb1, hb2, hok, hmx, d', rfl, oc, hc', hcal, hbeh⟩
      · have e1 : len = 3 := by simpa [gLen] using hl
        subst e1
        exact gp_vi HL HT F hd h9 hres hs (by show 20 ≤ d + 20; omega) (by show 400 ≤ 40 * d + 400; omega) (by show cells ≤ hE.1 - h0.1 ∧ slots ≤ hE.2.1 - h0.2.1; omega) P (hkk (pc + 3, ls, r.1, r.2) hrun)
      · have e1 : len = 3 := by simpa [gLen] using hl
        subst e1
        simp only [gRes, if_neg (show ¬ 900 ≤ a by exact Nat.not_le.mpr h9), Bool.and_eq_true, decide_eq_true_eq] at hres
        have k1 := gRun_mono sc n _ _ _ _ _ _ _ _ hcal
        have hmx' : b ≤ gMx a := hmx
        have hb1' : b ≤ st.length := hb1
        have hl9 : (st.take b).reverse.length ≤ gMx a := by
          rw [List.length_reverse, List.length_take]
          omega
        have k2 : hc'.1 ≤ hE.1 ∧ hc'.2.1 ≤ hE.2.1 := by
          rcases hbeh with ⟨v, -, h5⟩ | ⟨E, -, -, ⟨_, _, _, -, h5⟩ | ⟨-, -, -, h5⟩⟩
          · exact gRun_mono sc n _ _ _ _ _ _ _ _ h5
          · exact gRun_mono sc n _ _ _ _ _ _ _ _ h5
          · rw [h5]
            exact ⟨Nat.le_refl _, Nat.le_refl _⟩
        obtain ⟨pk, hmok⟩ := gKnd_ok hres.1.2 (by decide)
        obtain ⟨a1, a2, a3, a4⟩ := gArgs hst hb1
        refine gCall_vi HL F hres.1.1 hres.1.2 hres.2 hd hok P (gM_of hP hcal hl9 (gMok_all hmok).1) hb1 hb2 rfl rfl (by show cells + (hc'.1 - h.1) ≤ hE.1 - h0.1 ∧ slots + (hc'.2.1 - h.2.1) ≤ hE.2.1 - h0.2.1; omega) ?_
        exact gBehind (h := h) HL HX hP hbeh F hT hLo a2 (by omega) (by omega)
    · rcases gCall_some hr with ⟨h9, r, hs, hrun⟩ | ⟨h9, hb1, hb2, hok, hmx, d', rfl, oc, hc', hcal, hbeh⟩
      · have e1 : len = 3 := by simpa [gLen] using hl
        subst e1
        exact gp_sp HL F hd h9 hres hs (by show 20 ≤ d + 20; omega) (by show 400 ≤ 40 * d + 400; omega) P (hkk (pc + 3, ls, r.1, r.2) hrun)
      · have e1 : len = 3 := by simpa [gLen] using hl
        subst e1
        simp only [gRes, if_neg (show ¬ 900 ≤ a by exact Nat.not_le.mpr h9), Bool.and_eq_true, Bool.or_eq_true, decide_eq_true_eq] at hres
        have k1 := gRun_mono sc n _ _ _ _ _ _ _ _ hcal
        have hmx' : b ≤ gMx a := hmx
        have hb1' : b ≤ st.length := hb1
        have hl9 : (st.take b).reverse.length ≤ gMx a := by
          rw [List.length_reverse, List.length_take]
          omega
        have k2 : hc'.1 ≤ hE.1 ∧ hc'.2.1 ≤ hE.2.1 := by
          rcases hbeh with ⟨v, -, h5⟩ | ⟨E, -, -, ⟨_, _, _, -, h5⟩ | ⟨-, -, -, h5⟩⟩
          · exact gRun_mono sc n _ _ _ _ _ _ _ _ h5
          · exact gRun_mono sc n _ _ _ _ _ _ _ _ h5
          · rw [h5]
            exact ⟨Nat.le_refl _, Nat.le_refl _⟩
        obtain ⟨pk, hmok⟩ := gKnd_ok hres.1.2 (by decide)
        obtain ⟨a1, a2, a3, a4⟩ := gArgs hst hb1
        have hbeh' := hbeh
        rcases hbeh' with ⟨v9, rfl, -⟩ | ⟨E, -, hthr, -⟩
        · refine gCall_sp HL F hres.1.1 hres.1.2 hres.2 hd hok P (gM_of hP hcal hl9 (gMok_all hmok).1) hb1 hb2 rfl rfl (by show cells + (hc'.1 - h.1) ≤ hE.1 - h0.1 ∧ slots + (hc'.2.1 - h.2.1) ≤ hE.2.1 - h0.2.1; omega) ?_
          exact gBehind (h := h) HL HX hP hbeh F hT hLo a2 (by omega) (by omega)
        · cases hthr
    · split at hr
      · rename_i r hs
        exact hst1 _ hq r hs hr
      · cases hr
/-- THE INTERPRETER IS RIGHT -/
theorem gP_all (HL : gLf sL D ex sc aL) (HT : gTx sL ex) (HX : gLx sL l) : ∀ n, gP sL D ex sc l n
  | 0 => gP_zero
  | n + 1 => gP_succ HL HT HX (gP_all HL HT HX n)
end MAIN
