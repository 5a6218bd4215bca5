/-- a frame of method m -/
def gFr (sL : State) (m : Nat) (p : Program) (s : State) (mth : MethodId) (meth : Method) (c : Code) : Prop :=
  p.tables.exec = Jvm.exec ∧ c.code = gB m ∧ c.maxLocals = gMx m ∧ s.vm.findClass (gY m).cls = some mth.cls ∧ meth.sig.returnType = gRt m ∧ meth.locks = false ∧ meth.name = (gY m).name ∧ gOld sL s s.heap
/-- a point of it -/
def gPt (B : Nat) (D : va_G) (ex : Nat → Nat) (h0 : gH) (s : State) (nL : Nat) (ls : gL) (st : List Value) (h : gH) (ads : List Nat) (H : Heap) (locs : List Loc) (cells slots : Nat) (mls : Array Slot) (mst : List Value) : Prop :=
  gHp B D ex ads h s H ∧ va_S (fun q => B ≤ q) s.heap H locs ∧ gLo ads ex ls mls nL ∧ gRs ads ex st mst ∧ h.1 = h0.1 + cells ∧ h.2.1 = h0.2.1 + slots
/-- what the law's start gives -/
def gLf (sL : State) (D : va_G) (ex : Nat → Nat) (sc : gSc) (aL : Array Value) : Prop :=
  (∀ w ∈ lw_tbl, w.before aL sL = true) ∧ va_X (ex 0) sc.1 sc.2 sL sL.heap ∧ ex 0 < sL.heap.size ∧ vk_R "StratumLedgeLaw" 199 "+><" (ex 1) sL ∧
  va_Z "java/util/ArrayList" "DEFAULTCAPACITY_EMPTY_ELEMENTDATA" "[Ljava/lang/Object;" (.ref (ex 2)) (fun q => sL.heap.size ≤ q) sL sL.heap ∧ va_T (.object "java/lang/Object") (ex 2) 0 (fun _ => .null) (fun q => sL.heap.size ≤ q) sL sL.heap ∧ va_Mi "[Ljava/lang/Object;" (ex 3) sL
section SND
variable {sL : State} {D : va_G} {ex : Nat → Nat} {sc : gSc} {aL : Array Value} {m : Nat} {p : Program} {l : Launch} {e : Env} {R : Room} {s : State} {mth : MethodId} {args : Array Value} {below : List Frame} {meth : Method} {c : Code} {Q : State → Prop}
variable {len a b pc : Nat} {ls : gL} {st : List Value} {h h0 : gH} {r : gQ} {ads : List Nat} {H : Heap} {locs : List Loc} {cells slots : Nat} {mls : Array Slot} {mst : List Value} {hp : List Nat}
/-- the walk goes on where the interpreter does -/
def gKk (sL : State) (D : va_G) (ex : Nat → Nat) (m : Nat) (p : Program) (l : Launch) (e : Env) (R : Room) (s : State) (mth : MethodId) (args : Array Value) (below : List Frame) (meth : Method) (c : Code) (Q : State → Prop) (h0 : gH) (ads : List Nat) (r : gQ) : Prop :=
  ∀ (ads' : List Nat) (H' : Heap) (locs' : List Loc) (cells' slots' : Nat) (mls' : Array Slot) (mst' : List Value), (∃ x, ads' = ads ++ x) → gPt sL.heap.size D ex h0 s (gMx m) r.2.1 r.2.2.1 r.2.2.2 ads' H' locs' cells' slots' mls' mst' →
    W p l e R s mth args below meth c H' locs' cells' slots' Q (F0 mth r.1 mls' mst')
theorem gw_at {w : Cond} (hW : sL.WarmedH s.vm) (hL : ∀ w ∈ lw_tbl, w.before aL sL = true) (hw : w ∈ lw_tbl) (hg : goodWord w = true) (a' : Array Value) : w.before a' s = true := word_at hW (good_of_word hg) (hL w hw)

theorem gs_null (HL : gLf sL D ex sc aL) (F : gFr sL m p s mth meth c) (hd : decode (gB m) pc = .ok (.aconst_null, len)) (hn : gLen (.aconst_null) len = true) (hres : gRes m pc (.aconst_null, len, a, b) hp = true) (hs : gStep sc (.aconst_null, len, a, b) pc ls st h = some r)
    (P : gPt sL.heap.size D ex h0 s (gMx m) ls st h ads H locs cells slots mls mst) (kk : gKk sL D ex m p l e R s mth args below meth c Q h0 ads r) : W p l e R s mth args below meth c H locs cells slots Q (F0 mth pc mls mst) := by
  obtain ⟨hx, hb, hml, hown, hret, hlk, hnm, hO⟩ := F
  obtain ⟨hH, hS, hLo, hst, hc, hsl⟩ := P
  have hn1 : len = 1 := by simpa [gLen] using hn
  subst hn1
  simp only [gStep] at hs
  cases hs
  refine lv_null hx hb hd ?_
  exact kk ads H locs cells slots mls _ ⟨[], (List.append_nil _).symm⟩ ⟨hH, hS, hLo, ⟨_, mst, rfl, rfl, hst⟩, hc, hsl⟩
theorem gs_iconst {z : Int} (HL : gLf sL D ex sc aL) (F : gFr sL m p s mth meth c) (hd : decode (gB m) pc = .ok (.iconst z, len)) (hn : gLen (.iconst z) len = true) (hres : gRes m pc (.iconst z, len, a, b) hp = true) (hs : gStep sc (.iconst z, len, a, b) pc ls st h = some r)
    (P : gPt sL.heap.size D ex h0 s (gMx m) ls st h ads H locs cells slots mls mst) (kk : gKk sL D ex m p l e R s mth args below meth c Q h0 ads r) : W p l e R s mth args below meth c H locs cells slots Q (F0 mth pc mls mst) := by
  obtain ⟨hx, hb, hml, hown, hret, hlk, hnm, hO⟩ := F
  obtain ⟨hH, hS, hLo, hst, hc, hsl⟩ := P
  have hn1 : len = 1 := by simpa [gLen] using hn
  subst hn1
  simp only [gStep] at hs
  cases hs
  refine lv_iconst hx hb hd rfl ?_
  exact kk ads H locs cells slots mls _ ⟨[], (List.append_nil _).symm⟩ ⟨hH, hS, hLo, ⟨_, mst, rfl, rfl, hst⟩, hc, hsl⟩
theorem gs_bipush {z : Int} (HL : gLf sL D ex sc aL) (F : gFr sL m p s mth meth c) (hd : decode (gB m) pc = .ok (.bipush z, len)) (hn : gLen (.bipush z) len = true) (hres : gRes m pc (.bipush z, len, a, b) hp = true) (hs : gStep sc (.bipush z, len, a, b) pc ls st h = some r)
    (P : gPt sL.heap.size D ex h0 s (gMx m) ls st h ads H locs cells slots mls mst) (kk : gKk sL D ex m p l e R s mth args below meth c Q h0 ads r) : W p l e R s mth args below meth c H locs cells slots Q (F0 mth pc mls mst) := by
  obtain ⟨hx, hb, hml, hown, hret, hlk, hnm, hO⟩ := F
  obtain ⟨hH, hS, hLo, hst, hc, hsl⟩ := P
  have hn1 : len = 2 := by simpa [gLen] using hn
  subst hn1
  simp only [gStep] at hs
  cases hs
  refine lv_bipush hx hb hd rfl ?_
  exact kk ads H locs cells slots mls _ ⟨[], (List.append_nil _).symm⟩ ⟨hH, hS, hLo, ⟨_, mst, rfl, rfl, hst⟩, hc, hsl⟩
theorem gs_sipush {z : Int} (HL : gLf sL D ex sc aL) (F : gFr sL m p s mth meth c) (hd : decode (gB m) pc = .ok (.sipush z, len)) (hn : gLen (.sipush z) len = true) (hres : gRes m pc (.sipush z, len, a, b) hp = true) (hs : gStep sc (.sipush z, len, a, b) pc ls st h = some r)
    (P : gPt sL.heap.size D ex h0 s (gMx m) ls st h ads H locs cells slots mls mst) (kk : gKk sL D ex m p l e R s mth args below meth c Q h0 ads r) : W p l e R s mth args below meth c H locs cells slots Q (F0 mth pc mls mst) := by
  obtain ⟨hx, hb, hml, hown, hret, hlk, hnm, hO⟩ := F
  obtain ⟨hH, hS, hLo, hst, hc, hsl⟩ := P
  have hn1 : len = 3 := by simpa [gLen] using hn
  subst hn1
  simp only [gStep] at hs
  cases hs
  refine lv_sipush hx hb hd rfl ?_
  exact kk ads H locs cells slots mls _ ⟨[], (List.append_nil _).symm⟩ ⟨hH, hS, hLo, ⟨_, mst, rfl, rfl, hst⟩, hc, hsl⟩
theorem gs_fconst {z : Fin 3} (HL : gLf sL D ex sc aL) (F : gFr sL m p s mth meth c) (hd : decode (gB m) pc = .ok (.fconst z, len)) (hn : gLen (.fconst z) len = true) (hres : gRes m pc (.fconst z, len, a, b) hp = true) (hs : gStep sc (.fconst z, len, a, b) pc ls st h = some r)
    (P : gPt sL.heap.size D ex h0 s (gMx m) ls st h ads H locs cells slots mls mst) (kk : gKk sL D ex m p l e R s mth args below meth c Q h0 ads r) : W p l e R s mth args below meth c H locs cells slots Q (F0 mth pc mls mst) := by
  obtain ⟨hx, hb, hml, hown, hret, hlk, hnm, hO⟩ := F
  obtain ⟨hH, hS, hLo, hst, hc, hsl⟩ := P
  have hn1 : len = 1 := by simpa [gLen] using hn
  subst hn1
  simp only [gStep] at hs
  obtain ⟨z, hz⟩ := z
  rcases z with _ | _ | _ | z
  · cases hs
    refine lv_fconst0 hx hb hd ?_
    exact kk ads H locs cells slots mls _ ⟨[], (List.append_nil _).symm⟩ ⟨hH, hS, hLo, ⟨_, mst, rfl, rfl, hst⟩, hc, hsl⟩
  · cases hs
    refine lv_fconst1 hx hb hd ?_
    exact kk ads H locs cells slots mls _ ⟨[], (List.append_nil _).symm⟩ ⟨hH, hS, hLo, ⟨_, mst, rfl, rfl, hst⟩, hc, hsl⟩
  · cases hs
    refine lv_fconst2 hx hb hd ?_
    exact kk ads H locs cells slots mls _ ⟨[], (List.append_nil _).symm⟩ ⟨hH, hS, hLo, ⟨_, mst, rfl, rfl, hst⟩, hc, hsl⟩
  · omega
theorem gs_iload {z : Nat} (HL : gLf sL D ex sc aL) (F : gFr sL m p s mth meth c) (hd : decode (gB m) pc = .ok (.iload z, len)) (hn : gLen (.iload z) len = true) (hres : gRes m pc (.iload z, len, a, b) hp = true) (hs : gStep sc (.iload z, len, a, b) pc ls st h = some r)
    (P : gPt sL.heap.size D ex h0 s (gMx m) ls st h ads H locs cells slots mls mst) (kk : gKk sL D ex m p l e R s mth args below meth c Q h0 ads r) : W p l e R s mth args below meth c H locs cells slots Q (F0 mth pc mls mst) := by
  obtain ⟨hx, hb, hml, hown, hret, hlk, hnm, hO⟩ := F
  obtain ⟨hH, hS, hLo, hst, hc, hsl⟩ := P
  have hn1 : len = 2 := by simpa [gLen] using hn
  subst hn1
  simp only [gStep] at hs
  split at hs
  · rename_i x hq
    cases hs
    obtain ⟨w, hw, hwr⟩ := gLo_at hLo hq
    cases (show w = .int x from hwr)
    refine lv_iload hx hb hd hw ?_
    exact kk ads H locs cells slots mls _ ⟨[], (List.append_nil _).symm⟩ ⟨hH, hS, hLo, ⟨_, mst, rfl, rfl, hst⟩, hc, hsl⟩
  · cases hs
theorem gs_iload_n {z : Fin 4} (HL : gLf sL D ex sc aL) (F : gFr sL m p s mth meth c) (hd : decode (gB m) pc = .ok (.iload_n z, len)) (hn : gLen (.iload_n z) len = true) (hres : gRes m pc (.iload_n z, len, a, b) hp = true) (hs : gStep sc (.iload_n z, len, a, b) pc ls st h = some r)
    (P : gPt sL.heap.size D ex h0 s (gMx m) ls st h ads H locs cells slots mls mst) (kk : gKk sL D ex m p l e R s mth args below meth c Q h0 ads r) : W p l e R s mth args below meth c H locs cells slots Q (F0 mth pc mls mst) := by
  obtain ⟨hx, hb, hml, hown, hret, hlk, hnm, hO⟩ := F
  obtain ⟨hH, hS, hLo, hst, hc, hsl⟩ := P
  have hn1 : len = 1 := by simpa [gLen] using hn
  subst hn1
  simp only [gStep] at hs
  split at hs
  · rename_i x hq
    cases hs
    obtain ⟨w, hw, hwr⟩ := gLo_at hLo hq
    cases (show w = .int x from hwr)
    refine lv_iload_n hx hb hd rfl hw ?_
    exact kk ads H locs cells slots mls _ ⟨[], (List.append_nil _).symm⟩ ⟨hH, hS, hLo, ⟨_, mst, rfl, rfl, hst⟩, hc, hsl⟩
  · cases hs
theorem gs_istore {z : Nat} (HL : gLf sL D ex sc aL) (F : gFr sL m p s mth meth c) (hd : decode (gB m) pc = .ok (.istore z, len)) (hn : gLen (.istore z) len = true) (hres : gRes m pc (.istore z, len, a, b) hp = true) (hs : gStep sc (.istore z, len, a, b) pc ls st h = some r)
    (P : gPt sL.heap.size D ex h0 s (gMx m) ls st h ads H locs cells slots mls mst) (kk : gKk sL D ex m p l e R s mth args below meth c Q h0 ads r) : W p l e R s mth args below meth c H locs cells slots Q (F0 mth pc mls mst) := by
  obtain ⟨hx, hb, hml, hown, hret, hlk, hnm, hO⟩ := F
  obtain ⟨hH, hS, hLo, hst, hc, hsl⟩ := P
  have hn1 : len = 2 := by simpa [gLen] using hn
  subst hn1
  simp only [gStep] at hs
  have hi : (z : Nat) < gMx m := by simpa [gRes] using hres
  split at hs
  · rename_i x st1
    cases hs
    obtain ⟨m1, rfl, h1⟩ := gRs_i hst
    refine lv_istore hx hb hd (gAl_has hLo.2.1 hLo.2.2.1) hi rfl (fun mls9 h9 => ?_)
    exact kk ads H locs cells slots mls9 _ ⟨[], (List.append_nil _).symm⟩ ⟨hH, hS, gLo_set hLo rfl hi h9, h1, hc, hsl⟩
  · cases hs
theorem gs_istore_n {z : Fin 4} (HL : gLf sL D ex sc aL) (F : gFr sL m p s mth meth c) (hd : decode (gB m) pc = .ok (.istore_n z, len)) (hn : gLen (.istore_n z) len = true) (hres : gRes m pc (.istore_n z, len, a, b) hp = true) (hs : gStep sc (.istore_n z, len, a, b) pc ls st h = some r)
    (P : gPt sL.heap.size D ex h0 s (gMx m) ls st h ads H locs cells slots mls mst) (kk : gKk sL D ex m p l e R s mth args below meth c Q h0 ads r) : W p l e R s mth args below meth c H locs cells slots Q (F0 mth pc mls mst) := by
  obtain ⟨hx, hb, hml, hown, hret, hlk, hnm, hO⟩ := F
  obtain ⟨hH, hS, hLo, hst, hc, hsl⟩ := P
  have hn1 : len = 1 := by simpa [gLen] using hn
  subst hn1
  simp only [gStep] at hs
  have hi : (z : Nat) < gMx m := by simpa [gRes] using hres
  split at hs
  · rename_i x st1
    cases hs
    obtain ⟨m1, rfl, h1⟩ := gRs_i hst
    refine lv_istore_n hx hb hd rfl (gAl_has hLo.2.1 hLo.2.2.1) hi rfl (fun mls9 h9 => ?_)
    exact kk ads H locs cells slots mls9 _ ⟨[], (List.append_nil _).symm⟩ ⟨hH, hS, gLo_set hLo rfl hi h9, h1, hc, hsl⟩
  · cases hs
theorem gs_fload {z : Nat} (HL : gLf sL D ex sc aL) (F : gFr sL m p s mth meth c) (hd : decode (gB m) pc = .ok (.fload z, len)) (hn : gLen (.fload z) len = true) (hres : gRes m pc (.fload z, len, a, b) hp = true) (hs : gStep sc (.fload z, len, a, b) pc ls st h = some r)
    (P : gPt sL.heap.size D ex h0 s (gMx m) ls st h ads H locs cells slots mls mst) (kk : gKk sL D ex m p l e R s mth args below meth c Q h0 ads r) : W p l e R s mth args below meth c H locs cells slots Q (F0 mth pc mls mst) := by
  obtain ⟨hx, hb, hml, hown, hret, hlk, hnm, hO⟩ := F
  obtain ⟨hH, hS, hLo, hst, hc, hsl⟩ := P
  have hn1 : len = 2 := by simpa [gLen] using hn
  subst hn1
  simp only [gStep] at hs
  split at hs
  · rename_i x hq
    cases hs
    obtain ⟨w, hw, hwr⟩ := gLo_at hLo hq
    cases (show w = .float x from hwr)
    refine lv_fload hx hb hd hw ?_
    exact kk ads H locs cells slots mls _ ⟨[], (List.append_nil _).symm⟩ ⟨hH, hS, hLo, ⟨_, mst, rfl, rfl, hst⟩, hc, hsl⟩
  · cases hs
theorem gs_fload_n {z : Fin 4} (HL : gLf sL D ex sc aL) (F : gFr sL m p s mth meth c) (hd : decode (gB m) pc = .ok (.fload_n z, len)) (hn : gLen (.fload_n z) len = true) (hres : gRes m pc (.fload_n z, len, a, b) hp = true) (hs : gStep sc (.fload_n z, len, a, b) pc ls st h = some r)
    (P : gPt sL.heap.size D ex h0 s (gMx m) ls st h ads H locs cells slots mls mst) (kk : gKk sL D ex m p l e R s mth args below meth c Q h0 ads r) : W p l e R s mth args below meth c H locs cells slots Q (F0 mth pc mls mst) := by
  obtain ⟨hx, hb, hml, hown, hret, hlk, hnm, hO⟩ := F
  obtain ⟨hH, hS, hLo, hst, hc, hsl⟩ := P
  have hn1 : len = 1 := by simpa [gLen] using hn
  subst hn1
  simp only [gStep] at hs
  split at hs
  · rename_i x hq
    cases hs
    obtain ⟨w, hw, hwr⟩ := gLo_at hLo hq
    cases (show w = .float x from hwr)
    refine lv_fload_n hx hb hd rfl hw ?_
    exact kk ads H locs cells slots mls _ ⟨[], (List.append_nil _).symm⟩ ⟨hH, hS, hLo, ⟨_, mst, rfl, rfl, hst⟩, hc, hsl⟩
  · cases hs
theorem gs_fstore {z : Nat} (HL : gLf sL D ex sc aL) (F : gFr sL m p s mth meth c) (hd : decode (gB m) pc = .ok (.fstore z, len)) (hn : gLen (.fstore z) len = true) (hres : gRes m pc (.fstore z, len, a, b) hp = true) (hs : gStep sc (.fstore z, len, a, b) pc ls st h = some r)
    (P : gPt sL.heap.size D ex h0 s (gMx m) ls st h ads H locs cells slots mls mst) (kk : gKk sL D ex m p l e R s mth args below meth c Q h0 ads r) : W p l e R s mth args below meth c H locs cells slots Q (F0 mth pc mls mst) := by
  obtain ⟨hx, hb, hml, hown, hret, hlk, hnm, hO⟩ := F
  obtain ⟨hH, hS, hLo, hst, hc, hsl⟩ := P
  have hn1 : len = 2 := by simpa [gLen] using hn
  subst hn1
  simp only [gStep] at hs
  have hi : (z : Nat) < gMx m := by simpa [gRes] using hres
  split at hs
  · rename_i x st1
    cases hs
    obtain ⟨m1, rfl, h1⟩ := gRs_f hst
    refine lv_fstore hx hb hd (gAl_has hLo.2.1 hLo.2.2.1) hi rfl (fun mls9 h9 => ?_)
    exact kk ads H locs cells slots mls9 _ ⟨[], (List.append_nil _).symm⟩ ⟨hH, hS, gLo_set hLo rfl hi h9, h1, hc, hsl⟩
  · cases hs
theorem gs_fstore_n {z : Fin 4} (HL : gLf sL D ex sc aL) (F : gFr sL m p s mth meth c) (hd : decode (gB m) pc = .ok (.fstore_n z, len)) (hn : gLen (.fstore_n z) len = true) (hres : gRes m pc (.fstore_n z, len, a, b) hp = true) (hs : gStep sc (.fstore_n z, len, a, b) pc ls st h = some r)
    (P : gPt sL.heap.size D ex h0 s (gMx m) ls st h ads H locs cells slots mls mst) (kk : gKk sL D ex m p l e R s mth args below meth c Q h0 ads r) : W p l e R s mth args below meth c H locs cells slots Q (F0 mth pc mls mst) := by
  obtain ⟨hx, hb, hml, hown, hret, hlk, hnm, hO⟩ := F
  obtain ⟨hH, hS, hLo, hst, hc, hsl⟩ := P
  have hn1 : len = 1 := by simpa [gLen] using hn
  subst hn1
  simp only [gStep] at hs
  have hi : (z : Nat) < gMx m := by simpa [gRes] using hres
  split at hs
  · rename_i x st1
    cases hs
    obtain ⟨m1, rfl, h1⟩ := gRs_f hst
    refine lv_fstore_n hx hb hd rfl (gAl_has hLo.2.1 hLo.2.2.1) hi rfl (fun mls9 h9 => ?_)
    exact kk ads H locs cells slots mls9 _ ⟨[], (List.append_nil _).symm⟩ ⟨hH, hS, gLo_set hLo rfl hi h9, h1, hc, hsl⟩
  · cases hs
theorem gs_aload {z : Nat} (HL : gLf sL D ex sc aL) (F : gFr sL m p s mth meth c) (hd : decode (gB m) pc = .ok (.aload z, len)) (hn : gLen (.aload z) len = true) (hres : gRes m pc (.aload z, len, a, b) hp = true) (hs : gStep sc (.aload z, len, a, b) pc ls st h = some r)
    (P : gPt sL.heap.size D ex h0 s (gMx m) ls st h ads H locs cells slots mls mst) (kk : gKk sL D ex m p l e R s mth args below meth c Q h0 ads r) : W p l e R s mth args below meth c H locs cells slots Q (F0 mth pc mls mst) := by
  obtain ⟨hx, hb, hml, hown, hret, hlk, hnm, hO⟩ := F
  obtain ⟨hH, hS, hLo, hst, hc, hsl⟩ := P
  have hn1 : len = 2 := by simpa [gLen] using hn
  subst hn1
  simp only [gStep] at hs
  split at hs
  · rename_i x hq
    cases hs
    obtain ⟨w, hw, hwr⟩ := gLo_at hLo hq
    obtain ⟨a9, ha, rfl⟩ := hwr
    refine lv_aload hx hb hd hw ?_
    exact kk ads H locs cells slots mls _ ⟨[], (List.append_nil _).symm⟩ ⟨hH, hS, hLo, ⟨_, mst, rfl, ⟨a9, ha, rfl⟩, hst⟩, hc, hsl⟩
  · rename_i hq
    cases hs
    obtain ⟨w, hw, hwr⟩ := gLo_at hLo hq
    cases (show w = .null from hwr)
    refine lv_aloadN hx hb hd hw ?_
    exact kk ads H locs cells slots mls _ ⟨[], (List.append_nil _).symm⟩ ⟨hH, hS, hLo, ⟨_, mst, rfl, rfl, hst⟩, hc, hsl⟩
  · rename_i x hq
    cases hs
    obtain ⟨w, hw, hwr⟩ := gLo_at hLo hq
    obtain ⟨hj, rfl⟩ := hwr
    refine lv_aload hx hb hd hw ?_
    exact kk ads H locs cells slots mls _ ⟨[], (List.append_nil _).symm⟩ ⟨hH, hS, hLo, ⟨_, mst, rfl, ⟨hj, rfl⟩, hst⟩, hc, hsl⟩
  · cases hs
theorem gs_aload_n {z : Fin 4} (HL : gLf sL D ex sc aL) (F : gFr sL m p s mth meth c) (hd : decode (gB m) pc = .ok (.aload_n z, len)) (hn : gLen (.aload_n z) len = true) (hres : gRes m pc (.aload_n z, len, a, b) hp = true) (hs : gStep sc (.aload_n z, len, a, b) pc ls st h = some r)
    (P : gPt sL.heap.size D ex h0 s (gMx m) ls st h ads H locs cells slots mls mst) (kk : gKk sL D ex m p l e R s mth args below meth c Q h0 ads r) : W p l e R s mth args below meth c H locs cells slots Q (F0 mth pc mls mst) := by
  obtain ⟨hx, hb, hml, hown, hret, hlk, hnm, hO⟩ := F
  obtain ⟨hH, hS, hLo, hst, hc, hsl⟩ := P
  have hn1 : len = 1 := by simpa [gLen] using hn
  subst hn1
  simp only [gStep] at hs
  split at hs
  · rename_i x hq
    cases hs
    obtain ⟨w, hw, hwr⟩ := gLo_at hLo hq
    obtain ⟨a9, ha, rfl⟩ := hwr
    refine lv_aload_n hx hb hd rfl hw ?_
    exact kk ads H locs cells slots mls _ ⟨[], (List.append_nil _).symm⟩ ⟨hH, hS, hLo, ⟨_, mst, rfl, ⟨a9, ha, rfl⟩, hst⟩, hc, hsl⟩
  · rename_i hq
    cases hs
    obtain ⟨w, hw, hwr⟩ := gLo_at hLo hq
    cases (show w = .null from hwr)
    refine lv_aload_nN hx hb hd rfl hw ?_
    exact kk ads H locs cells slots mls _ ⟨[], (List.append_nil _).symm⟩ ⟨hH, hS, hLo, ⟨_, mst, rfl, rfl, hst⟩, hc, hsl⟩
  · rename_i x hq
    cases hs
    obtain ⟨w, hw, hwr⟩ := gLo_at hLo hq
    obtain ⟨hj, rfl⟩ := hwr
    refine lv_aload_n hx hb hd rfl hw ?_
    exact kk ads H locs cells slots mls _ ⟨[], (List.append_nil _).symm⟩ ⟨hH, hS, hLo, ⟨_, mst, rfl, ⟨hj, rfl⟩, hst⟩, hc, hsl⟩
  · cases hs
theorem gs_astore {z : Nat} (HL : gLf sL D ex sc aL) (F : gFr sL m p s mth meth c) (hd : decode (gB m) pc = .ok (.astore z, len)) (hn : gLen (.astore z) len = true) (hres : gRes m pc (.astore z, len, a, b) hp = true) (hs : gStep sc (.astore z, len, a, b) pc ls st h = some r)
    (P : gPt sL.heap.size D ex h0 s (gMx m) ls st h ads H locs cells slots mls mst) (kk : gKk sL D ex m p l e R s mth args below meth c Q h0 ads r) : W p l e R s mth args below meth c H locs cells slots Q (F0 mth pc mls mst) := by
  obtain ⟨hx, hb, hml, hown, hret, hlk, hnm, hO⟩ := F
  obtain ⟨hH, hS, hLo, hst, hc, hsl⟩ := P
  have hn1 : len = 2 := by simpa [gLen] using hn
  subst hn1
  simp only [gStep] at hs
  have hi : (z : Nat) < gMx m := by simpa [gRes] using hres
  split at hs
  · rename_i x st1
    cases hs
    obtain ⟨a9, m1, ha, rfl, h1⟩ := gRs_r hst
    refine lv_astore hx hb hd (gAl_has hLo.2.1 hLo.2.2.1) hi rfl (fun mls9 h9 => ?_)
    exact kk ads H locs cells slots mls9 _ ⟨[], (List.append_nil _).symm⟩ ⟨hH, hS, gLo_set hLo ⟨a9, ha, rfl⟩ hi h9, h1, hc, hsl⟩
  · rename_i st1
    cases hs
    obtain ⟨m1, rfl, h1⟩ := gRs_n hst
    refine lv_astoreN hx hb hd (gAl_has hLo.2.1 hLo.2.2.1) hi rfl (fun mls9 h9 => ?_)
    exact kk ads H locs cells slots mls9 _ ⟨[], (List.append_nil _).symm⟩ ⟨hH, hS, gLo_set hLo rfl hi h9, h1, hc, hsl⟩
  · rename_i x st1
    cases hs
    obtain ⟨m1, hj, rfl, h1⟩ := gRs_e hst
    refine lv_astore hx hb hd (gAl_has hLo.2.1 hLo.2.2.1) hi rfl (fun mls9 h9 => ?_)
    exact kk ads H locs cells slots mls9 _ ⟨[], (List.append_nil _).symm⟩ ⟨hH, hS, gLo_set hLo ⟨hj, rfl⟩ hi h9, h1, hc, hsl⟩
  · cases hs
theorem gs_astore_n {z : Fin 4} (HL : gLf sL D ex sc aL) (F : gFr sL m p s mth meth c) (hd : decode (gB m) pc = .ok (.astore_n z, len)) (hn : gLen (.astore_n z) len = true) (hres : gRes m pc (.astore_n z, len, a, b) hp = true) (hs : gStep sc (.astore_n z, len, a, b) pc ls st h = some r)
    (P : gPt sL.heap.size D ex h0 s (gMx m) ls st h ads H locs cells slots mls mst) (kk : gKk sL D ex m p l e R s mth args below meth c Q h0 ads r) : W p l e R s mth args below meth c H locs cells slots Q (F0 mth pc mls mst) := by
  obtain ⟨hx, hb, hml, hown, hret, hlk, hnm, hO⟩ := F
  obtain ⟨hH, hS, hLo, hst, hc, hsl⟩ := P
  have hn1 : len = 1 := by simpa [gLen] using hn
  subst hn1
  simp only [gStep] at hs
  have hi : (z : Nat) < gMx m := by simpa [gRes] using hres
  split at hs
  · rename_i x st1
    cases hs
    obtain ⟨a9, m1, ha, rfl, h1⟩ := gRs_r hst
    refine lv_astore_n hx hb hd rfl (gAl_has hLo.2.1 hLo.2.2.1) hi rfl (fun mls9 h9 => ?_)
    exact kk ads H locs cells slots mls9 _ ⟨[], (List.append_nil _).symm⟩ ⟨hH, hS, gLo_set hLo ⟨a9, ha, rfl⟩ hi h9, h1, hc, hsl⟩
  · rename_i st1
    cases hs
    obtain ⟨m1, rfl, h1⟩ := gRs_n hst
    refine lv_astore_nN hx hb hd rfl (gAl_has hLo.2.1 hLo.2.2.1) hi rfl (fun mls9 h9 => ?_)
    exact kk ads H locs cells slots mls9 _ ⟨[], (List.append_nil _).symm⟩ ⟨hH, hS, gLo_set hLo rfl hi h9, h1, hc, hsl⟩
  · rename_i x st1
    cases hs
    obtain ⟨m1, hj, rfl, h1⟩ := gRs_e hst
    refine lv_astore_n hx hb hd rfl (gAl_has hLo.2.1 hLo.2.2.1) hi rfl (fun mls9 h9 => ?_)
    exact kk ads H locs cells slots mls9 _ ⟨[], (List.append_nil _).symm⟩ ⟨hH, hS, gLo_set hLo ⟨hj, rfl⟩ hi h9, h1, hc, hsl⟩
  · cases hs
theorem gs_iinc {z : Nat} {y : Int} (HL : gLf sL D ex sc aL) (F : gFr sL m p s mth meth c) (hd : decode (gB m) pc = .ok (.iinc z y, len)) (hn : gLen (.iinc z y) len = true) (hres : gRes m pc (.iinc z y, len, a, b) hp = true) (hs : gStep sc (.iinc z y, len, a, b) pc ls st h = some r)
    (P : gPt sL.heap.size D ex h0 s (gMx m) ls st h ads H locs cells slots mls mst) (kk : gKk sL D ex m p l e R s mth args below meth c Q h0 ads r) : W p l e R s mth args below meth c H locs cells slots Q (F0 mth pc mls mst) := by
  obtain ⟨hx, hb, hml, hown, hret, hlk, hnm, hO⟩ := F
  obtain ⟨hH, hS, hLo, hst, hc, hsl⟩ := P
  have hn1 : len = 3 := by simpa [gLen] using hn
  subst hn1
  simp only [gStep] at hs
  split at hs
  · rename_i x hq
    cases hs
    obtain ⟨w, hw, hwr⟩ := gLo_at hLo hq
    cases (show w = .int x from hwr)
    obtain ⟨k9, hk9⟩ := List.getElem?_of_mem (gAl_in hw)
    have hi : z < gMx m := by
      have h8 := (Array.getElem?_eq_some_iff.mp hw).1
      rwa [hLo.2.1] at h8
    refine lv_iinc hx hb hd (gAl_has hLo.2.1 hLo.2.2.1) hk9 rfl hi rfl (fun mls9 h9 => ?_)
    exact kk ads H locs cells slots mls9 _ ⟨[], (List.append_nil _).symm⟩ ⟨hH, hS, gLo_set hLo rfl hi h9, hst, hc, hsl⟩
  · cases hs
theorem gs_iadd (HL : gLf sL D ex sc aL) (F : gFr sL m p s mth meth c) (hd : decode (gB m) pc = .ok (.iadd, len)) (hn : gLen (.iadd) len = true) (hres : gRes m pc (.iadd, len, a, b) hp = true) (hs : gStep sc (.iadd, len, a, b) pc ls st h = some r)
    (P : gPt sL.heap.size D ex h0 s (gMx m) ls st h ads H locs cells slots mls mst) (kk : gKk sL D ex m p l e R s mth args below meth c Q h0 ads r) : W p l e R s mth args below meth c H locs cells slots Q (F0 mth pc mls mst) := by
  obtain ⟨hx, hb, hml, hown, hret, hlk, hnm, hO⟩ := F
  obtain ⟨hH, hS, hLo, hst, hc, hsl⟩ := P
  have hn1 : len = 1 := by simpa [gLen] using hn
  subst hn1
  simp only [gStep] at hs
  split at hs
  · rename_i y x st1
    cases hs
    obtain ⟨m1, rfl, h1⟩ := gRs_i hst
    obtain ⟨m2, rfl, h2⟩ := gRs_i h1
    refine lv_iadd hx hb hd ?_
    exact kk ads H locs cells slots mls _ ⟨[], (List.append_nil _).symm⟩ ⟨hH, hS, hLo, ⟨_, m2, rfl, rfl, h2⟩, hc, hsl⟩
  · cases hs
theorem gs_isub (HL : gLf sL D ex sc aL) (F : gFr sL m p s mth meth c) (hd : decode (gB m) pc = .ok (.isub, len)) (hn : gLen (.isub) len = true) (hres : gRes m pc (.isub, len, a, b) hp = true) (hs : gStep sc (.isub, len, a, b) pc ls st h = some r)
    (P : gPt sL.heap.size D ex h0 s (gMx m) ls st h ads H locs cells slots mls mst) (kk : gKk sL D ex m p l e R s mth args below meth c Q h0 ads r) : W p l e R s mth args below meth c H locs cells slots Q (F0 mth pc mls mst) := by
  obtain ⟨hx, hb, hml, hown, hret, hlk, hnm, hO⟩ := F
  obtain ⟨hH, hS, hLo, hst, hc, hsl⟩ := P
  have hn1 : len = 1 := by simpa [gLen] using hn
  subst hn1
  simp only [gStep] at hs
  split at hs
  · rename_i y x st1
    cases hs
    obtain ⟨m1, rfl, h1⟩ := gRs_i hst
    obtain ⟨m2, rfl, h2⟩ := gRs_i h1
    refine lv_isub hx hb hd ?_
    exact kk ads H locs cells slots mls _ ⟨[], (List.append_nil _).symm⟩ ⟨hH, hS, hLo, ⟨_, m2, rfl, rfl, h2⟩, hc, hsl⟩
  · cases hs
theorem gs_imul (HL : gLf sL D ex sc aL) (F : gFr sL m p s mth meth c) (hd : decode (gB m) pc = .ok (.imul, len)) (hn : gLen (.imul) len = true) (hres : gRes m pc (.imul, len, a, b) hp = true) (hs : gStep sc (.imul, len, a, b) pc ls st h = some r)
    (P : gPt sL.heap.size D ex h0 s (gMx m) ls st h ads H locs cells slots mls mst) (kk : gKk sL D ex m p l e R s mth args below meth c Q h0 ads r) : W p l e R s mth args below meth c H locs cells slots Q (F0 mth pc mls mst) := by
  obtain ⟨hx, hb, hml, hown, hret, hlk, hnm, hO⟩ := F
  obtain ⟨hH, hS, hLo, hst, hc, hsl⟩ := P
  have hn1 : len = 1 := by simpa [gLen] using hn
  subst hn1
  simp only [gStep] at hs
  split at hs
  · rename_i y x st1
    cases hs
    obtain ⟨m1, rfl, h1⟩ := gRs_i hst
    obtain ⟨m2, rfl, h2⟩ := gRs_i h1
    refine lv_imul hx hb hd ?_
    exact kk ads H locs cells slots mls _ ⟨[], (List.append_nil _).symm⟩ ⟨hH, hS, hLo, ⟨_, m2, rfl, rfl, h2⟩, hc, hsl⟩
  · cases hs
theorem gs_ixor (HL : gLf sL D ex sc aL) (F : gFr sL m p s mth meth c) (hd : decode (gB m) pc = .ok (.ixor, len)) (hn : gLen (.ixor) len = true) (hres : gRes m pc (.ixor, len, a, b) hp = true) (hs : gStep sc (.ixor, len, a, b) pc ls st h = some r)
    (P : gPt sL.heap.size D ex h0 s (gMx m) ls st h ads H locs cells slots mls mst) (kk : gKk sL D ex m p l e R s mth args below meth c Q h0 ads r) : W p l e R s mth args below meth c H locs cells slots Q (F0 mth pc mls mst) := by
  obtain ⟨hx, hb, hml, hown, hret, hlk, hnm, hO⟩ := F
  obtain ⟨hH, hS, hLo, hst, hc, hsl⟩ := P
  have hn1 : len = 1 := by simpa [gLen] using hn
  subst hn1
  simp only [gStep] at hs
  split at hs
  · rename_i y x st1
    cases hs
    obtain ⟨m1, rfl, h1⟩ := gRs_i hst
    obtain ⟨m2, rfl, h2⟩ := gRs_i h1
    refine lv_ixor hx hb hd ?_
    exact kk ads H locs cells slots mls _ ⟨[], (List.append_nil _).symm⟩ ⟨hH, hS, hLo, ⟨_, m2, rfl, rfl, h2⟩, hc, hsl⟩
  · cases hs
theorem gs_ishl (HL : gLf sL D ex sc aL) (F : gFr sL m p s mth meth c) (hd : decode (gB m) pc = .ok (.ishl, len)) (hn : gLen (.ishl) len = true) (hres : gRes m pc (.ishl, len, a, b) hp = true) (hs : gStep sc (.ishl, len, a, b) pc ls st h = some r)
    (P : gPt sL.heap.size D ex h0 s (gMx m) ls st h ads H locs cells slots mls mst) (kk : gKk sL D ex m p l e R s mth args below meth c Q h0 ads r) : W p l e R s mth args below meth c H locs cells slots Q (F0 mth pc mls mst) := by
  obtain ⟨hx, hb, hml, hown, hret, hlk, hnm, hO⟩ := F
  obtain ⟨hH, hS, hLo, hst, hc, hsl⟩ := P
  have hn1 : len = 1 := by simpa [gLen] using hn
  subst hn1
  simp only [gStep] at hs
  split at hs
  · rename_i y x st1
    cases hs
    obtain ⟨m1, rfl, h1⟩ := gRs_i hst
    obtain ⟨m2, rfl, h2⟩ := gRs_i h1
    refine lv_ishl hx hb hd ?_
    exact kk ads H locs cells slots mls _ ⟨[], (List.append_nil _).symm⟩ ⟨hH, hS, hLo, ⟨_, m2, rfl, rfl, h2⟩, hc, hsl⟩
  · cases hs
theorem gs_ishr (HL : gLf sL D ex sc aL) (F : gFr sL m p s mth meth c) (hd : decode (gB m) pc = .ok (.ishr, len)) (hn : gLen (.ishr) len = true) (hres : gRes m pc (.ishr, len, a, b) hp = true) (hs : gStep sc (.ishr, len, a, b) pc ls st h = some r)
    (P : gPt sL.heap.size D ex h0 s (gMx m) ls st h ads H locs cells slots mls mst) (kk : gKk sL D ex m p l e R s mth args below meth c Q h0 ads r) : W p l e R s mth args below meth c H locs cells slots Q (F0 mth pc mls mst) := by
  obtain ⟨hx, hb, hml, hown, hret, hlk, hnm, hO⟩ := F
  obtain ⟨hH, hS, hLo, hst, hc, hsl⟩ := P
  have hn1 : len = 1 := by simpa [gLen] using hn
  subst hn1
  simp only [gStep] at hs
  split at hs
  · rename_i y x st1
    cases hs
    obtain ⟨m1, rfl, h1⟩ := gRs_i hst
    obtain ⟨m2, rfl, h2⟩ := gRs_i h1
    refine lv_ishr hx hb hd ?_
    exact kk ads H locs cells slots mls _ ⟨[], (List.append_nil _).symm⟩ ⟨hH, hS, hLo, ⟨_, m2, rfl, rfl, h2⟩, hc, hsl⟩
  · cases hs
theorem gs_iushr (HL : gLf sL D ex sc aL) (F : gFr sL m p s mth meth c) (hd : decode (gB m) pc = .ok (.iushr, len)) (hn : gLen (.iushr) len = true) (hres : gRes m pc (.iushr, len, a, b) hp = true) (hs : gStep sc (.iushr, len, a, b) pc ls st h = some r)
    (P : gPt sL.heap.size D ex h0 s (gMx m) ls st h ads H locs cells slots mls mst) (kk : gKk sL D ex m p l e R s mth args below meth c Q h0 ads r) : W p l e R s mth args below meth c H locs cells slots Q (F0 mth pc mls mst) := by
  obtain ⟨hx, hb, hml, hown, hret, hlk, hnm, hO⟩ := F
  obtain ⟨hH, hS, hLo, hst, hc, hsl⟩ := P
  have hn1 : len = 1 := by simpa [gLen] using hn
  subst hn1
  simp only [gStep] at hs
  split at hs
  · rename_i y x st1
    cases hs
    obtain ⟨m1, rfl, h1⟩ := gRs_i hst
    obtain ⟨m2, rfl, h2⟩ := gRs_i h1
    refine lv_iushr hx hb hd rfl ?_
    exact kk ads H locs cells slots mls _ ⟨[], (List.append_nil _).symm⟩ ⟨hH, hS, hLo, ⟨_, m2, rfl, rfl, h2⟩, hc, hsl⟩
  · cases hs
theorem gs_idiv (HL : gLf sL D ex sc aL) (F : gFr sL m p s mth meth c) (hd : decode (gB m) pc = .ok (.idiv, len)) (hn : gLen (.idiv) len = true) (hres : gRes m pc (.idiv, len, a, b) hp = true) (hs : gStep sc (.idiv, len, a, b) pc ls st h = some r)
    (P : gPt sL.heap.size D ex h0 s (gMx m) ls st h ads H locs cells slots mls mst) (kk : gKk sL D ex m p l e R s mth args below meth c Q h0 ads r) : W p l e R s mth args below meth c H locs cells slots Q (F0 mth pc mls mst) := by
  obtain ⟨hx, hb, hml, hown, hret, hlk, hnm, hO⟩ := F
  obtain ⟨hH, hS, hLo, hst, hc, hsl⟩ := P
  have hn1 : len = 1 := by simpa [gLen] using hn
  subst hn1
  simp only [gStep] at hs
  split at hs
  · rename_i y x st1
    split at hs
    · cases hs
    · rename_i hy
      cases hs
      obtain ⟨m1, rfl, h1⟩ := gRs_i hst
      obtain ⟨m2, rfl, h2⟩ := gRs_i h1
      refine lv_idiv hx hb hd hy ?_
      exact kk ads H locs cells slots mls _ ⟨[], (List.append_nil _).symm⟩ ⟨hH, hS, hLo, ⟨_, m2, rfl, rfl, h2⟩, hc, hsl⟩
  · cases hs
theorem gs_irem (HL : gLf sL D ex sc aL) (F : gFr sL m p s mth meth c) (hd : decode (gB m) pc = .ok (.irem, len)) (hn : gLen (.irem) len = true) (hres : gRes m pc (.irem, len, a, b) hp = true) (hs : gStep sc (.irem, len, a, b) pc ls st h = some r)
    (P : gPt sL.heap.size D ex h0 s (gMx m) ls st h ads H locs cells slots mls mst) (kk : gKk sL D ex m p l e R s mth args below meth c Q h0 ads r) : W p l e R s mth args below meth c H locs cells slots Q (F0 mth pc mls mst) := by
  obtain ⟨hx, hb, hml, hown, hret, hlk, hnm, hO⟩ := F
  obtain ⟨hH, hS, hLo, hst, hc, hsl⟩ := P
  have hn1 : len = 1 := by simpa [gLen] using hn
  subst hn1
  simp only [gStep] at hs
  split at hs
  · rename_i y x st1
    split at hs
    · cases hs
    · rename_i hy
      cases hs
      obtain ⟨m1, rfl, h1⟩ := gRs_i hst
      obtain ⟨m2, rfl, h2⟩ := gRs_i h1
      refine lv_irem hx hb hd hy ?_
      exact kk ads H locs cells slots mls _ ⟨[], (List.append_nil _).symm⟩ ⟨hH, hS, hLo, ⟨_, m2, rfl, rfl, h2⟩, hc, hsl⟩
  · cases hs
theorem gs_i2c (HL : gLf sL D ex sc aL) (F : gFr sL m p s mth meth c) (hd : decode (gB m) pc = .ok (.i2c, len)) (hn : gLen (.i2c) len = true) (hres : gRes m pc (.i2c, len, a, b) hp = true) (hs : gStep sc (.i2c, len, a, b) pc ls st h = some r)
    (P : gPt sL.heap.size D ex h0 s (gMx m) ls st h ads H locs cells slots mls mst) (kk : gKk sL D ex m p l e R s mth args below meth c Q h0 ads r) : W p l e R s mth args below meth c H locs cells slots Q (F0 mth pc mls mst) := by
  obtain ⟨hx, hb, hml, hown, hret, hlk, hnm, hO⟩ := F
  obtain ⟨hH, hS, hLo, hst, hc, hsl⟩ := P
  have hn1 : len = 1 := by simpa [gLen] using hn
  subst hn1
  simp only [gStep] at hs
  split at hs
  · rename_i x st1
    cases hs
    obtain ⟨m1, rfl, h1⟩ := gRs_i hst
    refine lv_i2c hx hb hd rfl ?_
    exact kk ads H locs cells slots mls _ ⟨[], (List.append_nil _).symm⟩ ⟨hH, hS, hLo, ⟨_, m1, rfl, rfl, h1⟩, hc, hsl⟩
  · cases hs
theorem gs_i2f (HL : gLf sL D ex sc aL) (F : gFr sL m p s mth meth c) (hd : decode (gB m) pc = .ok (.i2f, len)) (hn : gLen (.i2f) len = true) (hres : gRes m pc (.i2f, len, a, b) hp = true) (hs : gStep sc (.i2f, len, a, b) pc ls st h = some r)
    (P : gPt sL.heap.size D ex h0 s (gMx m) ls st h ads H locs cells slots mls mst) (kk : gKk sL D ex m p l e R s mth args below meth c Q h0 ads r) : W p l e R s mth args below meth c H locs cells slots Q (F0 mth pc mls mst) := by
  obtain ⟨hx, hb, hml, hown, hret, hlk, hnm, hO⟩ := F
  obtain ⟨hH, hS, hLo, hst, hc, hsl⟩ := P
  have hn1 : len = 1 := by simpa [gLen] using hn
  subst hn1
  simp only [gStep] at hs
  split at hs
  · rename_i x st1
    cases hs
    obtain ⟨m1, rfl, h1⟩ := gRs_i hst
    refine lv_i2f hx hb hd ?_
    exact kk ads H locs cells slots mls _ ⟨[], (List.append_nil _).symm⟩ ⟨hH, hS, hLo, ⟨_, m1, rfl, rfl, h1⟩, hc, hsl⟩
  · cases hs
theorem gs_f2i (HL : gLf sL D ex sc aL) (F : gFr sL m p s mth meth c) (hd : decode (gB m) pc = .ok (.f2i, len)) (hn : gLen (.f2i) len = true) (hres : gRes m pc (.f2i, len, a, b) hp = true) (hs : gStep sc (.f2i, len, a, b) pc ls st h = some r)
    (P : gPt sL.heap.size D ex h0 s (gMx m) ls st h ads H locs cells slots mls mst) (kk : gKk sL D ex m p l e R s mth args below meth c Q h0 ads r) : W p l e R s mth args below meth c H locs cells slots Q (F0 mth pc mls mst) := by
  obtain ⟨hx, hb, hml, hown, hret, hlk, hnm, hO⟩ := F
  obtain ⟨hH, hS, hLo, hst, hc, hsl⟩ := P
  have hn1 : len = 1 := by simpa [gLen] using hn
  subst hn1
  simp only [gStep] at hs
  split at hs
  · rename_i x st1
    cases hs
    obtain ⟨m1, rfl, h1⟩ := gRs_f hst
    refine lv_f2i hx hb hd ?_
    exact kk ads H locs cells slots mls _ ⟨[], (List.append_nil _).symm⟩ ⟨hH, hS, hLo, ⟨_, m1, rfl, rfl, h1⟩, hc, hsl⟩
  · cases hs
theorem gs_fsub (HL : gLf sL D ex sc aL) (F : gFr sL m p s mth meth c) (hd : decode (gB m) pc = .ok (.fsub, len)) (hn : gLen (.fsub) len = true) (hres : gRes m pc (.fsub, len, a, b) hp = true) (hs : gStep sc (.fsub, len, a, b) pc ls st h = some r)
    (P : gPt sL.heap.size D ex h0 s (gMx m) ls st h ads H locs cells slots mls mst) (kk : gKk sL D ex m p l e R s mth args below meth c Q h0 ads r) : W p l e R s mth args below meth c H locs cells slots Q (F0 mth pc mls mst) := by
  obtain ⟨hx, hb, hml, hown, hret, hlk, hnm, hO⟩ := F
  obtain ⟨hH, hS, hLo, hst, hc, hsl⟩ := P
  have hn1 : len = 1 := by simpa [gLen] using hn
  subst hn1
  simp only [gStep] at hs
  split at hs
  · rename_i y x st1
    split at hs
    · rename_i hy
      cases hs
      obtain ⟨m1, rfl, h1⟩ := gRs_f hst
      obtain ⟨m2, rfl, h2⟩ := gRs_f h1
      refine lv_fsub hx hb hd hy ?_
      exact kk ads H locs cells slots mls _ ⟨[], (List.append_nil _).symm⟩ ⟨hH, hS, hLo, ⟨_, m2, rfl, rfl, h2⟩, hc, hsl⟩
    · cases hs
  · cases hs
theorem gs_fmul (HL : gLf sL D ex sc aL) (F : gFr sL m p s mth meth c) (hd : decode (gB m) pc = .ok (.fmul, len)) (hn : gLen (.fmul) len = true) (hres : gRes m pc (.fmul, len, a, b) hp = true) (hs : gStep sc (.fmul, len, a, b) pc ls st h = some r)
    (P : gPt sL.heap.size D ex h0 s (gMx m) ls st h ads H locs cells slots mls mst) (kk : gKk sL D ex m p l e R s mth args below meth c Q h0 ads r) : W p l e R s mth args below meth c H locs cells slots Q (F0 mth pc mls mst) := by
  obtain ⟨hx, hb, hml, hown, hret, hlk, hnm, hO⟩ := F
  obtain ⟨hH, hS, hLo, hst, hc, hsl⟩ := P
  have hn1 : len = 1 := by simpa [gLen] using hn
  subst hn1
  simp only [gStep] at hs
  split at hs
  · rename_i y x st1
    split at hs
    · rename_i hy
      cases hs
      obtain ⟨m1, rfl, h1⟩ := gRs_f hst
      obtain ⟨m2, rfl, h2⟩ := gRs_f h1
      refine lv_fmul hx hb hd hy ?_
      exact kk ads H locs cells slots mls _ ⟨[], (List.append_nil _).symm⟩ ⟨hH, hS, hLo, ⟨_, m2, rfl, rfl, h2⟩, hc, hsl⟩
    · cases hs
  · cases hs
theorem gs_fdiv (HL : gLf sL D ex sc aL) (F : gFr sL m p s mth meth c) (hd : decode (gB m) pc = .ok (.fdiv, len)) (hn : gLen (.fdiv) len = true) (hres : gRes m pc (.fdiv, len, a, b) hp = true) (hs : gStep sc (.fdiv, len, a, b) pc ls st h = some r)
    (P : gPt sL.heap.size D ex h0 s (gMx m) ls st h ads H locs cells slots mls mst) (kk : gKk sL D ex m p l e R s mth args below meth c Q h0 ads r) : W p l e R s mth args below meth c H locs cells slots Q (F0 mth pc mls mst) := by
  obtain ⟨hx, hb, hml, hown, hret, hlk, hnm, hO⟩ := F
  obtain ⟨hH, hS, hLo, hst, hc, hsl⟩ := P
  have hn1 : len = 1 := by simpa [gLen] using hn
  subst hn1
  simp only [gStep] at hs
  split at hs
  · rename_i y x st1
    split at hs
    · rename_i hy
      cases hs
      obtain ⟨m1, rfl, h1⟩ := gRs_f hst
      obtain ⟨m2, rfl, h2⟩ := gRs_f h1
      refine lv_fdiv hx hb hd hy ?_
      exact kk ads H locs cells slots mls _ ⟨[], (List.append_nil _).symm⟩ ⟨hH, hS, hLo, ⟨_, m2, rfl, rfl, h2⟩, hc, hsl⟩
    · cases hs
  · cases hs
theorem gs_fcmp {z : CmpOp} (HL : gLf sL D ex sc aL) (F : gFr sL m p s mth meth c) (hd : decode (gB m) pc = .ok (.fcmp z, len)) (hn : gLen (.fcmp z) len = true) (hres : gRes m pc (.fcmp z, len, a, b) hp = true) (hs : gStep sc (.fcmp z, len, a, b) pc ls st h = some r)
    (P : gPt sL.heap.size D ex h0 s (gMx m) ls st h ads H locs cells slots mls mst) (kk : gKk sL D ex m p l e R s mth args below meth c Q h0 ads r) : W p l e R s mth args below meth c H locs cells slots Q (F0 mth pc mls mst) := by
  obtain ⟨hx, hb, hml, hown, hret, hlk, hnm, hO⟩ := F
  obtain ⟨hH, hS, hLo, hst, hc, hsl⟩ := P
  have hn1 : len = 1 := by simpa [gLen] using hn
  subst hn1
  simp only [gStep] at hs
  split at hs
  · rename_i y x st1
    cases hs
    obtain ⟨m1, rfl, h1⟩ := gRs_f hst
    obtain ⟨m2, rfl, h2⟩ := gRs_f h1
    refine lv_fcmp hx hb hd ?_
    exact kk ads H locs cells slots mls _ ⟨[], (List.append_nil _).symm⟩ ⟨hH, hS, hLo, ⟨_, m2, rfl, rfl, h2⟩, hc, hsl⟩
  · cases hs
theorem gs_dup (HL : gLf sL D ex sc aL) (F : gFr sL m p s mth meth c) (hd : decode (gB m) pc = .ok (.dup, len)) (hn : gLen (.dup) len = true) (hres : gRes m pc (.dup, len, a, b) hp = true) (hs : gStep sc (.dup, len, a, b) pc ls st h = some r)
    (P : gPt sL.heap.size D ex h0 s (gMx m) ls st h ads H locs cells slots mls mst) (kk : gKk sL D ex m p l e R s mth args below meth c Q h0 ads r) : W p l e R s mth args below meth c H locs cells slots Q (F0 mth pc mls mst) := by
  obtain ⟨hx, hb, hml, hown, hret, hlk, hnm, hO⟩ := F
  obtain ⟨hH, hS, hLo, hst, hc, hsl⟩ := P
  have hn1 : len = 1 := by simpa [gLen] using hn
  subst hn1
  simp only [gStep] at hs
  split at hs
  · rename_i v st1
    split at hs
    · cases hs
      obtain ⟨w1, m1, rfl, q1, h1⟩ := hst
      refine lv_dup hx hb hd (gR_cat q1) ?_
      exact kk ads H locs cells slots mls _ ⟨[], (List.append_nil _).symm⟩ ⟨hH, hS, hLo, ⟨_, _, rfl, q1, _, m1, rfl, q1, h1⟩, hc, hsl⟩
    · cases hs
  · cases hs
theorem gs_pop (HL : gLf sL D ex sc aL) (F : gFr sL m p s mth meth c) (hd : decode (gB m) pc = .ok (.pop, len)) (hn : gLen (.pop) len = true) (hres : gRes m pc (.pop, len, a, b) hp = true) (hs : gStep sc (.pop, len, a, b) pc ls st h = some r)
    (P : gPt sL.heap.size D ex h0 s (gMx m) ls st h ads H locs cells slots mls mst) (kk : gKk sL D ex m p l e R s mth args below meth c Q h0 ads r) : W p l e R s mth args below meth c H locs cells slots Q (F0 mth pc mls mst) := by
  obtain ⟨hx, hb, hml, hown, hret, hlk, hnm, hO⟩ := F
  obtain ⟨hH, hS, hLo, hst, hc, hsl⟩ := P
  have hn1 : len = 1 := by simpa [gLen] using hn
  subst hn1
  simp only [gStep] at hs
  split at hs
  · rename_i v st1
    split at hs
    · cases hs
      obtain ⟨w1, m1, rfl, q1, h1⟩ := hst
      refine lv_pop hx hb hd (gR_cat q1) ?_
      exact kk ads H locs cells slots mls _ ⟨[], (List.append_nil _).symm⟩ ⟨hH, hS, hLo, h1, hc, hsl⟩
    · cases hs
  · cases hs
theorem gs_dup_x1 (HL : gLf sL D ex sc aL) (F : gFr sL m p s mth meth c) (hd : decode (gB m) pc = .ok (.dup_x1, len)) (hn : gLen (.dup_x1) len = true) (hres : gRes m pc (.dup_x1, len, a, b) hp = true) (hs : gStep sc (.dup_x1, len, a, b) pc ls st h = some r)
    (P : gPt sL.heap.size D ex h0 s (gMx m) ls st h ads H locs cells slots mls mst) (kk : gKk sL D ex m p l e R s mth args below meth c Q h0 ads r) : W p l e R s mth args below meth c H locs cells slots Q (F0 mth pc mls mst) := by
  obtain ⟨hx, hb, hml, hown, hret, hlk, hnm, hO⟩ := F
  obtain ⟨hH, hS, hLo, hst, hc, hsl⟩ := P
  have hn1 : len = 1 := by simpa [gLen] using hn
  subst hn1
  simp only [gStep] at hs
  split at hs
  · rename_i v v2 st1
    split at hs
    · cases hs
      obtain ⟨w1, m1, rfl, q1, h1⟩ := hst
      obtain ⟨w2, m2, rfl, q2, h2⟩ := h1
      refine lv_dup_x1 hx hb hd (gR_cat q1) (gR_cat q2) ?_
      exact kk ads H locs cells slots mls _ ⟨[], (List.append_nil _).symm⟩ ⟨hH, hS, hLo, ⟨_, _, rfl, q1, _, _, rfl, q2, _, m2, rfl, q1, h2⟩, hc, hsl⟩
    · cases hs
  · cases hs
theorem gs_dup2 (HL : gLf sL D ex sc aL) (F : gFr sL m p s mth meth c) (hd : decode (gB m) pc = .ok (.dup2, len)) (hn : gLen (.dup2) len = true) (hres : gRes m pc (.dup2, len, a, b) hp = true) (hs : gStep sc (.dup2, len, a, b) pc ls st h = some r)
    (P : gPt sL.heap.size D ex h0 s (gMx m) ls st h ads H locs cells slots mls mst) (kk : gKk sL D ex m p l e R s mth args below meth c Q h0 ads r) : W p l e R s mth args below meth c H locs cells slots Q (F0 mth pc mls mst) := by
  obtain ⟨hx, hb, hml, hown, hret, hlk, hnm, hO⟩ := F
  obtain ⟨hH, hS, hLo, hst, hc, hsl⟩ := P
  have hn1 : len = 1 := by simpa [gLen] using hn
  subst hn1
  simp only [gStep] at hs
  split at hs
  · rename_i v v2 st1
    split at hs
    · cases hs
      obtain ⟨w1, m1, rfl, q1, h1⟩ := hst
      obtain ⟨w2, m2, rfl, q2, h2⟩ := h1
      refine lv_dup2_11 hx hb hd (gR_cat q1) (gR_cat q2) ?_
      exact kk ads H locs cells slots mls _ ⟨[], (List.append_nil _).symm⟩ ⟨hH, hS, hLo, ⟨_, _, rfl, q1, _, _, rfl, q2, _, _, rfl, q1, _, m2, rfl, q2, h2⟩, hc, hsl⟩
    · cases hs
  · cases hs
theorem gs_goto {z : Int} (HL : gLf sL D ex sc aL) (F : gFr sL m p s mth meth c) (hd : decode (gB m) pc = .ok (.goto z, len)) (hn : gLen (.goto z) len = true) (hres : gRes m pc (.goto z, len, a, b) hp = true) (hs : gStep sc (.goto z, len, a, b) pc ls st h = some r)
    (P : gPt sL.heap.size D ex h0 s (gMx m) ls st h ads H locs cells slots mls mst) (kk : gKk sL D ex m p l e R s mth args below meth c Q h0 ads r) : W p l e R s mth args below meth c H locs cells slots Q (F0 mth pc mls mst) := by
  obtain ⟨hx, hb, hml, hown, hret, hlk, hnm, hO⟩ := F
  obtain ⟨hH, hS, hLo, hst, hc, hsl⟩ := P
  have hn1 : len = 3 := by simpa [gLen] using hn
  subst hn1
  simp only [gStep] at hs
  have ht : (pc : Int) + z = (a : Int) := by simpa [gRes] using hres
  cases hs
  refine lv_goto hx hb hd ht ?_
  exact kk ads H locs cells slots mls _ ⟨[], (List.append_nil _).symm⟩ ⟨hH, hS, hLo, hst, hc, hsl⟩
theorem gs_ifCond {y : ClassFile.Cond} {z : Int} (HL : gLf sL D ex sc aL) (F : gFr sL m p s mth meth c) (hd : decode (gB m) pc = .ok (.ifCond y z, len)) (hn : gLen (.ifCond y z) len = true) (hres : gRes m pc (.ifCond y z, len, a, b) hp = true) (hs : gStep sc (.ifCond y z, len, a, b) pc ls st h = some r)
    (P : gPt sL.heap.size D ex h0 s (gMx m) ls st h ads H locs cells slots mls mst) (kk : gKk sL D ex m p l e R s mth args below meth c Q h0 ads r) : W p l e R s mth args below meth c H locs cells slots Q (F0 mth pc mls mst) := by
  obtain ⟨hx, hb, hml, hown, hret, hlk, hnm, hO⟩ := F
  obtain ⟨hH, hS, hLo, hst, hc, hsl⟩ := P
  have hn1 : len = 3 := by simpa [gLen] using hn
  subst hn1
  simp only [gStep] at hs
  have ht : (pc : Int) + z = (a : Int) := by simpa [gRes] using hres
  split at hs
  · rename_i x st1
    obtain ⟨m1, rfl, h1⟩ := gRs_i hst
    cases y
    · refine lv_if_eq hx hb hd ht (fun hc9 => ?_) (fun hc9 => ?_)
      · rw [if_pos (by simp only [gTest]; exact decide_eq_true hc9)] at hs
        cases hs
        exact kk ads H locs cells slots mls _ ⟨[], (List.append_nil _).symm⟩ ⟨hH, hS, hLo, h1, hc, hsl⟩
      · rw [if_neg (by simp only [gTest]; exact fun q9 => hc9 (of_decide_eq_true q9))] at hs
        cases hs
        exact kk ads H locs cells slots mls _ ⟨[], (List.append_nil _).symm⟩ ⟨hH, hS, hLo, h1, hc, hsl⟩
    · refine lv_if_ne hx hb hd ht (fun hc9 => ?_) (fun hc9 => ?_)
      · rw [if_pos (by simp only [gTest]; exact decide_eq_true hc9)] at hs
        cases hs
        exact kk ads H locs cells slots mls _ ⟨[], (List.append_nil _).symm⟩ ⟨hH, hS, hLo, h1, hc, hsl⟩
      · rw [if_neg (by simp only [gTest]; exact fun q9 => (of_decide_eq_true q9) hc9)] at hs
        cases hs
        exact kk ads H locs cells slots mls _ ⟨[], (List.append_nil _).symm⟩ ⟨hH, hS, hLo, h1, hc, hsl⟩
    · refine lv_if_lt hx hb hd ht (fun hc9 => ?_) (fun hc9 => ?_)
      · rw [if_pos (by simp only [gTest]; exact decide_eq_true hc9)] at hs
        cases hs
        exact kk ads H locs cells slots mls _ ⟨[], (List.append_nil _).symm⟩ ⟨hH, hS, hLo, h1, hc, hsl⟩
      · rw [if_neg (by simp only [gTest]; exact fun q9 => hc9 (of_decide_eq_true q9))] at hs
        cases hs
        exact kk ads H locs cells slots mls _ ⟨[], (List.append_nil _).symm⟩ ⟨hH, hS, hLo, h1, hc, hsl⟩
    · refine lv_if_ge hx hb hd ht (fun hc9 => ?_) (fun hc9 => ?_)
      · rw [if_pos (by simp only [gTest]; exact decide_eq_true hc9)] at hs
        cases hs
        exact kk ads H locs cells slots mls _ ⟨[], (List.append_nil _).symm⟩ ⟨hH, hS, hLo, h1, hc, hsl⟩
      · rw [if_neg (by simp only [gTest]; exact fun q9 => hc9 (of_decide_eq_true q9))] at hs
        cases hs
        exact kk ads H locs cells slots mls _ ⟨[], (List.append_nil _).symm⟩ ⟨hH, hS, hLo, h1, hc, hsl⟩
    · refine lv_if_gt hx hb hd ht (fun hc9 => ?_) (fun hc9 => ?_)
      · rw [if_pos (by simp only [gTest]; exact decide_eq_true hc9)] at hs
        cases hs
        exact kk ads H locs cells slots mls _ ⟨[], (List.append_nil _).symm⟩ ⟨hH, hS, hLo, h1, hc, hsl⟩
      · rw [if_neg (by simp only [gTest]; exact fun q9 => hc9 (of_decide_eq_true q9))] at hs
        cases hs
        exact kk ads H locs cells slots mls _ ⟨[], (List.append_nil _).symm⟩ ⟨hH, hS, hLo, h1, hc, hsl⟩
    · refine lv_if_le hx hb hd ht (fun hc9 => ?_) (fun hc9 => ?_)
      · rw [if_pos (by simp only [gTest]; exact decide_eq_true hc9)] at hs
        cases hs
        exact kk ads H locs cells slots mls _ ⟨[], (List.append_nil _).symm⟩ ⟨hH, hS, hLo, h1, hc, hsl⟩
      · rw [if_neg (by simp only [gTest]; exact fun q9 => hc9 (of_decide_eq_true q9))] at hs
        cases hs
        exact kk ads H locs cells slots mls _ ⟨[], (List.append_nil _).symm⟩ ⟨hH, hS, hLo, h1, hc, hsl⟩
  · cases hs
theorem gs_if_icmp {y : ClassFile.Cond} {z : Int} (HL : gLf sL D ex sc aL) (F : gFr sL m p s mth meth c) (hd : decode (gB m) pc = .ok (.if_icmp y z, len)) (hn : gLen (.if_icmp y z) len = true) (hres : gRes m pc (.if_icmp y z, len, a, b) hp = true) (hs : gStep sc (.if_icmp y z, len, a, b) pc ls st h = some r)
    (P : gPt sL.heap.size D ex h0 s (gMx m) ls st h ads H locs cells slots mls mst) (kk : gKk sL D ex m p l e R s mth args below meth c Q h0 ads r) : W p l e R s mth args below meth c H locs cells slots Q (F0 mth pc mls mst) := by
  obtain ⟨hx, hb, hml, hown, hret, hlk, hnm, hO⟩ := F
  obtain ⟨hH, hS, hLo, hst, hc, hsl⟩ := P
  have hn1 : len = 3 := by simpa [gLen] using hn
  subst hn1
  simp only [gStep] at hs
  have ht : (pc : Int) + z = (a : Int) := by simpa [gRes] using hres
  split at hs
  · rename_i y9 x st1
    obtain ⟨m1, rfl, h1⟩ := gRs_i hst
    obtain ⟨m2, rfl, h2⟩ := gRs_i h1
    cases y
    · refine lv_icmp_eq hx hb hd ht (fun hc9 => ?_) (fun hc9 => ?_)
      · rw [if_pos (by simp only [gTest]; exact decide_eq_true hc9)] at hs
        cases hs
        exact kk ads H locs cells slots mls _ ⟨[], (List.append_nil _).symm⟩ ⟨hH, hS, hLo, h2, hc, hsl⟩
      · rw [if_neg (by simp only [gTest]; exact fun q9 => hc9 (of_decide_eq_true q9))] at hs
        cases hs
        exact kk ads H locs cells slots mls _ ⟨[], (List.append_nil _).symm⟩ ⟨hH, hS, hLo, h2, hc, hsl⟩
    · refine lv_icmp_ne hx hb hd ht (fun hc9 => ?_) (fun hc9 => ?_)
      · rw [if_pos (by simp only [gTest]; exact decide_eq_true hc9)] at hs
        cases hs
        exact kk ads H locs cells slots mls _ ⟨[], (List.append_nil _).symm⟩ ⟨hH, hS, hLo, h2, hc, hsl⟩
      · rw [if_neg (by simp only [gTest]; exact fun q9 => (of_decide_eq_true q9) hc9)] at hs
        cases hs
        exact kk ads H locs cells slots mls _ ⟨[], (List.append_nil _).symm⟩ ⟨hH, hS, hLo, h2, hc, hsl⟩
    · refine lv_icmp_lt hx hb hd ht (fun hc9 => ?_) (fun hc9 => ?_)
      · rw [if_pos (by simp only [gTest]; exact decide_eq_true hc9)] at hs
        cases hs
        exact kk ads H locs cells slots mls _ ⟨[], (List.append_nil _).symm⟩ ⟨hH, hS, hLo, h2, hc, hsl⟩
      · rw [if_neg (by simp only [gTest]; exact fun q9 => hc9 (of_decide_eq_true q9))] at hs
        cases hs
        exact kk ads H locs cells slots mls _ ⟨[], (List.append_nil _).symm⟩ ⟨hH, hS, hLo, h2, hc, hsl⟩
    · refine lv_icmp_ge hx hb hd ht (fun hc9 => ?_) (fun hc9 => ?_)
      · rw [if_pos (by simp only [gTest]; exact decide_eq_true hc9)] at hs
        cases hs
        exact kk ads H locs cells slots mls _ ⟨[], (List.append_nil _).symm⟩ ⟨hH, hS, hLo, h2, hc, hsl⟩
      · rw [if_neg (by simp only [gTest]; exact fun q9 => hc9 (of_decide_eq_true q9))] at hs
        cases hs
        exact kk ads H locs cells slots mls _ ⟨[], (List.append_nil _).symm⟩ ⟨hH, hS, hLo, h2, hc, hsl⟩
    · refine lv_icmp_gt hx hb hd ht (fun hc9 => ?_) (fun hc9 => ?_)
      · rw [if_pos (by simp only [gTest]; exact decide_eq_true hc9)] at hs
        cases hs
        exact kk ads H locs cells slots mls _ ⟨[], (List.append_nil _).symm⟩ ⟨hH, hS, hLo, h2, hc, hsl⟩
      · rw [if_neg (by simp only [gTest]; exact fun q9 => hc9 (of_decide_eq_true q9))] at hs
        cases hs
        exact kk ads H locs cells slots mls _ ⟨[], (List.append_nil _).symm⟩ ⟨hH, hS, hLo, h2, hc, hsl⟩
    · refine lv_icmp_le hx hb hd ht (fun hc9 => ?_) (fun hc9 => ?_)
      · rw [if_pos (by simp only [gTest]; exact decide_eq_true hc9)] at hs
        cases hs
        exact kk ads H locs cells slots mls _ ⟨[], (List.append_nil _).symm⟩ ⟨hH, hS, hLo, h2, hc, hsl⟩
      · rw [if_neg (by simp only [gTest]; exact fun q9 => hc9 (of_decide_eq_true q9))] at hs
        cases hs
        exact kk ads H locs cells slots mls _ ⟨[], (List.append_nil _).symm⟩ ⟨hH, hS, hLo, h2, hc, hsl⟩
  · cases hs
theorem gs_ifnull {z : Int} (HL : gLf sL D ex sc aL) (F : gFr sL m p s mth meth c) (hd : decode (gB m) pc = .ok (.ifnull z, len)) (hn : gLen (.ifnull z) len = true) (hres : gRes m pc (.ifnull z, len, a, b) hp = true) (hs : gStep sc (.ifnull z, len, a, b) pc ls st h = some r)
    (P : gPt sL.heap.size D ex h0 s (gMx m) ls st h ads H locs cells slots mls mst) (kk : gKk sL D ex m p l e R s mth args below meth c Q h0 ads r) : W p l e R s mth args below meth c H locs cells slots Q (F0 mth pc mls mst) := by
  obtain ⟨hx, hb, hml, hown, hret, hlk, hnm, hO⟩ := F
  obtain ⟨hH, hS, hLo, hst, hc, hsl⟩ := P
  have hn1 : len = 3 := by simpa [gLen] using hn
  subst hn1
  simp only [gStep] at hs
  have ht : (pc : Int) + z = (a : Int) := by simpa [gRes] using hres
  split at hs
  · rename_i st1
    cases hs
    obtain ⟨m1, rfl, h1⟩ := gRs_n hst
    refine lv_ifnullN hx hb hd ht ?_
    exact kk ads H locs cells slots mls _ ⟨[], (List.append_nil _).symm⟩ ⟨hH, hS, hLo, h1, hc, hsl⟩
  · rename_i x st1
    cases hs
    obtain ⟨a9, m1, ha, rfl, h1⟩ := gRs_r hst
    refine lv_ifnull hx hb hd ?_
    exact kk ads H locs cells slots mls _ ⟨[], (List.append_nil _).symm⟩ ⟨hH, hS, hLo, h1, hc, hsl⟩
  · cases hs
theorem gs_ifnonnull {z : Int} (HL : gLf sL D ex sc aL) (F : gFr sL m p s mth meth c) (hd : decode (gB m) pc = .ok (.ifnonnull z, len)) (hn : gLen (.ifnonnull z) len = true) (hres : gRes m pc (.ifnonnull z, len, a, b) hp = true) (hs : gStep sc (.ifnonnull z, len, a, b) pc ls st h = some r)
    (P : gPt sL.heap.size D ex h0 s (gMx m) ls st h ads H locs cells slots mls mst) (kk : gKk sL D ex m p l e R s mth args below meth c Q h0 ads r) : W p l e R s mth args below meth c H locs cells slots Q (F0 mth pc mls mst) := by
  obtain ⟨hx, hb, hml, hown, hret, hlk, hnm, hO⟩ := F
  obtain ⟨hH, hS, hLo, hst, hc, hsl⟩ := P
  have hn1 : len = 3 := by simpa [gLen] using hn
  subst hn1
  simp only [gStep] at hs
  have ht : (pc : Int) + z = (a : Int) := by simpa [gRes] using hres
  split at hs
  · rename_i st1
    cases hs
    obtain ⟨m1, rfl, h1⟩ := gRs_n hst
    refine lv_ifnonnullN hx hb hd ?_
    exact kk ads H locs cells slots mls _ ⟨[], (List.append_nil _).symm⟩ ⟨hH, hS, hLo, h1, hc, hsl⟩
  · rename_i x st1
    cases hs
    obtain ⟨a9, m1, ha, rfl, h1⟩ := gRs_r hst
    refine lv_ifnonnull hx hb hd ht ?_
    exact kk ads H locs cells slots mls _ ⟨[], (List.append_nil _).symm⟩ ⟨hH, hS, hLo, h1, hc, hsl⟩
  · cases hs
theorem gs_tableswitch {df lo hi : Int} {offs : Array Int} (HL : gLf sL D ex sc aL) (F : gFr sL m p s mth meth c) (hd : decode (gB m) pc = .ok (.tableswitch df lo hi offs, len)) (hres : gRes m pc (.tableswitch df lo hi offs, len, a, b) hp = true) (hs : gStep sc (.tableswitch df lo hi offs, len, a, b) pc ls st h = some r)
    (P : gPt sL.heap.size D ex h0 s (gMx m) ls st h ads H locs cells slots mls mst) (kk : gKk sL D ex m p l e R s mth args below meth c Q h0 ads r) : W p l e R s mth args below meth c H locs cells slots Q (F0 mth pc mls mst) := by
  obtain ⟨hx, hb, hml, hown, hret, hlk, hnm, hO⟩ := F
  obtain ⟨hH, hS, hLo, hst, hc, hsl⟩ := P
  simp only [gStep] at hs
  simp only [gRes, Bool.and_eq_true, decide_eq_true_eq] at hres
  split at hs
  · rename_i x st1
    obtain ⟨m1, rfl, h1⟩ := gRs_i hst
    split at hs
    · rename_i hout
      cases hs
      refine lv_tableOut hx hb hd hout (Int.toNat_of_nonneg hres.1).symm ?_
      exact kk ads H locs cells slots mls _ ⟨[], (List.append_nil _).symm⟩ ⟨hH, hS, hLo, h1, hc, hsl⟩
    · rename_i hin
      split at hs
      · rename_i off hoff
        cases hs
        have h9 := of_decide_eq_true (List.all_eq_true.mp hres.2 off (Array.mem_toList_iff.mpr (Array.mem_of_getElem? hoff)))
        refine lv_tableIn hx hb hd (fun q => hin (Or.inl q)) (fun q => hin (Or.inr q)) hoff (Int.toNat_of_nonneg h9).symm ?_
        exact kk ads H locs cells slots mls _ ⟨[], (List.append_nil _).symm⟩ ⟨hH, hS, hLo, h1, hc, hsl⟩
      · cases hs
  · cases hs
theorem g_osw {df x : Int} : ∀ {ps : List (Int × Int)}, Op.lookupswitch.offset ps df x = df ∨ ∃ q ∈ ps, Op.lookupswitch.offset ps df x = q.2
  | [] => Or.inl rfl
  | (k, o) :: ps => by
    rw [Op.lookupswitch.offset_cons]
    split
    · exact Or.inr ⟨(k, o), List.mem_cons_self, rfl⟩
    · rcases g_osw (df := df) (x := x) (ps := ps) with q | ⟨q, q1, q2⟩
      · exact Or.inl q
      · exact Or.inr ⟨q, List.mem_cons_of_mem _ q1, q2⟩
theorem gs_lookupswitch {df : Int} {ps : Array (Int × Int)} (HL : gLf sL D ex sc aL) (F : gFr sL m p s mth meth c) (hd : decode (gB m) pc = .ok (.lookupswitch df ps, len)) (hres : gRes m pc (.lookupswitch df ps, len, a, b) hp = true) (hs : gStep sc (.lookupswitch df ps, len, a, b) pc ls st h = some r)
    (P : gPt sL.heap.size D ex h0 s (gMx m) ls st h ads H locs cells slots mls mst) (kk : gKk sL D ex m p l e R s mth args below meth c Q h0 ads r) : W p l e R s mth args below meth c H locs cells slots Q (F0 mth pc mls mst) := by
  obtain ⟨hx, hb, hml, hown, hret, hlk, hnm, hO⟩ := F
  obtain ⟨hH, hS, hLo, hst, hc, hsl⟩ := P
  simp only [gStep] at hs
  simp only [gRes, Bool.and_eq_true, decide_eq_true_eq] at hres
  split at hs
  · rename_i x st1
    obtain ⟨m1, rfl, h1⟩ := gRs_i hst
    cases hs
    have h9 : 0 ≤ (pc : Int) + Op.lookupswitch.offset ps.toList df x.toInt := by
      rcases g_osw (df := df) (x := x.toInt) (ps := ps.toList) with q | ⟨q, q1, q2⟩
      · rw [q]; exact hres.1.1
      · rw [q2]; exact of_decide_eq_true (List.all_eq_true.mp hres.1.2 q q1)
    refine lv_lookup hx hb hd hres.2 rfl (Int.toNat_of_nonneg h9).symm ?_
    exact kk ads H locs cells slots mls _ ⟨[], (List.append_nil _).symm⟩ ⟨hH, hS, hLo, h1, hc, hsl⟩
  · cases hs
end SND
