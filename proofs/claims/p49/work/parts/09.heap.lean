/-- the words of a class's fields, by their places -/
def gUok (q : vw_C) (ps : List Nat) : Bool := (List.range q.2.2).all (fun k => gW ps k (u_lay q.1 q.2.1 k) && goodWord (u_lay q.1 q.2.1 k))
def gUp : List (List Nat) := [[111, 107, 109], [1358, 1360], [915, 917, 919, 921, 923], [1133, 1135, 1137, 1139], [850, 852, 854], [126, 128, 130], [837, 839], [1238, 1240, 1242, 1244, 1246, 1248, 1250], [995, 997, 999, 1001, 1003, 1005, 1007], [1088, 1090], [937, 939, 941, 943], [151, 153, 155, 157, 159, 161, 163, 165, 167, 169, 171, 173, 175, 177, 179, 181, 183, 185]]
theorem gUok_all : (gCl.zip gUp).all (fun q => gUok q.1 q.2) = true := by decide +kernel
theorem gCl_words {ci : Nat} {q : vw_C} (h : gCl[ci]? = some q) : ∀ w ∈ u_ws q.1 q.2.1 q.2.2, w ∈ lw_tbl ∧ goodWord w = true := by
  have hl : ci < 12 := (List.getElem?_eq_some_iff.mp h).1
  obtain ⟨ps, hp⟩ : ∃ ps, gUp[ci]? = some ps := ⟨gUp[ci]'hl, List.getElem?_eq_getElem hl⟩
  have hz : (q, ps) ∈ gCl.zip gUp := List.mem_of_getElem? (i := ci) (by rw [List.getElem?_zip_eq_some]; exact ⟨h, hp⟩)
  have h1 := List.all_eq_true.mp (List.all_eq_true.mp gUok_all _ hz)
  intro w hw
  obtain ⟨k, hk, rfl⟩ := List.mem_map.mp hw
  have h2 := h1 k hk
  rw [Bool.and_eq_true] at h2
  exact ⟨gW_in h2.1, h2.2⟩
def gTok (ci : Nat) (q : vw_C) : Bool := (List.range q.2.2).all (fun k => decide (parseFieldDescriptor (q.2.1 k).2.2.1 = some (gTy ci k)) && decide (defaultValue (gTy ci k) = gZ (gTy ci k)) && (List.range q.2.2).all (fun j => decide (j = k) || decide ((q.2.1 j).2.1 ≠ (q.2.1 k).2.1)))
theorem gTok_all : (List.range 12).all (fun ci => match gCl[ci]? with | some q => gTok ci q | none => false) = true := by decide +kernel
theorem gCl_types {ci : Nat} {q : vw_C} (h : gCl[ci]? = some q) : (∀ k, k < q.2.2 → parseFieldDescriptor (q.2.1 k).2.2.1 = some (gTy ci k)) ∧ (∀ k, k < q.2.2 → defaultValue (gTy ci k) = gZ (gTy ci k)) ∧ ∀ a, a < q.2.2 → ∀ b, b < q.2.2 → a ≠ b → (q.2.1 a).2.1 ≠ (q.2.1 b).2.1 := by
  have hl : ci < 12 := (List.getElem?_eq_some_iff.mp h).1
  have h1 := List.all_eq_true.mp gTok_all ci (List.mem_range.mpr hl)
  rw [h] at h1
  have h2 := List.all_eq_true.mp (show gTok ci q = true from h1)
  have h3 : ∀ k, k < q.2.2 → _ := fun k hk => h2 k (List.mem_range.mpr hk)
  simp only [Bool.and_eq_true, decide_eq_true_eq] at h3
  refine ⟨fun k hk => (h3 k hk).1.1, fun k hk => (h3 k hk).1.2, fun a ha b hb hab => ?_⟩
  have h4 := List.all_eq_true.mp (h3 b hb).2 a (List.mem_range.mpr ha)
  simp only [Bool.or_eq_true, decide_eq_true_eq] at h4
  exact h4.resolve_left hab
theorem gCell {B : Nat} {D : va_G} {ex : Nat → Nat} {ads : List Nat} {h : gH} {ws : va_W} {tys : List (ClassId × FieldType)} (hads : ws.map Prod.fst = ads)
    (hcor : ∀ (k : Nat) (x : gC), h.2.2[k]? = some x → ∃ (a : Nat) (e : va_E), ws[k]? = some (a, e) ∧ gRc ads ex tys x e) {r a : Nat} {x : gC} (ha : ads[r]? = some a) (hx : gGet h r = some x) : ∃ e, ws[r]? = some (a, e) ∧ gRc ads ex tys x e := by
  obtain ⟨a', e, h1, h2⟩ := hcor r x hx
  rw [← hads, List.getElem?_map, h1] at ha
  cases ha
  exact ⟨e, h1, h2⟩
theorem gSet_ads {ws : va_W} {ads : List Nat} {r a : Nat} {e e' : va_E} (hads : ws.map Prod.fst = ads) (hr : ws[r]? = some (a, e)) : (ws.set r (a, e')).map Prod.fst = ads := by
  rw [← hads]
  apply List.ext_getElem?
  intro k
  rw [List.getElem?_map, List.getElem?_map, List.getElem?_set]
  by_cases hk : r = k
  · subst hk
    rw [if_pos rfl, if_pos (List.getElem?_eq_some_iff.mp hr).1, hr]
    rfl
  · rw [if_neg hk]
theorem gHp_put {B : Nat} {D : va_G} {ex : Nat → Nat} {ads : List Nat} {h : gH} {s : State} {ws : va_W} {tys : List (ClassId × FieldType)} {H' : Heap} {r a : Nat} {x' : gC} {e e' : va_E} (hads : ws.map Prod.fst = ads) (hlen : ws.length = h.2.2.length)
    (hcor : ∀ (k : Nat) (x : gC), h.2.2[k]? = some x → ∃ (a : Nat) (e : va_E), ws[k]? = some (a, e) ∧ gRc ads ex tys x e) (hr : ws[r]? = some (a, e)) (hrc : gRc ads ex tys x' e')
    (hP : va_P D gCl (ws.set r (a, e')) H') (hD : va_D (fun q => B ≤ q) (ws.set r (a, e'))) (hK : va_K D gCl tys s) : gHp B D ex ads (gPut h r x') s H' := by
  refine ⟨ws.set r (a, e'), tys, gSet_ads hads hr, hP, hD, hK, by simp [gPut, hlen], fun k x hk => ?_⟩
  simp only [gPut, List.getElem?_set] at hk
  rw [List.getElem?_set]
  by_cases hrk : r = k
  · subst hrk
    rw [if_pos rfl] at hk ⊢
    have hl := (List.getElem?_eq_some_iff.mp hr).1
    rw [if_pos (by rw [← hlen]; exact hl)] at hk
    rw [if_pos hl]
    cases hk
    exact ⟨a, e', rfl, hrc⟩
  · rw [if_neg hrk] at hk ⊢
    exact hcor k x hk
theorem gHp_new {B : Nat} {D : va_G} {ex : Nat → Nat} {ads : List Nat} {h : gH} {s : State} {ws : va_W} {tys ty' : List (ClassId × FieldType)} {H' : Heap} {q n : Nat} {x' : gC} {e' : va_E} (hads : ws.map Prod.fst = ads) (hlen : ws.length = h.2.2.length)
    (hcor : ∀ (k : Nat) (x : gC), h.2.2[k]? = some x → ∃ (a : Nat) (e : va_E), ws[k]? = some (a, e) ∧ gRc ads ex tys x e) (hrc : gRc (ads ++ [q]) ex (tys ++ ty') x' e')
    (hP : va_P D gCl (ws ++ [(q, e')]) H') (hD : va_D (fun q => B ≤ q) (ws ++ [(q, e')])) (hK : va_K D gCl (tys ++ ty') s) : gHp B D ex (ads ++ [q]) (gNew h n x') s H' := by
  refine ⟨ws ++ [(q, e')], tys ++ ty', by rw [List.map_append, hads]; rfl, hP, hD, hK, by simp [gNew, hlen], fun k x hk => ?_⟩
  simp only [gNew] at hk
  by_cases hkl : k < h.2.2.length
  · rw [List.getElem?_append_left hkl] at hk
    obtain ⟨a, e, h1, h2⟩ := hcor k x hk
    exact ⟨a, e, by rw [List.getElem?_append_left (by rw [hlen]; exact hkl)]; exact h1, gRc_up _ _ h2⟩
  · rw [List.getElem?_append_right (by omega)] at hk
    have hz : k - h.2.2.length < 1 := (List.getElem?_eq_some_iff.mp hk).1
    have e0 : k = h.2.2.length := by omega
    subst e0
    rw [Nat.sub_self] at hk
    cases hk
    refine ⟨q, e', ?_, hrc⟩
    rw [← hlen, List.getElem?_append_right (Nat.le_refl _), Nat.sub_self]
    rfl
theorem gRs_gZ {ads : List Nat} {ex : Nat → Nat} (f : Nat → FieldType) : ∀ l : List Nat, gRs ads ex (l.map (fun k => gZ (f k))) (l.map (fun k => gZ (f k)))
  | [] => rfl
  | k :: l => by
    refine ⟨_, _, rfl, ?_, gRs_gZ f l⟩
    show gR ads ex (gZ (f k)) (gZ (f k))
    cases f k <;> exact rfl
section SND2
variable {sL : State} {D : va_G} {ex : Nat → Nat} {sc : gSc} {aL : Array Value} {m : Nat} {p : Program} {l : Launch} {e : Env} {R : Room} {s : State} {mth : MethodId} {args : Array Value} {below : List Frame} {meth : Method} {c : Code} {Q : State → Prop}
variable {len a b pc z : Nat} {ls : gL} {st : List Value} {h h0 : gH} {r : gQ} {ads : List Nat} {H : Heap} {locs : List Loc} {cells slots : Nat} {mls : Array Slot} {mst : List Value} {hp : List Nat}
theorem gU_at {args : Array Value} (HL : gLf sL D ex sc aL) (hO : gOld sL s s.heap) {ci : Nat} {q : vw_C} (hcl : gCl[ci]? = some q) : ∀ w ∈ u_ws q.1 q.2.1 q.2.2, w.before args s = true := fun w hw => gw_at hO.1 HL.1 (gCl_words hcl w hw).1 (gCl_words hcl w hw).2 _
/-- a field's link at s, and its name's meaning -/
theorem gFl_at {args : Array Value} (HL : gLf sL D ex sc aL) (hO : gOld sL s s.heap) {own : String} {i ci b : Nat} {C : String} {T : u_T} {N : Nat} (hcl : gCl[ci]? = some (C, T, N)) (hf : gFl hp own i ci b = true) :
    b < N ∧ ∃ ref, (Cond.fieldLink own i ref (T b).2.1 (T b).2.2.1).before args s = true ∧ ∀ x, s.fieldFound? (T b).1 (T b).2.1 (T b).2.2.1 = some x → s.fieldFound? ref (T b).2.1 (T b).2.2.1 = some x := by
  unfold gFl at hf
  rw [hcl] at hf
  simp only [Bool.and_eq_true, Bool.or_eq_true, decide_eq_true_eq] at hf
  refine ⟨hf.1, ?_⟩
  rcases hf.2 with h1 | ⟨h1, h2⟩
  · exact ⟨_, gw_at hO.1 HL.1 (gW_in h1) rfl _, fun x hx => hx⟩
  · exact ⟨_, gw_at hO.1 HL.1 (gW_in h1) rfl _, u_same (args := args) (gw_at hO.1 HL.1 (gW_in h2) rfl _)⟩
theorem gs_getfield (HL : gLf sL D ex sc aL) (F : gFr sL m p s mth meth c) (hd : decode (gB m) pc = .ok (.getfield z, len)) (hn : gLen (.getfield z) len = true) (hres : gRes m pc (.getfield z, len, a, b) hp = true) (hs : gStep sc (.getfield z, len, a, b) pc ls st h = some r)
    (P : gPt sL.heap.size D ex h0 s (gMx m) ls st h ads H locs cells slots mls mst) (kk : gKk sL D ex m p l e R s mth args below meth c Q h0 ads r) : W p l e R s mth args below meth c H locs cells slots Q (F0 mth pc mls mst) := by
  obtain ⟨hx, hb, hml, hown, hret, hlk, hnm, hO⟩ := F
  obtain ⟨hH, hS, hLo, hst, hc, hsl⟩ := P
  have hn1 : len = 3 := by simpa [gLen] using hn
  subst hn1
  simp only [gStep] at hs
  split at hs
  · rename_i r9 st1
    split at hs
    · rename_i ci fs hq
      split at hs
      · rename_i hci
        split at hs
        · rename_i v hv
          cases hs
          obtain ⟨a9, m1, ha, rfl, h1⟩ := gRs_r hst
          obtain ⟨ws, tys, hads, hP, hD, hK, hlen, hcor⟩ := id hH
          obtain ⟨e9, he, fs', rfl, hfs⟩ := gCell (B := 0) (D := D) hads hcor ha hq
          obtain ⟨w, hw, hvw⟩ := gRs_at hfs hv
          obtain ⟨⟨C, T, N⟩, hcl, -⟩ := hP _ _ he
          have hl : ci < 12 := (List.getElem?_eq_some_iff.mp hcl).1
          have hf : gFl hp (gY m).cls z ci b = true := by
            subst hci
            simp only [gRes, Bool.or_eq_true, decide_eq_true_eq] at hres
            exact hres.resolve_left (by omega)
          obtain ⟨hbN, ref, hlink, hsame⟩ := gFl_at (args := args) HL hO hcl hf
          refine va_get (D := D) (ci := ci) hx hb (gU_at HL hO hcl) (fun w h => h) hown hK hP r9 he hcl b hbN hlink hsame hw hd ?_
          exact kk ads H locs cells slots mls _ ⟨[], (List.append_nil _).symm⟩ ⟨hH, hS, hLo, ⟨_, m1, rfl, hvw, h1⟩, hc, hsl⟩
        · cases hs
      · cases hs
    · cases hs
  · cases hs
theorem gs_putfield (HL : gLf sL D ex sc aL) (F : gFr sL m p s mth meth c) (hd : decode (gB m) pc = .ok (.putfield z, len)) (hn : gLen (.putfield z) len = true) (hres : gRes m pc (.putfield z, len, a, b) hp = true) (hs : gStep sc (.putfield z, len, a, b) pc ls st h = some r)
    (P : gPt sL.heap.size D ex h0 s (gMx m) ls st h ads H locs cells slots mls mst) (kk : gKk sL D ex m p l e R s mth args below meth c Q h0 ads r) : W p l e R s mth args below meth c H locs cells slots Q (F0 mth pc mls mst) := by
  obtain ⟨hx, hb, hml, hown, hret, hlk, hnm, hO⟩ := F
  obtain ⟨hH, hS, hLo, hst, hc, hsl⟩ := P
  have hn1 : len = 3 := by simpa [gLen] using hn
  subst hn1
  simp only [gStep] at hs
  split at hs
  · rename_i v r9 st1
    split at hs
    · rename_i ci fs hq
      split at hs
      · rename_i hcon
        obtain ⟨hci, hbl, hfit⟩ := hcon
        cases hs
        obtain ⟨w, m0, rfl, hvw, h0'⟩ := hst
        obtain ⟨a9, m1, ha, rfl, h1⟩ := gRs_r h0'
        obtain ⟨ws, tys, hads, hP, hD, hK, hlen, hcor⟩ := id hH
        obtain ⟨e9, he, fs', rfl, hfs⟩ := gCell (B := 0) (D := D) hads hcor ha hq
        obtain ⟨⟨C, T, N⟩, hcl, -⟩ := hP _ _ he
        have hl : ci < 12 := (List.getElem?_eq_some_iff.mp hcl).1
        subst hci
        simp only [gRes, Bool.or_eq_true, Bool.and_eq_true, decide_eq_true_eq, Bool.not_eq_true'] at hres
        obtain ⟨hf, hfin⟩ := hres.resolve_left (by omega)
        obtain ⟨hbN, ref, hlink, hsame⟩ := gFl_at (args := args) HL hO hcl hf
        obtain ⟨ht1, ht2, ht3⟩ := gCl_types hcl
        obtain ⟨hn9, hf9⟩ := gFit_ok hfit hvw
        have hbl' : b < fs'.length := by rw [gRs_len hfs]; exact hbl
        have e1 : gFin ci b = (T b).2.2.2 := by simp only [gFin, hcl]
        have e2 : gDcl ci b = (T b).1 := by simp only [gDcl, hcl]
        cases hfb : (T b).2.2.2 with
        | false =>
          refine va_put (D := D) (ci := ci) hx hb (gU_at HL hO hcl) (fun w h => h) (gTy ci) ht1 ht3 hown hK hP hD hS r9 he hcl b hbN hlink hsame hfb (ht1 b hbN) hn9 hf9 hbl' hd (fun H1 locs1 hP1 hD1 hS1 => ?_)
          exact kk ads H1 locs1 cells slots mls _ ⟨[], (List.append_nil _).symm⟩ ⟨gHp_put hads hlen hcor he ⟨_, rfl, gRs_set hfs b hvw⟩ hP1 hD1 hK, hS1, hLo, h1, hc, hsl⟩
        | true =>
          rw [e1, hfb] at hfin
          obtain ⟨hi1, hi2⟩ := hfin.resolve_left (by simp)
          rw [e2] at hi2
          refine va_putF (D := D) (ci := ci) hx hb (gU_at HL hO hcl) (fun w h => h) (gTy ci) ht1 ht3 hown hK hP hD hS r9 he hcl b hbN hlink hsame hfb (hnm.trans hi1) hi2 (ht1 b hbN) hn9 hf9 hbl' hd (fun H1 locs1 hP1 hD1 hS1 => ?_)
          exact kk ads H1 locs1 cells slots mls _ ⟨[], (List.append_nil _).symm⟩ ⟨gHp_put hads hlen hcor he ⟨_, rfl, gRs_set hfs b hvw⟩ hP1 hD1 hK, hS1, hLo, h1, hc, hsl⟩
      · cases hs
    · cases hs
  · cases hs
theorem gs_getstatic (HL : gLf sL D ex sc aL) (F : gFr sL m p s mth meth c) (hd : decode (gB m) pc = .ok (.getstatic z, len)) (hn : gLen (.getstatic z) len = true) (hres : gRes m pc (.getstatic z, len, a, b) hp = true) (hs : gStep sc (.getstatic z, len, a, b) pc ls st h = some r)
    (P : gPt sL.heap.size D ex h0 s (gMx m) ls st h ads H locs cells slots mls mst) (kk : gKk sL D ex m p l e R s mth args below meth c Q h0 ads r) : W p l e R s mth args below meth c H locs cells slots Q (F0 mth pc mls mst) := by
  obtain ⟨hx, hb, hml, hown, hret, hlk, hnm, hO⟩ := F
  obtain ⟨hH, hS, hLo, hst, hc, hsl⟩ := P
  have hn1 : len = 3 := by simpa [gLen] using hn
  subst hn1
  simp only [gStep] at hs
  split at hs
  · rename_i ha2
    cases hs
    subst ha2
    have hlink := gw_at (a' := args) hO.1 HL.1 (gW_in (by simpa [gRes] using hres)) rfl
    have hZ : va_Z "java/util/ArrayList" "DEFAULTCAPACITY_EMPTY_ELEMENTDATA" "[Ljava/lang/Object;" (.ref (ex 2)) (fun q => sL.heap.size ≤ q) s s.heap := (va_Z.moved hO.1.alike HL.2.2.2.2.1).kept (fun q hq _ => hO.2.2 q hq)
    refine va_gets hx hb hZ hS hown hlink (fun x hx => hx) hd ?_
    exact kk ads H locs cells slots mls _ ⟨[], (List.append_nil _).symm⟩ ⟨hH, hS, hLo, ⟨_, mst, rfl, ⟨by omega, rfl⟩, hst⟩, hc, hsl⟩
  · cases hs
theorem gs_new (HL : gLf sL D ex sc aL) (F : gFr sL m p s mth meth c) (hd : decode (gB m) pc = .ok (.new z, len)) (hn : gLen (.new z) len = true) (hres : gRes m pc (.new z, len, a, b) hp = true) (hs : gStep sc (.new z, len, a, b) pc ls st h = some r)
    (P : gPt sL.heap.size D ex h0 s (gMx m) ls st h ads H locs cells slots mls mst) (hroom : r.2.2.2.1 ≤ h0.1 + R.cells ∧ r.2.2.2.2.1 ≤ h0.2.1 + R.slots) (kk : gKk sL D ex m p l e R s mth args below meth c Q h0 ads r) : W p l e R s mth args below meth c H locs cells slots Q (F0 mth pc mls mst) := by
  obtain ⟨hx, hb, hml, hown, hret, hlk, hnm, hO⟩ := F
  obtain ⟨hH, hS, hLo, hst, hc, hsl⟩ := P
  have hn1 : len = 3 := by simpa [gLen] using hn
  subst hn1
  simp only [gStep] at hs
  split at hs
  · rename_i ha2
    cases hs
    obtain ⟨ws, tys, hads, hP, hD, hK, hlen, hcor⟩ := id hH
    obtain ⟨⟨C, T, N⟩, hcl⟩ : ∃ q, gCl[a]? = some q := ⟨_, List.getElem?_eq_getElem (show a < gCl.length from ha2)⟩
    have eC : gCn a = C := by simp only [gCn, hcl]
    have eN : gN a = N := by simp only [gN, hcl]
    simp only [gRes, if_neg (show ¬ 1000 ≤ a by omega), Bool.or_eq_true, Bool.and_eq_true, decide_eq_true_eq, eC, eN] at hres
    obtain ⟨⟨w1, w2⟩, w3⟩ := hres.resolve_left (by omega)
    obtain ⟨ht1, ht2, ht3⟩ := gCl_types hcl
    simp only [gNew, eN] at hroom
    refine va_new (ci := a) (C := C) (T := T) (N := N) (fs := (List.range N).map (fun k => gZ (gTy a k))) hx hb (gU_at HL hO hcl) (fun w h => h) (gTy a) ht1 hown (gw_at hO.1 HL.1 (gW_in w1) rfl _) (gw_at hO.1 HL.1 (gW_in w2) rfl _) (gw_at hO.1 HL.1 (gW_in w3) rfl _) hK hP hD hS (fun q hq => Nat.le_trans hO.2.1 hq) hcl (fun j hj => ?_) (by omega) (by omega) hd (fun q H1 hP1 hD1 hS1 => ?_)
    · rw [ht2 j hj]
      simp [vp_V, hj]
    · refine kk (ads ++ [q]) H1 locs (cells + 1) (slots + N) mls _ ⟨[q], rfl⟩ ⟨?_, hS1, gLo_up _ hLo, ⟨_, mst, rfl, ⟨q, ?_, rfl⟩, gRs_up _ hst⟩, by simp only [gNew]; omega, by simp only [gNew, eN]; omega⟩
      · exact gHp_new (ty' := []) hads hlen hcor ⟨_, rfl, by rw [eN]; exact gRs_gZ (gTy a) _⟩ hP1 hD1 (by rw [List.append_nil]; exact hK)
      · rw [← hads, ← hlen, List.getElem?_append_right (by simp)]
        simp
  · cases hs
end SND2
