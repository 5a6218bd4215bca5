/-! THROWS AND CATCHES -/
/-- what the launch and the law's start give of exceptions -/
def gLx (sL : State) (l : Launch) : Prop := l.stackTraces = false ∧ vx_Zq Bundle.tN "UNASSIGNED_STACK" Bundle.steD (fun q => sL.heap.size ≤ q) sL sL.heap ∧ vx_Zq Bundle.tN "SUPPRESSED_SENTINEL" Bundle.listD (fun q => sL.heap.size ≤ q) sL sL.heap ∧
  (∀ (own : String) (k : Nat) (t : String), Cond.stringRef own k t ∈ lw_tbl → ∃ sa, vk_R own k t sa sL) ∧ ∀ i j : Nat, j < i → i < 4 → va_Nc (gEx i) (gEx j) sL
def gNames : List String := ["java/lang/Exception"]
def gIc : Nat → Nat
  | 0 => 199
  | 1 => 42
  | 2 => 53
  | _ => 233
def gK7 : Nat → Nat
  | 3 => 13
  | _ => 7
def gB7 : Nat → ByteArray
  | 3 => ⟨#[0x2a, 0x2b, 0xb7, 0x00, 0x0d, 0xb1]⟩
  | _ => ⟨#[0x2a, 0x2b, 0xb7, 0x00, 0x07, 0xb1]⟩
def gRt0 : String := "java/lang/RuntimeException"
theorem gB7_ok (E : Nat) : decode (gB7 E) 0 = .ok (.aload_n 0, 1) ∧ decode (gB7 E) 1 = .ok (.aload_n 1, 1) ∧ decode (gB7 E) 2 = .ok (.invokespecial (gK7 E), 3) ∧ decode (gB7 E) 5 = .ok (.return_, 1) := by
  have h3 : decode (gB7 3) 0 = .ok (.aload_n 0, 1) ∧ decode (gB7 3) 1 = .ok (.aload_n 1, 1) ∧ decode (gB7 3) 2 = .ok (.invokespecial (gK7 3), 3) ∧ decode (gB7 3) 5 = .ok (.return_, 1) := ⟨by decide +kernel, by decide +kernel, by decide +kernel, by decide +kernel⟩
  have h0 : decode (gB7 0) 0 = .ok (.aload_n 0, 1) ∧ decode (gB7 0) 1 = .ok (.aload_n 1, 1) ∧ decode (gB7 0) 2 = .ok (.invokespecial (gK7 0), 3) ∧ decode (gB7 0) 5 = .ok (.return_, 1) := ⟨by decide +kernel, by decide +kernel, by decide +kernel, by decide +kernel⟩
  rcases E with _ | _ | _ | _ | E
  · exact h0
  · exact h0
  · exact h0
  · exact h3
  · exact h0
def gOkW (w : Cond) : Bool := goodWord w || (match w with
  | .castable _ _ => true
  | .declares _ => true
  | _ => false)
def gExOk (E : Nat) : Bool := (gAtA "StratumLedge" (gIc E) (gEx E) gRt0 (gK7 E) (gB7 E) gNames).all (fun w => lw_tbl.any (fun v => decide (v = w)) && gOkW w)
theorem gExOk_0 : gExOk 0 = true := by decide +kernel
theorem gExOk_1 : gExOk 1 = true := by decide +kernel
theorem gExOk_2 : gExOk 2 = true := by decide +kernel
theorem gExOk_3 : gExOk 3 = true := by decide +kernel
theorem gExOk_at {E : Nat} (hE : E < 4) : gExOk E = true := by
  rcases E with _ | _ | _ | _ | E
  · exact gExOk_0
  · exact gExOk_1
  · exact gExOk_2
  · exact gExOk_3
  · omega
theorem gOwn_eq {own own' X : String} {ic ic' : Nat} {w : Cond} (h : w ∈ Bundle.ownAtoms own ic X []) : w = Cond.methodLink own ic (Bundle.initS X) ∨ w ∈ Bundle.ownAtoms own' ic' X [] := by
  unfold Bundle.ownAtoms at h ⊢
  rcases List.mem_append.mp h with h | h
  · exact Or.inr (List.mem_append_left _ h)
  · rcases List.mem_cons.mp h with h | h
    · exact Or.inl h
    · exact Or.inr (List.mem_append_right _ (List.mem_cons_of_mem _ h))
theorem gExW {own : String} {ic E : Nat} (hE : E < 4) (hml : Cond.methodLink own ic (Bundle.initS (gEx E)) ∈ lw_tbl) : ∀ w ∈ gAtA own ic (gEx E) gRt0 (gK7 E) (gB7 E) gNames, w ∈ lw_tbl ∧ gOkW w = true := by
  intro w hw
  unfold gAtA at hw
  rw [List.mem_filter] at hw
  obtain ⟨h1, h2⟩ := hw
  have h3 : w = Cond.methodLink own ic (Bundle.initS (gEx E)) ∨ w ∈ gOwnA "StratumLedge" (gIc E) (gEx E) gRt0 (gK7 E) (gB7 E) gNames := by
    unfold gOwnA at h1 ⊢
    rcases List.mem_append.mp h1 with h | h
    · exact Or.inr (List.mem_append_left _ h)
    · rcases List.mem_cons.mp h with h | h
      · exact Or.inl h
      · rw [List.mem_filter] at h
        rcases gOwn_eq (own' := "StratumLedge") (ic' := gIc E) h.1 with h9 | h9
        · exact Or.inl h9
        · exact Or.inr (List.mem_append_right _ (List.mem_cons_of_mem _ (List.mem_filter.mpr ⟨h9, h.2⟩)))
  rcases h3 with h3 | h3
  · rw [h3]
    exact ⟨hml, rfl⟩
  · have h4 := List.all_eq_true.mp (gExOk_at hE) w (by unfold gAtA; exact List.mem_filter.mpr ⟨h3, h2⟩)
    simp only [Bool.and_eq_true] at h4
    obtain ⟨v, hv, e⟩ := List.any_eq_true.mp h4.1
    rw [of_decide_eq_true e] at hv
    exact ⟨hv, h4.2⟩
theorem gOkW_at {sL s : State} {aL args : Array Value} {w : Cond} (hW : sL.WarmedH s.vm) (HL : ∀ w ∈ lw_tbl, w.before aL sL = true) (hw : w ∈ lw_tbl) (hg : gOkW w = true) : w.before args s = true := by
  unfold gOkW at hg
  rw [Bool.or_eq_true] at hg
  rcases hg with hg | hg
  · exact gw_at hW HL hw hg _
  · split at hg
    · exact va_Nw.use rfl (va_Nw.warmC hW (va_Nw.of rfl (HL _ hw)))
    · exact va_Nw.use rfl (va_Nw.warmD hW (va_Nw.of rfl (HL _ hw)))
    · cases hg
theorem gOkW_ot {w : Cond} (hg : gOkW w = true) : vx_ot w = true := by
  unfold gOkW at hg
  rw [Bool.or_eq_true] at hg
  unfold vx_ot
  rw [Bool.or_eq_true]
  rcases hg with hg | hg
  · exact Or.inr hg
  · split at hg
    · exact Or.inl rfl
    · exact Or.inl rfl
    · cases hg
section THROW
variable {sL : State} {D : va_G} {ex : Nat → Nat} {sc : gSc} {aL : Array Value} {m : Nat} {p : Program} {l : Launch} {e : Env} {R : Room} {s : State} {mth : MethodId} {args : Array Value} {below : List Frame} {meth : Method} {c : Code} {Q : State → Prop}
variable {pc i E mc ms : Nat} {ls : gL} {st : List Value} {h h0 : gH} {ads : List Nat} {H : Heap} {locs : List Loc} {cells slots : Nat} {mls : Array Slot} {mst : List Value} {hp : List Nat} {Qc : Array Value → State → Outcome → State → Prop} {XC : String → State → State → Prop}
theorem gFit_ex (E : Nat) : Bundle.fit (gEx E) = true := by
  have h3 : Bundle.fit (gEx 3) = true := by decide +kernel
  rcases E with _ | _ | _ | E
  · decide +kernel
  · decide +kernel
  · decide +kernel
  · exact h3
theorem gThrow (HL : gLf sL D ex sc aL) (HX : gLx sL l) (F : gFr sL m p s mth meth c) (hT : c.exceptionTable.toList = []) (hthr : gThr hp (gY m).cls m pc i E = true) (hd : decode (gB m) pc = .ok (.new i, 3))
    (P : gPt sL.heap.size D ex h0 s (gMx m) ls st h ads H locs cells slots mls mst) (h8 : st.length ≤ 8) (hRf : 20 ≤ R.frames) (hRl : 400 ≤ R.locals) (hRc : cells + 1 ≤ R.cells) (hRs : slots + 6 ≤ R.slots) (hmc : cells + 1 ≤ mc) (hms : slots + 6 ≤ ms)
    (hX : ∀ t : State, s.vm.Alike t.vm → H.size ≤ t.heap.size → (∀ q : Nat, q < H.size → t.heap[q]? = H[q]?) → XC (gEx E) s t) : W p l e R s mth args below meth c H locs cells slots (vx_MQ below Qc XC args s mc ms (fun q => sL.heap.size ≤ q)) (F0 mth pc mls mst) := by
  obtain ⟨hx, hb, hml, hown, hret, hlk, hnm, hO⟩ := F
  obtain ⟨hH, hS, hLo, hst, hc, hsl⟩ := P
  obtain ⟨X1, X2, X3, X4, -⟩ := HX
  have hU := (vx_Zq.moved hO.1.alike X2).kept (fun q hq _ => hO.2.2 q hq)
  have hN := (vx_Zq.moved hO.1.alike X3).kept (fun q hq _ => hO.2.2 q hq)
  have hnames : ∀ n ∈ gNames, Bundle.fit n = true := by decide +kernel
  have main : ∀ is ic : Nat, gW hp 0 (.classLink (gY m).cls i (gEx E)) = true → gW hp 1 (.initialized (gEx E)) = true → gStrAt hp 2 (gY m).cls is = true → gW hp 3 (.methodLink (gY m).cls ic (Bundle.initS (gEx E))) = true → E < 4 →
      (∃ (text : String) (sa : Nat), vk_R (gY m).cls is text sa s) ∧ (∀ w ∈ gAtA (gY m).cls ic (gEx E) gRt0 (gK7 E) (gB7 E) gNames, w.before args s = true) ∧ (∀ w ∈ Cond.classLink (gY m).cls i (gEx E) :: Cond.initialized (gEx E) :: gAtA (gY m).cls ic (gEx E) gRt0 (gK7 E) (gB7 E) gNames, vx_ot w = true) := by
    intro is ic w0 w1 w2 w3 hE
    have hW := gExW hE (gW_in w3)
    refine ⟨?_, fun w hw => ?_, fun w hw => ?_⟩
    · unfold gStrAt at w2
      split at w2
      · rename_i j hj
        split at w2
        · rename_i o9 i9 t9 hw9
          simp only [Bool.and_eq_true, beq_iff_eq] at w2
          obtain ⟨rfl, rfl⟩ := w2
          obtain ⟨sa, hsa⟩ := X4 _ _ _ (List.mem_of_getElem? hw9)
          exact ⟨_, sa, vk_R.warm hO.1 hsa⟩
        · cases w2
      · cases w2
    · obtain ⟨k1, k2⟩ := hW w hw
      exact gOkW_at hO.1 HL.1 k1 k2
    · rcases List.mem_cons.mp hw with rfl | hw
      · rfl
      · rcases List.mem_cons.mp hw with rfl | hw
        · rfl
        · exact gOkW_ot (hW w hw).2
  have hsum : (mst.map fun v => v.category).sum ≤ 8 := by rw [gRs_sum hst]; exact h8
  unfold gThr at hthr
  split at hthr
  · rename_i is n4 a4 b4 n3 a3 b3 hf4 hf3
    split at hthr
    · rename_i ic n6 a6 b6 n9 a9 b9 hf6 hf9
      simp only [Bool.and_eq_true, decide_eq_true_eq] at hthr
      obtain ⟨⟨⟨⟨w0, w1⟩, w2⟩, w3⟩, hE⟩ := hthr
      obtain ⟨⟨text, sa, hsa⟩, hat, hgood⟩ := main is ic w0 w1 w2 w3 hE
      obtain ⟨p3, d3, l3, -⟩ := gFetch_ok hf3
      obtain ⟨p4, d4, l4, -⟩ := gFetch_ok hf4
      obtain ⟨p6, d6, l6, -⟩ := gFetch_ok hf6
      obtain ⟨p9, d9, l9, -⟩ := gFetch_ok hf9
      have e3 : n3 = 1 := by simpa [gLen] using l3
      have e4 : n4 = 2 := by simpa [gLen] using l4
      have e6 : n6 = 3 := by simpa [gLen] using l6
      have e9 : n9 = 1 := by simpa [gLen] using l9
      subst e3 e4 e6 e9
      exact gx_throwS (names := gNames) (hb0 := (gB7_ok E).1) (hb1 := (gB7_ok E).2.1) (hb2 := (gB7_ok E).2.2.1) (hb5 := (gB7_ok E).2.2.2) (hY9 := show Bundle.fit gRt0 = true by decide +kernel) (text := text) (sa := sa) hx hb X1 hown (gFit_ex E) hnames (gw_at hO.1 HL.1 (gW_in w0) rfl _) (gw_at hO.1 HL.1 (gW_in w1) rfl _) hsa hat hgood hU hN hS (by rw [hml]; exact hLo.2.1) hd d3 d4 d6 d9 (by rw [hT]; intro x hx; cases hx) (by show 1 + 4 < _; omega) (by show _ + (13 * (1 + 2) + 43) ≤ _; omega) hRc hRs hlk hX hS.2.2 hmc hms
    · cases hthr
  · rename_i is n4 a4 b4 n3 a3 b3 hf4 hf3
    split at hthr
    · rename_i ic n6 a6 b6 n9 a9 b9 hf6 hf9
      simp only [Bool.and_eq_true, decide_eq_true_eq] at hthr
      obtain ⟨⟨⟨⟨w0, w1⟩, w2⟩, w3⟩, hE⟩ := hthr
      obtain ⟨⟨text, sa, hsa⟩, hat, hgood⟩ := main is ic w0 w1 w2 w3 hE
      obtain ⟨p3, d3, l3, -⟩ := gFetch_ok hf3
      obtain ⟨p4, d4, l4, -⟩ := gFetch_ok hf4
      obtain ⟨p6, d6, l6, -⟩ := gFetch_ok hf6
      obtain ⟨p9, d9, l9, -⟩ := gFetch_ok hf9
      have e3 : n3 = 1 := by simpa [gLen] using l3
      have e4 : n4 = 3 := by simpa [gLen] using l4
      have e6 : n6 = 3 := by simpa [gLen] using l6
      have e9 : n9 = 1 := by simpa [gLen] using l9
      subst e3 e4 e6 e9
      exact gx_throwSW (names := gNames) (hb0 := (gB7_ok E).1) (hb1 := (gB7_ok E).2.1) (hb2 := (gB7_ok E).2.2.1) (hb5 := (gB7_ok E).2.2.2) (hY9 := show Bundle.fit gRt0 = true by decide +kernel) (text := text) (sa := sa) hx hb X1 hown (gFit_ex E) hnames (gw_at hO.1 HL.1 (gW_in w0) rfl _) (gw_at hO.1 HL.1 (gW_in w1) rfl _) hsa hat hgood hU hN hS (by rw [hml]; exact hLo.2.1) hd d3 d4 d6 d9 (by rw [hT]; intro x hx; cases hx) (by show 1 + 4 < _; omega) (by show _ + (13 * (1 + 2) + 43) ≤ _; omega) hRc hRs hlk hX hS.2.2 hmc hms
    · cases hthr
  · cases hthr
def gHands : List (Nat × Nat) := [(81, 771), (84, 787), (87, 788), (90, 789)]
theorem gHand_w (E : Nat) (hE : E < 4) : ∃ ct j, gHands[E]? = some (ct, j) ∧ Cond.classLink "StratumLedgeLaw" ct (gEx E) ∈ lw_tbl ∧ ct ≠ 0 := by
  rcases E with _ | _ | _ | _ | E
  · exact ⟨81, 771, rfl, List.mem_of_getElem? (i := 771) (by decide +kernel), by decide⟩
  · exact ⟨84, 787, rfl, List.mem_of_getElem? (i := 787) (by decide +kernel), by decide⟩
  · exact ⟨87, 788, rfl, List.mem_of_getElem? (i := 788) (by decide +kernel), by decide⟩
  · exact ⟨90, 789, rfl, List.mem_of_getElem? (i := 789) (by decide +kernel), by decide⟩
  · omega
theorem gHand_c (E : Nat) (hE : E < 4) : Cond.castable (gEx E) (gEx E) ∈ lw_tbl := by
  rcases E with _ | _ | _ | _ | E
  · exact List.mem_of_getElem? (i := 378) (by decide +kernel)
  · exact List.mem_of_getElem? (i := 636) (by decide +kernel)
  · exact List.mem_of_getElem? (i := 802) (by decide +kernel)
  · exact List.mem_of_getElem? (i := 1193) (by decide +kernel)
  · omega
/-- a row of a table of handlers -/
def gEnt (en hd ct : Nat) : ExceptionTableEntry := { startPc := 0, endPc := en, handlerPc := hd, catchType := ct }
theorem gTab_deed : tableOf (gTb gDeed) = [gEnt 13 14 81, gEnt 13 19 84, gEnt 13 24 87, gEnt 13 29 90] := by decide +kernel
theorem gTab_ask : tableOf (gTb gAsk) = [gEnt 11 12 81, gEnt 11 17 84, gEnt 11 22 90] := by decide +kernel
theorem gEx_four (E : Nat) : ∃ E', E' < 4 ∧ gEx E = gEx E' ∧ gHand m pc E = gHand m pc E' := by
  rcases E with _ | _ | _ | E
  · exact ⟨0, by decide, rfl, rfl⟩
  · exact ⟨1, by decide, rfl, rfl⟩
  · exact ⟨2, by decide, rfl, rfl⟩
  · exact ⟨3, by decide, rfl, rfl⟩
/-- an exception that is caught here -/
theorem gCatch {hpc k g : Nat} {q : Addr} {ce : Cell} {rest : List Value} (HL : gLf sL D ex sc aL) (HX : gLx sL l) (F : gFr sL m p s mth meth c) (hT : c.exceptionTable.toList = tableOf (gTb m)) (hh : gHand m pc E = some (hpc, k, g)) (hcell : H[q]? = some ce) (hv : ce.vm = .none) (hcl : s.vm.findClass (gEx E) = some ce.cls)
    (hLo : gLo ads ex ls mls (gMx m)) (kk : ∀ mls', gLo ads ex (ls.set k none) mls' (gMx m) → W p l e R s mth args below meth c H locs cells slots Q (F0 mth g mls' [])) : vx_W p l e R s mth args below meth c H locs cells slots Q (F0 mth pc mls rest) q := by
  obtain ⟨E', hE', e1, e2⟩ := gEx_four (m := m) (pc := pc) E
  rw [e1] at hcl
  rw [e2] at hh
  clear e1 e2
  obtain ⟨hx, hb, hml, hown, hret, hlk, hnm, hO⟩ := F
  have hnc : ∀ i j : Nat, j < i → i < 4 → va_Nc (gEx i) (gEx j) s := fun i j h1 h2 => va_Nc.moved hO.1.alike (HX.2.2.2.2 i j h1 h2)
  have hlw : ∀ (E : Nat) (hE : E < 4) (ct : Nat), (gHands[E]?).map Prod.fst = some ct → (Cond.classLink "StratumLedgeLaw" ct (gEx E)).before args s = true := fun E hE ct hct => by
    obtain ⟨ct', j, k1, k2, -⟩ := gHand_w E hE
    rw [k1] at hct
    cases hct
    exact gw_at hO.1 HL.1 k2 rfl _
  have hca : ∀ (E : Nat), E < 4 → (Cond.castable (gEx E) (gEx E)).before args s = true := fun E hE => va_Nw.use rfl (va_Nw.warmC hO.1 (va_Nw.of rfl (HL.1 _ (gHand_c E hE))))
  have hst : ∀ {hpc k : Nat} {q9 : Nat}, gFetch m hpc = some (.astore k, 2, 0, 0) → k < gMx m → (∀ mls', gLo ads ex (ls.set k none) mls' (gMx m) → W p l e R s mth args below meth c H locs cells slots Q (F0 mth (hpc + 2) mls' [])) → W p l e R s mth args below meth c H locs cells slots Q (F0 mth hpc mls [.ref q9]) := by
    intro hpc k q9 hf hk kk
    obtain ⟨p9, d9, -, -⟩ := gFetch_ok hf
    refine lv_astore hx hb d9 (gAl_has hLo.2.1 hLo.2.2.1) hk rfl (fun mls9 h9 => ?_)
    exact kk mls9 (gLo_none hLo h9)
  unfold gHand at hh
  split at hh
  · rename_i hcon
    obtain ⟨rfl, hpc13⟩ := hcon
    have hownL : s.vm.findClass "StratumLedgeLaw" = some mth.cls := hown
    have hcov : ∀ hd ct : Nat, covers (gEnt 13 hd ct) pc = true := fun hd ct => by simp [covers, gEnt, hpc13]
    rw [gTab_deed] at hT
    rcases E' with _ | _ | _ | _ | E'
    · cases hh
      exact vx_catch (name := gEx 0) hownL [] (gEnt 13 14 81) _ hT (fun z hz => by cases hz) (hcov _ _) (by decide) (hlw 0 (by decide) 81 rfl) (hca 0 (by decide)) hcell hv hcl (hst (by decide +kernel) (by decide +kernel) kk)
    · cases hh
      exact vx_catch (name := gEx 1) hownL [gEnt 13 14 81] (gEnt 13 19 84) _ hT (fun z hz => Or.inr (by
        rcases List.mem_cons.mp hz with rfl | hz
        · exact ⟨by decide, _, hlw 0 (by decide) 81 rfl, hnc 1 0 (by decide) (by decide)⟩
        · cases hz)) (hcov _ _) (by decide) (hlw 1 (by decide) 84 rfl) (hca 1 (by decide)) hcell hv hcl (hst (by decide +kernel) (by decide +kernel) kk)
    · cases hh
      exact vx_catch (name := gEx 2) hownL [gEnt 13 14 81, gEnt 13 19 84] (gEnt 13 24 87) _ hT (fun z hz => Or.inr (by
        rcases List.mem_cons.mp hz with rfl | hz
        · exact ⟨by decide, _, hlw 0 (by decide) 81 rfl, hnc 2 0 (by decide) (by decide)⟩
        · rcases List.mem_cons.mp hz with rfl | hz
          · exact ⟨by decide, _, hlw 1 (by decide) 84 rfl, hnc 2 1 (by decide) (by decide)⟩
          · cases hz)) (hcov _ _) (by decide) (hlw 2 (by decide) 87 rfl) (hca 2 (by decide)) hcell hv hcl (hst (by decide +kernel) (by decide +kernel) kk)
    · cases hh
      exact vx_catch (name := gEx 3) hownL [gEnt 13 14 81, gEnt 13 19 84, gEnt 13 24 87] (gEnt 13 29 90) _ hT (fun z hz => Or.inr (by
        rcases List.mem_cons.mp hz with rfl | hz
        · exact ⟨by decide, _, hlw 0 (by decide) 81 rfl, hnc 3 0 (by decide) (by decide)⟩
        · rcases List.mem_cons.mp hz with rfl | hz
          · exact ⟨by decide, _, hlw 1 (by decide) 84 rfl, hnc 3 1 (by decide) (by decide)⟩
          · rcases List.mem_cons.mp hz with rfl | hz
            · exact ⟨by decide, _, hlw 2 (by decide) 87 rfl, hnc 3 2 (by decide) (by decide)⟩
            · cases hz)) (hcov _ _) (by decide) (hlw 3 (by decide) 90 rfl) (hca 3 (by decide)) hcell hv hcl (hst (by decide +kernel) (by decide +kernel) kk)
    · omega
  · split at hh
    · rename_i hcon
      obtain ⟨rfl, hpc11⟩ := hcon
      have hownL : s.vm.findClass "StratumLedgeLaw" = some mth.cls := hown
      have hcov : ∀ hd ct : Nat, covers (gEnt 11 hd ct) pc = true := fun hd ct => by simp [covers, gEnt, hpc11]
      rw [gTab_ask] at hT
      rcases E' with _ | _ | _ | _ | E'
      · cases hh
        exact vx_catch (name := gEx 0) hownL [] (gEnt 11 12 81) _ hT (fun z hz => by cases hz) (hcov _ _) (by decide) (hlw 0 (by decide) 81 rfl) (hca 0 (by decide)) hcell hv hcl (hst (by decide +kernel) (by decide +kernel) kk)
      · cases hh
        exact vx_catch (name := gEx 1) hownL [gEnt 11 12 81] (gEnt 11 17 84) _ hT (fun z hz => Or.inr (by
          rcases List.mem_cons.mp hz with rfl | hz
          · exact ⟨by decide, _, hlw 0 (by decide) 81 rfl, hnc 1 0 (by decide) (by decide)⟩
          · cases hz)) (hcov _ _) (by decide) (hlw 1 (by decide) 84 rfl) (hca 1 (by decide)) hcell hv hcl (hst (by decide +kernel) (by decide +kernel) kk)
      · cases hh
      · cases hh
        exact vx_catch (name := gEx 3) hownL [gEnt 11 12 81, gEnt 11 17 84] (gEnt 11 22 90) _ hT (fun z hz => Or.inr (by
          rcases List.mem_cons.mp hz with rfl | hz
          · exact ⟨by decide, _, hlw 0 (by decide) 81 rfl, hnc 3 0 (by decide) (by decide)⟩
          · rcases List.mem_cons.mp hz with rfl | hz
            · exact ⟨by decide, _, hlw 1 (by decide) 84 rfl, hnc 3 1 (by decide) (by decide)⟩
            · cases hz)) (hcov _ _) (by decide) (hlw 3 (by decide) 90 rfl) (hca 3 (by decide)) hcell hv hcl (hst (by decide +kernel) (by decide +kernel) kk)
      · omega
    · cases hh
end THROW
