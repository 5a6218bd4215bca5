/-! THE LAW'S START gives the world that the interpreter runs in -/
def gInsP : List Nat := [89, 1330, 893, 1120, 816, 115, 823, 1062, 962, 1079, 892, 81]
theorem gIns_ok : (List.range 12).all (fun ci => match gInsP[ci]? with | some j => decide (lw_tbl[j]? = some (Cond.instantiable (gCn ci) (gN ci))) | none => false) = true := by decide +kernel
def gStrs : List (String × Nat) := [("StratumLedge", 40), ("StratumLedge", 51), ("StratumLedge", 79), ("StratumLedge", 130), ("StratumLedge", 180), ("StratumLedge", 197), ("StratumLedge", 203), ("StratumLedge", 231), ("StratumLedge", 244), ("StratumLedge", 249), ("StratumLedge", 324), ("StratumLedge", 352), ("StratumLedge", 357), ("StratumLedge", 362), ("StratumLedge", 364), ("StratumLedge", 492), ("StratumLedge", 517), ("StratumLedge", 546), ("StratumLedge", 548), ("StratumLedge", 550), ("StratumLedge", 552), ("StratumLedgeLaw", 199), ("java/util/ArrayList", 201), ("java/util/ArrayList", 203), ("java/util/Arrays", 337)]
theorem gStrs_all : lw_tbl.all (fun w => match w with | .stringRef o k _ => gStrs.any (fun q => q.1 == o && q.2 == k) | _ => true) = true := by decide +kernel
theorem gStrs_at {o : String} {k : Nat} {t : String} (h : Cond.stringRef o k t ∈ lw_tbl) : (o, k) ∈ gStrs := by
  have h1 := List.all_eq_true.mp gStrs_all _ h
  simp only at h1
  obtain ⟨q, hq, e⟩ := List.any_eq_true.mp h1
  simp only [Bool.and_eq_true, beq_iff_eq] at e
  rw [← e.1, ← e.2]
  exact hq
theorem gStrs_ex : ∀ q ∈ gStrs, Cond.exactly (.string q.1 q.2) "java/lang/String" ∈ flatC (Jvm.Cond.and given_1 narrow_1) := by decide +kernel
theorem gSt_lays : Cond.laysStatic "java/util/ArrayList" "DEFAULTCAPACITY_EMPTY_ELEMENTDATA" "[Ljava/lang/Object;" ∈ lw_tbl ∧ Cond.initialized "java/util/ArrayList" ∈ lw_tbl := ⟨List.mem_of_getElem? (i := 101) (by decide +kernel), List.mem_of_getElem? (i := 47) (by decide +kernel)⟩
theorem gSt_comp : Cond.laysStatic "java/lang/String" "COMPACT_STRINGS" "Z" ∈ lw_tbl ∧ Cond.initialized "java/lang/String" ∈ lw_tbl := ⟨List.mem_of_getElem? (i := 433) (by decide +kernel), List.mem_of_getElem? (i := 49) (by decide +kernel)⟩
theorem gSt_sio : Cond.laysStatic "jdk/internal/util/Preconditions" "SIOOBE_FORMATTER" "Ljava/util/function/BiFunction;" ∈ lw_tbl ∧ Cond.initialized "jdk/internal/util/Preconditions" ∈ lw_tbl := ⟨List.mem_of_getElem? (i := 516) (by decide +kernel), List.mem_of_getElem? (i := 51) (by decide +kernel)⟩
theorem gSt_una : Cond.laysStatic Bundle.tN "UNASSIGNED_STACK" Bundle.steD ∈ lw_tbl ∧ Cond.initialized Bundle.tN ∈ lw_tbl := ⟨List.mem_of_getElem? (i := 403) (by decide +kernel), List.mem_of_getElem? (i := 53) (by decide +kernel)⟩
theorem gSt_sen : Cond.laysStatic Bundle.tN "SUPPRESSED_SENTINEL" Bundle.listD ∈ lw_tbl := List.mem_of_getElem? (i := 405) (by decide +kernel)
theorem gSt_str : Cond.stringRef "StratumLedgeLaw" 199 "+><" ∈ lw_tbl := List.mem_of_getElem? (i := 1550) (by decide +kernel)
theorem gWorld {s : State} {b L : Nat} {xs : Nat → Int32} {l : Launch} (hflags : l.flags = flags0) (hts : ∀ w ∈ lw_tbl, w.before #[Value.ref b] s = true) (hX : va_X b L xs s s.heap) (hbl : b < s.heap.size) (hgv : (Jvm.Cond.and given_1 narrow_1).before #[Value.ref b] s = true) :
    ∃ (D : va_G) (ex : Nat → Nat), ex 0 = b ∧ va_K D gCl [] s ∧ gLf s D ex (L, xs) #[Value.ref b] ∧ gTx s ex ∧ gLx s l := by
  have hs := flat_of_before _ hgv
  have hA : ∀ a : Nat, a < s.heap.size → ¬ (fun q => s.heap.size ≤ q) a := fun a h => Nat.not_le.mpr h
  have hcls : ∀ c : Nat, ∃ q : ClassId × (Nat → Nat), ∀ r : vw_C, gCl[c]? = some r → u_Kn s r.1 r.2.1 r.2.2 q.1 q.2 := by
    intro c
    cases hc : gCl[c]? with
    | none => exact ⟨(0, fun _ => 0), fun r hr => by cases hr⟩
    | some r =>
      obtain ⟨C, T, N⟩ := r
      have hl : c < 12 := (List.getElem?_eq_some_iff.mp hc).1
      have eC : gCn c = C := by simp only [gCn, hc]
      have eN : gN c = N := by simp only [gN, hc]
      have h1 := List.all_eq_true.mp gIns_ok c (List.mem_range.mpr hl)
      split at h1
      · rename_i j hj
        have h2 := List.mem_of_getElem? (of_decide_eq_true h1)
        rw [eC, eN] at h2
        obtain ⟨cC, iS, hK⟩ := u_known (ws := lw_tbl) hts (fun w hw => (gCl_words hc w hw).1) (hts _ h2)
        exact ⟨(cC, iS), fun r hr => by cases hr; exact hK⟩
      · cases h1
  obtain ⟨DD, hDD⟩ := Classical.axiomOfChoice hcls
  obtain ⟨adK, adV, hVS, hev⟩ := vk_Sof (args := #[Value.ref b]) (s := s) (N := 1) (tm := fun _ => .string "StratumLedgeLaw" 199) (len := [3]) (byt := [[43, 62, 60]]) (A := fun q => s.heap.size ≤ q) (fun i hi => by
      have : i = 0 := by omega
      subst this
      decide) (fun i hi => hs _ (by decide +kernel)) (fun i hi => hs _ (by decide +kernel)) (fun i hi => hs _ (by decide +kernel)) (fun i hi => by
      have : i = 0 := by omega
      subst this
      exact hs _ (by decide +kernel)) (fun i hi j hj => by
      have : i = 0 := by omega
      subst this
      have hj3 : j < 3 := hj
      rcases j with _ | _ | _ | j
      · exact hs _ (by decide +kernel)
      · exact hs _ (by decide +kernel)
      · exact hs _ (by decide +kernel)
      · omega) (fun i j hi hj hij => by omega) hA
  obtain ⟨t2, ht2, hT2⟩ := va_Tof (args := #[Value.ref b]) (s := s) (tm := .static "java/util/ArrayList" "DEFAULTCAPACITY_EMPTY_ELEMENTDATA" "[Ljava/lang/Object;") (ty := .object "java/lang/Object") (N := 0) (f := fun _ => .null) (A := fun q => s.heap.size ≤ q) (by decide) (hs _ (by decide +kernel)) (va_eqt (hs _ (by decide +kernel))) (fun j hj => by omega) hA
  obtain ⟨m3, hm3⟩ := va_Mi.of (args := #[Value.ref b]) (s := s) (C := "[Ljava/lang/Object;") (hs _ (by decide +kernel))
  have hstr : ∀ (o : String) (k : Nat) (t : String), Cond.stringRef o k t ∈ lw_tbl → ∃ sa, vk_R o k t sa s := by
    intro o k t hw
    have h1 := hs _ (gStrs_ex _ (gStrs_at hw))
    obtain ⟨a, c, cA, kA, q1, -⟩ := Cond.exactly_spec (args := #[Value.ref b]) (first := s) (o := none) (s := s) (idx := []) (t := .string o k) (cls := "java/lang/String") h1
    exact ⟨a, vk_R.of (hts _ hw) q1⟩
  have hZ := va_Zref (hts _ gSt_lays.1) (hts _ gSt_lays.2) ht2 hA
  have hS0 := hVS.1 0 (by decide)
  refine ⟨(fun c => (DD c).1, fun c => (DD c).2), fun j => match j with | 0 => b | 1 => adK 0 | 2 => t2 | _ => m3, rfl, ⟨fun c q hq => hDD c q hq, fun k q hk => by simp at hk⟩, ⟨hts, hX, hbl, vk_R.of (hts _ gSt_str) (hev 0 (by decide)), hZ, hT2, hm3⟩, ?_, ?_⟩
  · refine ⟨adV 0, hS0.1, hS0.2.1, hS0.2.2.1, ?_, va_Zof (hts _ gSt_comp.1) (hts _ gSt_comp.2) (va_eqi (hs _ (by decide +kernel))) hA, va_Zqof (hts _ gSt_sio.1) (hts _ gSt_sio.2) (hs _ (by decide +kernel)) hA⟩
    have h9 := hS0.2.2.2
    obtain ⟨cell, k1, k2, k3, k4, k5, k6, k7⟩ := h9
    refine ⟨cell, k1, k2, k3, k4, k5, fun j hj => ?_, k7⟩
    have h6 := k6 j hj
    rcases j with _ | _ | _ | j
    · exact h6
    · exact h6
    · exact h6
    · omega
  · refine ⟨by unfold Launch.stackTraces; rw [hflags]; decide, vx_Zqof (hts _ gSt_una.1) (hts _ gSt_una.2) (hs _ (by decide +kernel)) hA, vx_Zqof (hts _ gSt_sen) (hts _ gSt_una.2) (hs _ (by decide +kernel)) hA, hstr, fun i j hj hi => ?_⟩
    rcases i with _ | _ | _ | _ | i
    · omega
    · rcases j with _ | j
      · exact va_Nc.of (hs _ (by decide +kernel))
      · omega
    · rcases j with _ | _ | j
      · exact va_Nc.of (hs _ (by decide +kernel))
      · exact va_Nc.of (hs _ (by decide +kernel))
      · omega
    · rcases j with _ | _ | _ | j
      · exact va_Nc.of (hs _ (by decide +kernel))
      · exact va_Nc.of (hs _ (by decide +kernel))
      · exact va_Nc.of (hs _ (by decide +kernel))
      · omega
    · omega
theorem gRoom_le {s : State} {pl : Platform} {R R' : Room} (h : s.hasRoom pl R = true) (h1 : R'.frames ≤ R.frames) (h2 : R'.locals ≤ R.locals) (h3 : R'.cells ≤ R.cells) (h4 : R'.slots ≤ R.slots) : s.hasRoom pl R' = true := by
  simp only [State.hasRoom, Bool.and_eq_true, decide_eq_true_eq] at h ⊢
  obtain ⟨⟨⟨⟨k1, k2, k3, k4, k5, k6⟩, k7⟩, k8⟩, k9⟩ := h
  exact ⟨⟨⟨⟨by omega, by omega, by omega, by omega, by omega, k6⟩, by omega⟩, by omega⟩, k9⟩
theorem gW_room {p : Program} {l : Launch} {e : Env} {R R' : Room} {s : State} {m : MethodId} {args : Array Value} {below : List Frame} {meth : Method} {c : Code} {H : Heap} {locs : List Loc} {cells slots : Nat} {Q : State → Prop} {g : JFrame} (h1 : R'.frames ≤ R.frames) (h2 : R'.locals ≤ R.locals) (h3 : R'.cells ≤ R.cells) (h4 : R'.slots ≤ R.slots)
    (k : W p l e R' s m args below meth c H locs cells slots Q g) : W p l e R s m args below meth c H locs cells slots Q g := by
  intro T hT X
  exact k T hT ⟨X.admits, X.cas, X.clock, X.frames, gRoom_le X.room h1 h2 h3 h4, X.hears, X.method, X.code, X.here, X.tail, X.warmed, X.limits, X.bytes, X.same⟩
