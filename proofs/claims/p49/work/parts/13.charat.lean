theorem gk_pre_code : Cond.code yJ3_checkIndex_8e157 cJ3_checkIndex_8e157 3 (some .int) ∈ lw_tbl := List.mem_of_getElem? (i := 209) (by decide +kernel)
theorem gk_pre_stat : Cond.static yJ3_checkIndex_8e157 ∈ lw_tbl := List.mem_of_getElem? (i := 208) (by decide +kernel)
theorem gd_pre_0 : decode cJ3_checkIndex_8e157 0 = .ok (.iload_n 0, 1) := by decide +kernel
theorem gd_pre_1 : decode cJ3_checkIndex_8e157 1 = .ok (.ifCond .lt 8, 3) := by decide +kernel
theorem gd_pre_4 : decode cJ3_checkIndex_8e157 4 = .ok (.iload_n 0, 1) := by decide +kernel
theorem gd_pre_5 : decode cJ3_checkIndex_8e157 5 = .ok (.iload_n 1, 1) := by decide +kernel
theorem gd_pre_6 : decode cJ3_checkIndex_8e157 6 = .ok (.if_icmp .lt 10, 3) := by decide +kernel
theorem gd_pre_9 : decode cJ3_checkIndex_8e157 9 = .ok (.aload_n 2, 1) := by decide +kernel
theorem gd_pre_10 : decode cJ3_checkIndex_8e157 10 = .ok (.iload_n 0, 1) := by decide +kernel
theorem gd_pre_11 : decode cJ3_checkIndex_8e157 11 = .ok (.iload_n 1, 1) := by decide +kernel
theorem gd_pre_12 : decode cJ3_checkIndex_8e157 12 = .ok (.invokestatic 95, 3) := by decide +kernel
theorem gd_pre_15 : decode cJ3_checkIndex_8e157 15 = .ok (.athrow, 1) := by decide +kernel
theorem gd_pre_16 : decode cJ3_checkIndex_8e157 16 = .ok (.iload_n 0, 1) := by decide +kernel
theorem gd_pre_17 : decode cJ3_checkIndex_8e157 17 = .ok (.ireturn, 1) := by decide +kernel
theorem gk_sci_code : Cond.code yJ0_checkIndex_df160 cJ0_checkIndex_df160 2 none ∈ lw_tbl := List.mem_of_getElem? (i := 1541) (by decide +kernel)
theorem gk_sci_stat : Cond.static yJ0_checkIndex_df160 ∈ lw_tbl := List.mem_of_getElem? (i := 1540) (by decide +kernel)
theorem gd_sci_0 : decode cJ0_checkIndex_df160 0 = .ok (.iload_n 0, 1) := by decide +kernel
theorem gd_sci_1 : decode cJ0_checkIndex_df160 1 = .ok (.iload_n 1, 1) := by decide +kernel
theorem gd_sci_2 : decode cJ0_checkIndex_df160 2 = .ok (.getstatic 1053, 3) := by decide +kernel
theorem gd_sci_5 : decode cJ0_checkIndex_df160 5 = .ok (.invokestatic 1059, 3) := by decide +kernel
theorem gd_sci_8 : decode cJ0_checkIndex_df160 8 = .ok (.pop, 1) := by decide +kernel
theorem gd_sci_9 : decode cJ0_checkIndex_df160 9 = .ok (.return_, 1) := by decide +kernel
theorem gk_lch_code : Cond.code yJ1_charAt_3b067 cJ1_charAt_3b067 2 (some .char) ∈ lw_tbl := List.mem_of_getElem? (i := 1538) (by decide +kernel)
theorem gk_lch_stat : Cond.static yJ1_charAt_3b067 ∈ lw_tbl := List.mem_of_getElem? (i := 1537) (by decide +kernel)
theorem gd_lch_0 : decode cJ1_charAt_3b067 0 = .ok (.iload_n 1, 1) := by decide +kernel
theorem gd_lch_1 : decode cJ1_charAt_3b067 1 = .ok (.aload_n 0, 1) := by decide +kernel
theorem gd_lch_2 : decode cJ1_charAt_3b067 2 = .ok (.arraylength, 1) := by decide +kernel
theorem gd_lch_3 : decode cJ1_charAt_3b067 3 = .ok (.invokestatic 9, 3) := by decide +kernel
theorem gd_lch_6 : decode cJ1_charAt_3b067 6 = .ok (.aload_n 0, 1) := by decide +kernel
theorem gd_lch_7 : decode cJ1_charAt_3b067 7 = .ok (.iload_n 1, 1) := by decide +kernel
theorem gd_lch_8 : decode cJ1_charAt_3b067 8 = .ok (.baload, 1) := by decide +kernel
theorem gd_lch_9 : decode cJ1_charAt_3b067 9 = .ok (.sipush 255, 3) := by decide +kernel
theorem gd_lch_12 : decode cJ1_charAt_3b067 12 = .ok (.iand, 1) := by decide +kernel
theorem gd_lch_13 : decode cJ1_charAt_3b067 13 = .ok (.i2c, 1) := by decide +kernel
theorem gd_lch_14 : decode cJ1_charAt_3b067 14 = .ok (.ireturn, 1) := by decide +kernel
theorem gk_lat_code : Cond.code yJ0_isLatin1_aae02 cJ0_isLatin1_aae02 1 (some .boolean) ∈ lw_tbl := List.mem_of_getElem? (i := 1535) (by decide +kernel)
theorem gk_lat_inst : Cond.instanceMethod yJ0_isLatin1_aae02 ∈ lw_tbl := List.mem_of_getElem? (i := 1533) (by decide +kernel)
theorem gk_lat_sel : Cond.selects "java/lang/String" yJ0_isLatin1_aae02 yJ0_isLatin1_aae02 ∈ lw_tbl := List.mem_of_getElem? (i := 1534) (by decide +kernel)
theorem gd_lat_0 : decode cJ0_isLatin1_aae02 0 = .ok (.getstatic 38, 3) := by decide +kernel
theorem gd_lat_3 : decode cJ0_isLatin1_aae02 3 = .ok (.ifCond .eq 14, 3) := by decide +kernel
theorem gd_lat_6 : decode cJ0_isLatin1_aae02 6 = .ok (.aload_n 0, 1) := by decide +kernel
theorem gd_lat_7 : decode cJ0_isLatin1_aae02 7 = .ok (.getfield 15, 3) := by decide +kernel
theorem gd_lat_10 : decode cJ0_isLatin1_aae02 10 = .ok (.ifCond .ne 7, 3) := by decide +kernel
theorem gd_lat_13 : decode cJ0_isLatin1_aae02 13 = .ok (.iconst 1, 1) := by decide +kernel
theorem gd_lat_14 : decode cJ0_isLatin1_aae02 14 = .ok (.goto 4, 3) := by decide +kernel
theorem gd_lat_17 : decode cJ0_isLatin1_aae02 17 = .ok (.iconst 0, 1) := by decide +kernel
theorem gd_lat_18 : decode cJ0_isLatin1_aae02 18 = .ok (.ireturn, 1) := by decide +kernel
theorem gk_cha_code : Cond.code yJ0_charAt_5068e cJ0_charAt_5068e 2 (some .char) ∈ lw_tbl := List.mem_of_getElem? (i := 1531) (by decide +kernel)
theorem gk_cha_inst : Cond.instanceMethod yJ0_charAt_5068e ∈ lw_tbl := List.mem_of_getElem? (i := 1529) (by decide +kernel)
theorem gk_cha_sel : Cond.selects "java/lang/String" yJ0_charAt_5068e yJ0_charAt_5068e ∈ lw_tbl := List.mem_of_getElem? (i := 1530) (by decide +kernel)
theorem gd_cha_0 : decode cJ0_charAt_5068e 0 = .ok (.aload_n 0, 1) := by decide +kernel
theorem gd_cha_1 : decode cJ0_charAt_5068e 1 = .ok (.invokevirtual 492, 3) := by decide +kernel
theorem gd_cha_4 : decode cJ0_charAt_5068e 4 = .ok (.ifCond .eq 12, 3) := by decide +kernel
theorem gd_cha_7 : decode cJ0_charAt_5068e 7 = .ok (.aload_n 0, 1) := by decide +kernel
theorem gd_cha_8 : decode cJ0_charAt_5068e 8 = .ok (.getfield 9, 3) := by decide +kernel
theorem gd_cha_11 : decode cJ0_charAt_5068e 11 = .ok (.iload_n 1, 1) := by decide +kernel
theorem gd_cha_12 : decode cJ0_charAt_5068e 12 = .ok (.invokestatic 495, 3) := by decide +kernel
theorem gd_cha_15 : decode cJ0_charAt_5068e 15 = .ok (.ireturn, 1) := by decide +kernel
theorem gd_cha_16 : decode cJ0_charAt_5068e 16 = .ok (.aload_n 0, 1) := by decide +kernel
theorem gd_cha_17 : decode cJ0_charAt_5068e 17 = .ok (.getfield 9, 3) := by decide +kernel
theorem gd_cha_20 : decode cJ0_charAt_5068e 20 = .ok (.iload_n 1, 1) := by decide +kernel
theorem gd_cha_21 : decode cJ0_charAt_5068e 21 = .ok (.invokestatic 498, 3) := by decide +kernel
theorem gd_cha_24 : decode cJ0_charAt_5068e 24 = .ok (.ireturn, 1) := by decide +kernel
theorem gk_ini_String : Cond.initialized "java/lang/String" ∈ lw_tbl := List.mem_of_getElem? (i := 49) (by decide +kernel)
theorem gk_ini_Preconditions : Cond.initialized "jdk/internal/util/Preconditions" ∈ lw_tbl := List.mem_of_getElem? (i := 51) (by decide +kernel)
theorem gk_ini_StringLatin1 : Cond.initialized "java/lang/StringLatin1" ∈ lw_tbl := List.mem_of_getElem? (i := 50) (by decide +kernel)
theorem gk_l_sci_pre : Cond.methodLink "java/lang/String" 1059 yJ3_checkIndex_8e157 ∈ lw_tbl := List.mem_of_getElem? (i := 1542) (by decide +kernel)
theorem gk_l_lch_sci : Cond.methodLink "java/lang/StringLatin1" 9 yJ0_checkIndex_df160 ∈ lw_tbl := List.mem_of_getElem? (i := 1539) (by decide +kernel)
theorem gk_l_cha_lat : Cond.methodLink "java/lang/String" 492 yJ0_isLatin1_aae02 ∈ lw_tbl := List.mem_of_getElem? (i := 1532) (by decide +kernel)
theorem gk_l_cha_lch : Cond.methodLink "java/lang/String" 495 yJ1_charAt_3b067 ∈ lw_tbl := List.mem_of_getElem? (i := 1536) (by decide +kernel)
theorem gk_l_law_cha : Cond.methodLink "StratumLedgeLaw" 201 yJ0_charAt_5068e ∈ lw_tbl := List.mem_of_getElem? (i := 1528) (by decide +kernel)
theorem gk_f_siob : Cond.fieldLink "java/lang/String" 1053 "jdk/internal/util/Preconditions" "SIOOBE_FORMATTER" "Ljava/util/function/BiFunction;" ∈ lw_tbl := List.mem_of_getElem? (i := 515) (by decide +kernel)
theorem gk_f_comp : Cond.fieldLink "java/lang/String" 38 "java/lang/String" "COMPACT_STRINGS" "Z" ∈ lw_tbl := List.mem_of_getElem? (i := 537) (by decide +kernel)
theorem gk_f_code : Cond.fieldLink "java/lang/String" 15 "java/lang/String" "coder" "B" ∈ lw_tbl := List.mem_of_getElem? (i := 688) (by decide +kernel)
theorem gk_f_val : Cond.fieldLink "java/lang/String" 9 "java/lang/String" "value" "[B" ∈ lw_tbl := List.mem_of_getElem? (i := 687) (by decide +kernel)
/-- methods that only read what was there ahead of the law -/
def gPu (sL : State) (av : List Value) : Array Value → State → Prop := fun a U => a = av.toArray ∧ gOld sL U U.heap
def gQu (v : Option Value) : Array Value → State → Outcome → State → Prop := fun _ st oc t => oc = .returned v ∧ va_F (fun _ => False) st t
def gRp (d : Nat) : Room := { frames := d, locals := 40 * d, cells := 0, slots := 0 }
theorem gPu_blind {sL : State} {av : List Value} : FrameBlind (gPu sL av) := fun _ _ _ _ h => h
/-- the text's bytes -/
def gPl (j : Nat) : Int32 := match j with
  | 0 => 43
  | 1 => 62
  | _ => 60
/-- the law's text, as it was made ahead of the law -/
def gTx (sL : State) (ex : Nat → Nat) : Prop := ∃ vb : Nat, va_O "java/lang/String" (ex 1) (fun q => sL.heap.size ≤ q) sL sL.heap ∧ va_OF "java/lang/String" "coder" "B" (.int 0) (ex 1) (fun q => sL.heap.size ≤ q) sL sL.heap ∧ va_OF "java/lang/String" "value" "[B" (.ref vb) (ex 1) (fun q => sL.heap.size ≤ q) sL sL.heap ∧
  va_T .byte vb 3 (fun j => .int (gPl j)) (fun q => sL.heap.size ≤ q) sL sL.heap ∧ va_Z "java/lang/String" "COMPACT_STRINGS" "Z" (.int 1) (fun q => sL.heap.size ≤ q) sL sL.heap ∧ va_Zq "jdk/internal/util/Preconditions" "SIOOBE_FORMATTER" "Ljava/util/function/BiFunction;" (fun q => sL.heap.size ≤ q) sL sL.heap
section CHA
variable {sL : State} {ex : Nat → Nat} {aL : Array Value} {p : Program} {l : Launch} {e : Env} {R : Room} {s : State} {mth : MethodId} {args : Array Value} {below : List Frame} {meth : Method} {c : Code} {Q : State → Prop}
variable {pc i d maxL : Nat} {cc bytes : ByteArray} {y : MethodName} {ret : Option FieldType} {own C : String} {A : Nat → Prop} {H : Heap} {locs : List Loc} {cells slots : Nat} {mls : Array Slot} {av rest : List Value} {v : Option Value}
theorem gOld_at (hO : gOld sL s s.heap) (hS : va_S A s.heap H locs) (hA : ∀ q, A q → sL.heap.size ≤ q) : ∀ U : State, U.heap = H → s.WarmedH U.vm → gOld sL U U.heap := fun U hU hW =>
  ⟨State.WarmedH.trans hO.1 hW, by rw [hU]; exact Nat.le_trans hO.2.1 hS.1, fun q hq => by
    rw [hU, hS.2.1 q (Nat.lt_of_lt_of_le hq hO.2.1) (fun h => absurd hq (Nat.not_lt.mpr (hA q h)))]
    exact hO.2.2 q hq⟩
theorem gpUse {a9 : Array Value} {stk : List Value} (hr : va_Run p l e R s mth args below meth c H locs cells slots 0 0 (F0 mth pc mls stk) rest (gQu v a9) (fun _ => False)) (hS : va_S A s.heap H locs)
    (kk : ∀ (H1 : Heap) (locs1 : List Loc), H.size ≤ H1.size → (∀ q : Nat, q < H.size → H1[q]? = H[q]?) → va_S A s.heap H1 locs1 → W p l e R s mth args below meth c H1 locs1 cells slots Q (F0 mth (pc + 3) mls (v.toList ++ rest))) : W p l e R s mth args below meth c H locs cells slots Q (F0 mth pc mls stk) := by
  intro T hT X
  obtain ⟨v', st₀, t, T', L, h0, X', hL, e1, e2, ⟨hq, hF⟩, stp⟩ := hr T hT X
  cases hq
  obtain ⟨k1, k2, k3⟩ := vx_keep (A1 := fun _ => False) h0 e1 hS (fun q _ h => False.elim h) (fun q h => False.elim h) hL hF
  obtain ⟨t2, a1, b1⟩ := kk T'.heap (locs ++ L) k1 (fun q hq => k2 q hq (fun h => h)) k3 T' rfl X'
  exact ⟨t2, stp t2 a1, b1⟩
theorem gpCallS (HL : ∀ w ∈ lw_tbl, w.before aL sL = true) (hO : gOld sL s s.heap) (hx : p.tables.exec = Jvm.exec) (hb : c.code = cc) (hown : s.vm.findClass own = some mth.cls) (w1 : Cond.code y bytes maxL ret ∈ lw_tbl) (w2 : Cond.initialized y.cls ∈ lw_tbl) (w3 : Cond.static y ∈ lw_tbl) (w4 : Cond.methodLink own i y ∈ lw_tbl)
    (hne : y.cls ≠ "java/lang/invoke/MethodHandle" ∧ y.cls ≠ "java/lang/invoke/VarHandle") (hlen : (parseMethodDescriptor y.desc).map (fun d => d.parameters.length) = some av.length) (hM : Met l y [Cond.code y bytes maxL ret] (gRp d) (gPu sL av) (gQu v) 0 0 (fun _ => False)) (hmx : maxL ≤ 21) (hRf : d + 1 ≤ R.frames) (hRl : 40 * (d + 1) ≤ R.locals)
    (hsz : mls.size = c.maxLocals) (hS : va_S A s.heap H locs) (hA : ∀ q, A q → sL.heap.size ≤ q) (hW : (rest.map fun v => v.category).sum ≤ 8) (hd : decode cc pc = .ok (.invokestatic i, 3)) (hf : cells ≤ R.cells ∧ slots ≤ R.slots)
    (kk : ∀ (H1 : Heap) (locs1 : List Loc), H.size ≤ H1.size → (∀ q : Nat, q < H.size → H1[q]? = H[q]?) → va_S A s.heap H1 locs1 → W p l e R s mth args below meth c H1 locs1 cells slots Q (F0 mth (pc + 3) mls (v.toList ++ rest))) : W p l e R s mth args below meth c H locs cells slots Q (F0 mth pc mls (av.reverse ++ rest)) := by
  have hfix : CallFix p mth c cc c.maxLocals s args [] own := ⟨hx, hb, rfl, hown, fun w hw => by cases hw⟩
  have hcw : ∀ (a' : Array Value) (U : State), s.WarmedH U.vm → (Cond.code y bytes maxL ret).before a' U = true := fun a' U hW => gw_at (State.WarmedH.trans hO.1 hW) HL w1 rfl a'
  have hl9 : ∀ sig, parseMethodDescriptor y.desc = some sig → av.length = sig.parameters.length := fun sig hsig => by
    rw [hsig] at hlen
    exact (Option.some.inj hlen).symm
  have hr := va_runS (e := e) (below := below) (meth := meth) (locs := locs) (cells := cells) (slots := slots) (mc := 0) (ms := 0) (n := av.length) hfix hM (cw := ⟨⟨rfl, rfl, hRf, by show 8 + (maxL + 11) + 40 * d ≤ _; omega, fun w hw => by
    cases List.mem_singleton.mp hw
    exact hcw, List.mem_cons_self, hcw _ _ (State.WarmedH.refl s), gw_at hO.1 HL w2 rfl _, hne, hl9, gw_at hO.1 HL w4 rfl _⟩, gw_at hO.1 HL w3 rfl _⟩) ⟨gPu_blind, fun U hU hW => ⟨rfl, gOld_at hO hS hA U hU hW⟩⟩
    (g := F0 mth pc mls (av.reverse ++ rest)) (rest := rest) rfl rfl hsz rfl (by show 2 * 0 + _ ≤ 8; omega) hd hf
  exact gpUse hr hS kk
theorem gpCallV {b : Nat} (HL : ∀ w ∈ lw_tbl, w.before aL sL = true) (hO : gOld sL s s.heap) (hx : p.tables.exec = Jvm.exec) (hb : c.code = cc) (hown : s.vm.findClass own = some mth.cls) (w1 : Cond.code y bytes maxL ret ∈ lw_tbl) (w2 : Cond.initialized y.cls ∈ lw_tbl) (w3 : Cond.instanceMethod y ∈ lw_tbl) (w5 : Cond.selects C y y ∈ lw_tbl) (w4 : Cond.methodLink own i y ∈ lw_tbl)
    (hne : y.cls ≠ "java/lang/invoke/MethodHandle" ∧ y.cls ≠ "java/lang/invoke/VarHandle") (hlen : (parseMethodDescriptor y.desc).map (fun d => d.parameters.length) = some av.length) (hM : Met l y [Cond.code y bytes maxL ret] (gRp d) (gPu sL (.ref b :: av)) (gQu v) 0 0 (fun _ => False)) (hmx : maxL ≤ 21) (hRf : d + 1 ≤ R.frames) (hRl : 40 * (d + 1) ≤ R.locals)
    (hsz : mls.size = c.maxLocals) (hS : va_S A s.heap H locs) (hA : ∀ q, A q → sL.heap.size ≤ q) (hcell : ∃ cellB : Cell, H[b]? = some cellB ∧ cellB.vm.isStatics = false ∧ s.vm.findClass C = some cellB.cls) (hW : (rest.map fun v => v.category).sum ≤ 8) (hd : decode cc pc = .ok (.invokevirtual i, 3)) (hf : cells ≤ R.cells ∧ slots ≤ R.slots)
    (kk : ∀ (H1 : Heap) (locs1 : List Loc), H.size ≤ H1.size → (∀ q : Nat, q < H.size → H1[q]? = H[q]?) → va_S A s.heap H1 locs1 → W p l e R s mth args below meth c H1 locs1 cells slots Q (F0 mth (pc + 3) mls (v.toList ++ rest))) : W p l e R s mth args below meth c H locs cells slots Q (F0 mth pc mls (av.reverse ++ .ref b :: rest)) := by
  have hfix : CallFix p mth c cc c.maxLocals s args [] own := ⟨hx, hb, rfl, hown, fun w hw => by cases hw⟩
  have hcw : ∀ (a' : Array Value) (U : State), s.WarmedH U.vm → (Cond.code y bytes maxL ret).before a' U = true := fun a' U hW => gw_at (State.WarmedH.trans hO.1 hW) HL w1 rfl a'
  have hl9 : ∀ sig, parseMethodDescriptor y.desc = some sig → av.length = sig.parameters.length := fun sig hsig => by
    rw [hsig] at hlen
    exact (Option.some.inj hlen).symm
  have hr := va_runV (e := e) (below := below) (meth := meth) (locs := locs) (cells := cells) (slots := slots) (mc := 0) (ms := 0) (n := av.length) hfix hM (cw := ⟨⟨rfl, rfl, hRf, by show 8 + (maxL + 11) + 40 * d ≤ _; omega, fun w hw => by
    cases List.mem_singleton.mp hw
    exact hcw, List.mem_cons_self, hcw _ _ (State.WarmedH.refl s), gw_at hO.1 HL w2 rfl _, hne, hl9, gw_at hO.1 HL w4 rfl _⟩, gw_at hO.1 HL w3 rfl _, gw_at hO.1 HL w5 rfl _⟩) ⟨gPu_blind, hcell, fun U hU hW => ⟨rfl, gOld_at hO hS hA U hU hW⟩⟩
    (g := F0 mth pc mls (av.reverse ++ .ref b :: rest)) (rest := rest) rfl rfl hsz rfl (by show 2 * 0 + _ ≤ 8; omega) hd hf
  exact gpUse hr hS kk
theorem gp_pre (l : Launch) {i n : Int32} {f : Value} (hf : f = .null ∨ ∃ t, f = .ref t) (h0 : ¬ i < 0) (h1 : i < n) : Met l yJ3_checkIndex_8e157 [Cond.code yJ3_checkIndex_8e157 cJ3_checkIndex_8e157 3 (some .int)] (gRp 0) (gPu sL [.int i, .int n, f]) (gQu (some (.int i))) 0 0 (fun _ => False) := by
  have hcat : f.category = 1 := by
    rcases hf with rfl | ⟨t, rfl⟩ <;> rfl
  refine gMet_of (XC := fun _ _ _ => False) (gx_ofW (by decide +kernel) (fun p e s m args below meth c s₁ B hml hT hP => ?_)) (fun _ _ _ h => h)
  obtain ⟨rfl, hO⟩ := hP
  have hx := B.exec
  have hb := B.bytes
  have hr := B.returns
  have hlocks := B.notSynchronized
  have hS : va_S (fun _ => False) s.heap s.heap [] := va_S.rf
  have hl := lv_entry ([.int i, .int n, f]) (n := 3) (by rcases hf with rfl | ⟨t, rfl⟩ <;> exact Nat.le_of_ble_eq_true rfl)
  rw [lg_entry_eq]
  generalize (lg_sl ([.int i, .int n, f]) ++ List.replicate (3 - (lg_sl ([.int i, .int n, f])).length) Slot.unset).toArray = ls at hl ⊢
  have hl : lv_has ls 3 [(0, .int i), (1, .int n), (2, f)] := hl
  refine vx_ret ?_
  refine lv_iload_n hx hb gd_pre_0 rfl (lv_at hl 0 rfl) ?_
  refine lv_if_lt (tgt := 9) hx hb gd_pre_1 rfl (fun q => absurd q h0) (fun _ => ?_)
  refine lv_iload_n hx hb gd_pre_4 rfl (lv_at hl 0 rfl) ?_
  refine lv_iload_n hx hb gd_pre_5 rfl (lv_at hl 1 rfl) ?_
  refine lv_icmp_lt (tgt := 16) hx hb gd_pre_6 rfl (fun _ => ?_) (fun q => absurd h1 q)
  refine lv_iload_n hx hb gd_pre_16 rfl (lv_at hl 0 rfl) ?_
  exact W.iret hx hb hr (fun t ht hW => ⟨rfl, hS.F ht⟩) hS.2.2 gd_pre_17
theorem gp_sci (l : Launch) (HL : ∀ w ∈ lw_tbl, w.before aL sL = true) (hz : gTx sL ex) {i n : Int32} (h0 : ¬ i < 0) (h1 : i < n) : Met l yJ0_checkIndex_df160 [Cond.code yJ0_checkIndex_df160 cJ0_checkIndex_df160 2 none] (gRp 1) (gPu sL [.int i, .int n]) (gQu none) 0 0 (fun _ => False) := by
  refine gMet_of (XC := fun _ _ _ => False) (gx_ofW (by decide +kernel) (fun p e s m args below meth c s₁ B hml hT hP => ?_)) (fun _ _ _ h => h)
  obtain ⟨rfl, hO⟩ := hP
  have hx := B.exec
  have hb := B.bytes
  have hr := B.returns
  have hlocks := B.notSynchronized
  have hown := findClass_of_methodNamed B.named
  have hS : va_S (fun _ => False) s.heap s.heap [] := va_S.rf
  have hl := lv_entry ([.int i, .int n]) (n := 2) (Nat.le_of_ble_eq_true rfl)
  rw [lg_entry_eq]
  generalize (lg_sl ([.int i, .int n]) ++ List.replicate (2 - (lg_sl ([.int i, .int n])).length) Slot.unset).toArray = ls at hl ⊢
  have hl : lv_has ls 2 [(0, .int i), (1, .int n)] := hl
  refine vx_ret ?_
  refine lv_iload_n hx hb gd_sci_0 rfl (lv_at hl 0 rfl) ?_
  refine lv_iload_n hx hb gd_sci_1 rfl (lv_at hl 1 rfl) ?_
  obtain ⟨vb, -, -, -, -, -, hZq⟩ := hz
  have hZ9 := (va_Zq.moved hO.1.alike hZq).kept (fun q hq _ => hO.2.2 q hq)
  have hgo : ∀ f : Value, (f = .null ∨ ∃ t, f = .ref t) → W p l e (gRp 1) s m #[.int i, .int n] below meth c s.heap [] 0 0 (MQ below (gQu none) #[.int i, .int n] s 0 0 fun _ => False) (F0 m 5 ls [f, .int n, .int i]) := by
    intro f hf
    refine gpCallS (av := [.int i, .int n, f]) (rest := []) HL hO hx hb hown gk_pre_code gk_ini_Preconditions gk_pre_stat gk_l_sci_pre (by decide) (by show _ = some (3 : Nat); decide +kernel) (gp_pre l hf h0 h1) (by decide) (Nat.le_refl _) (Nat.le_refl _) (by rw [hl.1, hml]) hS (fun _ h => h.elim) (by decide) gd_sci_5 ⟨Nat.le_refl _, Nat.le_refl _⟩ (fun H1 locs1 z1 k1 hS1 => ?_)
    refine lv_pop hx hb gd_sci_8 rfl ?_
    exact W.vret hx hb hr (fun t ht hW => ⟨rfl, hS1.F ht⟩) hS1.2.2 gd_sci_9
  have hSB : va_S (fun q => sL.heap.size ≤ q) s.heap s.heap [] := va_S.rf
  rcases hZ9 with hZ9 | ⟨t9, hZ9⟩
  · refine va_gets hx hb hZ9 hSB hown (gw_at hO.1 HL gk_f_siob rfl _) (fun x hx => hx) gd_sci_2 ?_
    exact hgo _ (Or.inl rfl)
  · refine va_gets hx hb hZ9 hSB hown (gw_at hO.1 HL gk_f_siob rfl _) (fun x hx => hx) gd_sci_2 ?_
    exact hgo _ (Or.inr ⟨t9, rfl⟩)
theorem gp_lat (l : Launch) (HL : ∀ w ∈ lw_tbl, w.before aL sL = true) (hz : gTx sL ex) : Met l yJ0_isLatin1_aae02 [Cond.code yJ0_isLatin1_aae02 cJ0_isLatin1_aae02 1 (some .boolean)] (gRp 0) (gPu sL [.ref (ex 1)]) (gQu (some (.int 1))) 0 0 (fun _ => False) := by
  refine gMet_of (XC := fun _ _ _ => False) (gx_ofW (by decide +kernel) (fun p e s m args below meth c s₁ B hml hT hP => ?_)) (fun _ _ _ h => h)
  obtain ⟨rfl, hO⟩ := hP
  have hx := B.exec
  have hb := B.bytes
  have hr := B.returns
  have hlocks := B.notSynchronized
  have hown := findClass_of_methodNamed B.named
  have hS : va_S (fun q => sL.heap.size ≤ q) s.heap s.heap [] := va_S.rf
  have hl := lv_entry ([.ref (ex 1)]) (n := 1) (Nat.le_of_ble_eq_true rfl)
  rw [lg_entry_eq]
  generalize (lg_sl ([.ref (ex 1)]) ++ List.replicate (1 - (lg_sl ([.ref (ex 1)])).length) Slot.unset).toArray = ls at hl ⊢
  have hl : lv_has ls 1 [(0, .ref (ex 1))] := hl
  refine vx_ret ?_
  obtain ⟨vb, -, hco, -, -, hcs, -⟩ := hz
  have hcs9 := (va_Z.moved hO.1.alike hcs).kept (fun q hq _ => hO.2.2 q hq)
  have hco9 := (va_OF.moved hO.1.alike hco).kept (fun q hq _ => hO.2.2 q hq)
  refine va_gets hx hb hcs9 hS hown (gw_at hO.1 HL gk_f_comp rfl _) (fun x hx => hx) gd_lat_0 ?_
  refine lv_if_eq (tgt := 17) hx hb gd_lat_3 rfl (fun q => by exact absurd q (by decide)) (fun _ => ?_)
  refine lv_aload_n hx hb gd_lat_6 rfl (lv_at hl 0 rfl) ?_
  refine vk_getf hx hb hco9 hS hown (gw_at hO.1 HL gk_f_code rfl _) (fun x hx => hx) gd_lat_7 ?_
  refine lv_if_ne (tgt := 17) hx hb gd_lat_10 rfl (fun q => absurd rfl q) (fun _ => ?_)
  refine lv_iconst (v := 1) hx hb gd_lat_13 (by decide) ?_
  refine lv_goto (tgt := 18) hx hb gd_lat_14 rfl ?_
  exact W.zret hx hb hr (by decide) (fun t ht hW => ⟨rfl, (va_S.rf (A := fun _ => False)).F ht⟩) (fun q h => by cases h) gd_lat_18
theorem gp_lch (l : Launch) (HL : ∀ w ∈ lw_tbl, w.before aL sL = true) (hz : gTx sL ex) {vb : Nat} (hvb : va_T .byte vb 3 (fun j => .int (gPl j)) (fun q => sL.heap.size ≤ q) sL sL.heap) {i : Int32} (hi : i = 0 ∨ i = 1 ∨ i = 2) : Met l yJ1_charAt_3b067 [Cond.code yJ1_charAt_3b067 cJ1_charAt_3b067 2 (some .char)] (gRp 2) (gPu sL [.ref vb, .int i]) (gQu (some (.int (gPl i.toNatClampNeg)))) 0 0 (fun _ => False) := by
  refine gMet_of (XC := fun _ _ _ => False) (gx_ofW (by decide +kernel) (fun p e s m args below meth c s₁ B hml hT hP => ?_)) (fun _ _ _ h => h)
  obtain ⟨rfl, hO⟩ := hP
  have hx := B.exec
  have hb := B.bytes
  have hr := B.returns
  have hlocks := B.notSynchronized
  have hown := findClass_of_methodNamed B.named
  have hS : va_S (fun q => sL.heap.size ≤ q) s.heap s.heap [] := va_S.rf
  have hl := lv_entry ([.ref vb, .int i]) (n := 2) (Nat.le_of_ble_eq_true rfl)
  rw [lg_entry_eq]
  generalize (lg_sl ([.ref vb, .int i]) ++ List.replicate (2 - (lg_sl ([.ref vb, .int i])).length) Slot.unset).toArray = ls at hl ⊢
  have hl : lv_has ls 2 [(0, .ref vb), (1, .int i)] := hl
  refine vx_ret ?_
  have hT9 := (va_T.moved hO.1.alike hvb).kept (fun q hq _ => hO.2.2 q hq)
  have hS0 : va_S (fun _ => False) s.heap s.heap [] := va_S.rf
  have hi0 : ¬ i < 0 ∧ i < 3 ∧ vp_in i 3 := by rcases hi with rfl | rfl | rfl <;> exact ⟨by decide, by decide, by unfold vp_in; decide⟩
  refine lv_iload_n hx hb gd_lch_0 rfl (lv_at hl 1 rfl) ?_
  refine lv_aload_n hx hb gd_lch_1 rfl (lv_at hl 0 rfl) ?_
  refine va_tlen (v := 3) hx hb hT9 hS rfl gd_lch_2 ?_
  refine gpCallS (av := [.int i, .int 3]) (rest := []) HL hO hx hb hown gk_sci_code gk_ini_String gk_sci_stat gk_l_lch_sci (by decide) (by show _ = some (2 : Nat); decide +kernel) (gp_sci l HL hz hi0.1 hi0.2.1) (by decide) (Nat.le_refl _) (Nat.le_refl _) (by rw [hl.1, hml]) hS0 (fun _ h => h.elim) (by decide) gd_lch_3 ⟨Nat.le_refl _, Nat.le_refl _⟩ (fun H1 locs1 z1 k1 hS1 => ?_)
  have hS2 : va_S (fun q => sL.heap.size ≤ q) s.heap H1 locs1 := ⟨z1, fun q hq _ => k1 q hq, fun q hq => (hS1.2.2 q hq).elim⟩
  refine lv_aload_n hx hb gd_lch_6 rfl (lv_at hl 0 rfl) ?_
  refine lv_iload_n hx hb gd_lch_7 rfl (lv_at hl 1 rfl) ?_
  refine va_tb (v := .int (gPl i.toNatClampNeg)) hx hb hT9 hS2 hi0.2.2 rfl gd_lch_8 ?_
  refine lv_sipush (v := 255) hx hb gd_lch_9 (by decide) ?_
  refine lv_iand hx hb gd_lch_12 ?_
  refine lv_i2c hx hb gd_lch_13 rfl ?_
  have e9 : ((gPl i.toNatClampNeg &&& 255).toUInt32 % 65536).toInt32 = gPl i.toNatClampNeg ∧ narrow .char (.int (gPl i.toNatClampNeg)) = .int (gPl i.toNatClampNeg) := by rcases hi with rfl | rfl | rfl <;> exact ⟨by decide, by decide⟩
  rw [e9.1]
  exact W.zret hx hb hr e9.2 (fun t ht hW => ⟨rfl, hS1.F ht⟩) hS1.2.2 gd_lch_14
theorem gp_cha (l : Launch) (HL : ∀ w ∈ lw_tbl, w.before aL sL = true) (hz : gTx sL ex) {i : Int32} (hi : i = 0 ∨ i = 1 ∨ i = 2) : Met l yJ0_charAt_5068e [Cond.code yJ0_charAt_5068e cJ0_charAt_5068e 2 (some .char)] (gRp 3) (gPu sL [.ref (ex 1), .int i]) (gQu (some (.int (gPl i.toNatClampNeg)))) 0 0 (fun _ => False) := by
  refine gMet_of (XC := fun _ _ _ => False) (gx_ofW (by decide +kernel) (fun p e s m args below meth c s₁ B hml hT hP => ?_)) (fun _ _ _ h => h)
  obtain ⟨rfl, hO⟩ := hP
  have hx := B.exec
  have hb := B.bytes
  have hr := B.returns
  have hlocks := B.notSynchronized
  have hown := findClass_of_methodNamed B.named
  have hS : va_S (fun q => sL.heap.size ≤ q) s.heap s.heap [] := va_S.rf
  have hS0 : va_S (fun _ => False) s.heap s.heap [] := va_S.rf
  have hl := lv_entry ([.ref (ex 1), .int i]) (n := 2) (Nat.le_of_ble_eq_true rfl)
  rw [lg_entry_eq]
  generalize (lg_sl ([.ref (ex 1), .int i]) ++ List.replicate (2 - (lg_sl ([.ref (ex 1), .int i])).length) Slot.unset).toArray = ls at hl ⊢
  have hl : lv_has ls 2 [(0, .ref (ex 1)), (1, .int i)] := hl
  refine vx_ret ?_
  have hz' := hz
  obtain ⟨vb, hob, -, hva, hvb, -, -⟩ := hz'
  have hva9 := (va_OF.moved hO.1.alike hva).kept (fun q hq _ => hO.2.2 q hq)
  have hob9 := (va_O.moved hO.1.alike hob).kept (fun q hq _ => hO.2.2 q hq)
  have hcell : ∃ cellB : Cell, s.heap[ex 1]? = some cellB ∧ cellB.vm.isStatics = false ∧ s.vm.findClass "java/lang/String" = some cellB.cls := by
    obtain ⟨cell, q1, q2, q3, -⟩ := hob9
    exact ⟨cell, q1, q2, q3⟩
  refine lv_aload_n hx hb gd_cha_0 rfl (lv_at hl 0 rfl) ?_
  refine gpCallV (av := []) (rest := []) (C := "java/lang/String") HL hO hx hb hown gk_lat_code gk_ini_String gk_lat_inst gk_lat_sel gk_l_cha_lat (by decide) (by decide +kernel) (gp_lat l HL hz) (by decide) (show 0 + 1 ≤ 3 by decide) (show 40 * (0 + 1) ≤ 40 * 3 by decide) (by rw [hl.1, hml]) hS0 (fun _ h => h.elim) hcell (by decide) gd_cha_1 ⟨Nat.le_refl _, Nat.le_refl _⟩ (fun H1 locs1 z1 k1 hS1 => ?_)
  have hS2 : va_S (fun q => sL.heap.size ≤ q) s.heap H1 locs1 := ⟨z1, fun q hq _ => k1 q hq, fun q hq => (hS1.2.2 q hq).elim⟩
  refine lv_if_eq (tgt := 16) hx hb gd_cha_4 rfl (fun q => by exact absurd q (by decide)) (fun _ => ?_)
  refine lv_aload_n hx hb gd_cha_7 rfl (lv_at hl 0 rfl) ?_
  refine vk_getf hx hb hva9 hS2 hown (gw_at hO.1 HL gk_f_val rfl _) (fun x hx => hx) gd_cha_8 ?_
  refine lv_iload_n hx hb gd_cha_11 rfl (lv_at hl 1 rfl) ?_
  refine gpCallS (av := [.ref vb, .int i]) (rest := []) HL hO hx hb hown gk_lch_code gk_ini_StringLatin1 gk_lch_stat gk_l_cha_lch (by decide) (by show _ = some (2 : Nat); decide +kernel) (gp_lch l HL hz hvb hi) (by decide) (Nat.le_refl _) (Nat.le_refl _) (by rw [hl.1, hml]) hS1 (fun _ h => h.elim) (by decide) gd_cha_12 ⟨Nat.le_refl _, Nat.le_refl _⟩ (fun H2 locs2 z2 k2 hS3 => ?_)
  have e9 : narrow .char (.int (gPl i.toNatClampNeg)) = .int (gPl i.toNatClampNeg) := by rcases hi with rfl | rfl | rfl <;> decide
  exact W.zret hx hb hr e9 (fun t ht hW => ⟨rfl, hS3.F ht⟩) hS3.2.2 gd_cha_15
end CHA
