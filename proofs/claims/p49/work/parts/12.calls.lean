/-! CALLS: the interpreter's one step over the runs of what is called and of what follows; a call of the machine, as the interpreter tells it -/
theorem gRun_zero (sc : gSc) (d m pc : Nat) (ls : gL) (st : List Value) (h : gH) : gRun sc 0 d m pc ls st h = none := rfl
theorem gRun_succ (sc : gSc) (n d m pc : Nat) (ls : gL) (st : List Value) (h : gH) : gRun sc (n + 1) d m pc ls st h = gStp sc (gRun sc n) d m pc ls st h := rfl
theorem gCall_some {rec : Nat → Nat → Nat → gL → List Value → gH → Option (gO × gH)} {d m : Nat} {q : gI} {pc : Nat} {ls : gL} {st : List Value} {h : gH} {ok thr : Bool} {o : gO} {h' : gH} (hc : gCall rec d m q pc ls st h ok thr = some (o, h')) :
    (900 ≤ q.2.2.1 ∧ ∃ r, gPrim q.2.2.1 st h = some r ∧ rec d m (pc + 3) ls r.1 r.2 = some (o, h')) ∨
    (q.2.2.1 < 900 ∧ q.2.2.2 ≤ st.length ∧ (st.drop q.2.2.2).length ≤ 8 ∧ ok = true ∧ q.2.2.2 ≤ gMx q.2.2.1 ∧ ∃ d', d = d' + 1 ∧ ∃ oc hc', rec d' q.2.2.1 0 (gStart q.2.2.1 (st.take q.2.2.2).reverse) [] h = some (oc, hc') ∧
      ((∃ v, oc = .inl v ∧ rec d m (pc + 3) ls (v.toList ++ st.drop q.2.2.2) hc' = some (o, h')) ∨
       (∃ E, oc = .inr E ∧ thr = true ∧ ((∃ hp k g, gHand m pc E = some (hp, k, g) ∧ rec d m g (ls.set k none) [] hc' = some (o, h')) ∨ (gHand m pc E = none ∧ gPass m = true ∧ o = .inr E ∧ h' = hc'))))) := by
  unfold gCall at hc
  split at hc
  · rename_i h9
    split at hc
    · rename_i r hr
      exact Or.inl ⟨h9, r, hr, hc⟩
    · cases hc
  · rename_i h9
    split at hc
    · rename_i hcon
      obtain ⟨c1, c2, c3, c4⟩ := hcon
      split at hc
      · cases hc
      · rename_i d'
        split at hc
        · cases hc
        · rename_i v hc' hrec
          exact Or.inr ⟨by omega, c1, c2, c3, c4, d', rfl, _, _, hrec, Or.inl ⟨v, rfl, hc⟩⟩
        · rename_i E hc' hrec
          split at hc
          · cases hc
          · rename_i hthr
            have ht : thr = true := by simpa using hthr
            split at hc
            · rename_i hp k g hh
              exact Or.inr ⟨by omega, c1, c2, c3, c4, d', rfl, _, _, hrec, Or.inr ⟨E, rfl, ht, Or.inl ⟨hp, k, g, hh, hc⟩⟩⟩
            · rename_i hh
              split at hc
              · rename_i hpass
                cases hc
                exact Or.inr ⟨by omega, c1, c2, c3, c4, d', rfl, _, _, hrec, Or.inr ⟨E, rfl, ht, Or.inr ⟨hh, hpass, rfl, rfl⟩⟩⟩
              · cases hc
    · cases hc
theorem gStep_mono {sc : gSc} {q : gI} {pc : Nat} {ls : gL} {st : List Value} {h : gH} {r : gQ} (hs : gStep sc q pc ls st h = some r) : h.1 ≤ r.2.2.2.1 ∧ h.2.1 ≤ r.2.2.2.2.1 := by
  unfold gStep at hs
  split at hs
  all_goals (repeat' split at hs)
  all_goals first
    | (cases hs; done)
    | (cases hs; exact ⟨Nat.le_refl _, Nat.le_refl _⟩)
    | (cases hs; exact ⟨Nat.le_succ _, Nat.le_add_right _ _⟩)
theorem gPrim_mono {a : Nat} {st : List Value} {h : gH} {r : List Value × gH} (hp : gPrim a st h = some r) : h.1 ≤ r.2.1 ∧ h.2.1 ≤ r.2.2.1 := by
  unfold gPrim at hp
  split at hp
  all_goals (repeat' split at hp)
  all_goals first
    | (cases hp; done)
    | (cases hp; exact ⟨Nat.le_refl _, Nat.le_refl _⟩)
theorem gRun_mono (sc : gSc) : ∀ (n d m pc : Nat) (ls : gL) (st : List Value) (h : gH) (o : gO) (h' : gH), gRun sc n d m pc ls st h = some (o, h') → h.1 ≤ h'.1 ∧ h.2.1 ≤ h'.2.1
  | 0, d, m, pc, ls, st, h, o, h', hr => by
    rw [gRun_zero] at hr
    cases hr
  | n + 1, d, m, pc, ls, st, h, o, h', hr => by
    rw [gRun_succ] at hr
    have ih := gRun_mono sc n
    have hs : ∀ (q : gI) (r : gQ), gStep sc q pc ls st h = some r → gRun sc n d m r.1 r.2.1 r.2.2.1 r.2.2.2 = some (o, h') → h.1 ≤ h'.1 ∧ h.2.1 ≤ h'.2.1 := fun q r h1 h2 => by
      have h3 := gStep_mono h1
      have h4 := ih _ _ _ _ _ _ _ _ h2
      omega
    have hcl : ∀ (q : gI) (ok thr : Bool), gCall (gRun sc n) d m q pc ls st h ok thr = some (o, h') → h.1 ≤ h'.1 ∧ h.2.1 ≤ h'.2.1 := fun q ok thr h1 => by
      rcases gCall_some h1 with ⟨-, r, h2, h3⟩ | ⟨-, -, -, -, -, d', -, oc, hc', h2, h3⟩
      · have h4 := gPrim_mono h2
        have h5 := ih _ _ _ _ _ _ _ _ h3
        omega
      · have h4 := ih _ _ _ _ _ _ _ _ h2
        rcases h3 with ⟨v, -, h5⟩ | ⟨E, -, -, ⟨_, _, _, -, h5⟩ | ⟨-, -, -, h5⟩⟩
        · have h6 := ih _ _ _ _ _ _ _ _ h5
          omega
        · have h6 := ih _ _ _ _ _ _ _ _ h5
          omega
        · rw [h5]
          exact h4
    unfold gStp at hr
    split at hr
    · cases hr
    · rename_i q hq
      split at hr
      · repeat' split at hr
        all_goals first | (cases hr; done) | (cases hr; exact ⟨Nat.le_refl _, Nat.le_refl _⟩)
      · repeat' split at hr
        all_goals first | (cases hr; done) | (cases hr; exact ⟨Nat.le_refl _, Nat.le_refl _⟩)
      · repeat' split at hr
        all_goals first | (cases hr; done) | (cases hr; exact ⟨Nat.le_refl _, Nat.le_refl _⟩)
      · repeat' split at hr
        all_goals first | (cases hr; done) | (cases hr; exact ⟨Nat.le_refl _, Nat.le_refl _⟩)
      · split at hr
        · split at hr
          · cases hr
            exact ⟨Nat.le_succ _, Nat.le_add_right _ _⟩
          · cases hr
        · split at hr
          · rename_i r h1
            exact hs _ r h1 hr
          · cases hr
      · exact hcl _ _ _ hr
      · exact hcl _ _ _ hr
      · exact hcl _ _ _ hr
      · split at hr
        · rename_i r h1
          exact hs _ r h1 hr
        · cases hr
theorem gHp_keep {B : Nat} {D : va_G} {ex : Nat → Nat} {ads : List Nat} {h : gH} {s : State} {H H1 : Heap} (hH : gHp B D ex ads h s H) (hk : ∀ q : Nat, q < H.size → H1[q]? = H[q]?) : gHp B D ex ads h s H1 := by
  obtain ⟨ws, tys, hads, hP, hD, hK, hlen, hcor⟩ := hH
  exact ⟨ws, tys, hads, hP.kept (fun k q hq => hk q.1 ((hP k q hq).lt)), hD, hK, hlen, hcor⟩
theorem gHp_moved {B : Nat} {D : va_G} {ex : Nat → Nat} {ads : List Nat} {h : gH} {s U : State} {H : Heap} (hvm : s.vm.Alike U.vm) (hH : gHp B D ex ads h s H) : gHp B D ex ads h U H := by
  obtain ⟨ws, tys, hads, hP, hD, hK, hlen, hcor⟩ := hH
  exact ⟨ws, tys, hads, hP, hD, va_K.moved hvm hK, hlen, hcor⟩
/-- a method's start, end, throw, over the interpreter's heaps -/
def gPc (sL : State) (D : va_G) (ex : Nat → Nat) (av : List Value) (h : gH) (ads : List Nat) : Array Value → State → Prop := fun a U => ∃ avl : List Value, a = avl.toArray ∧ gRs ads ex av avl ∧ gOld sL U U.heap ∧ gHp sL.heap.size D ex ads h U U.heap
def gQo (sL : State) (D : va_G) (ex : Nat → Nat) (ads : List Nat) (o : gO) (h' : gH) : Array Value → State → Outcome → State → Prop := fun _ st oc t => match o with
  | .inl v => ∃ (x : List Nat) (w : Option Value), oc = .returned w ∧ gRv (ads ++ x) ex v w ∧ gHp sL.heap.size D ex (ads ++ x) h' t t.heap ∧ va_F (fun q => sL.heap.size ≤ q) st t
  | .inr _ => False
def gXo (sL : State) (D : va_G) (ex : Nat → Nat) (ads : List Nat) (o : gO) (h' : gH) : String → State → State → Prop := fun E st t => match o with
  | .inl _ => False
  | .inr k => E = gEx k ∧ ∃ x : List Nat, gHp sL.heap.size D ex (ads ++ x) h' t t.heap ∧ va_F (fun q => sL.heap.size ≤ q) st t
def gRm (d mc ms : Nat) : Room := { frames := d + 20, locals := 40 * d + 400, cells := mc, slots := ms }
theorem gMx_le (a : Nat) : gMx a ≤ 21 := by
  have h1 : gMs.all (fun q => decide (q.2.2.1 ≤ 21)) = true := by decide +kernel
  unfold gMx gM
  split
  · rename_i q hq
    exact of_decide_eq_true (List.all_eq_true.mp h1 q (List.mem_of_getElem? hq))
  · exact Nat.zero_le _
section Bodies
variable {l : Launch} {rm : Room} {Pc : Array Value → State → Prop} {Qc : Array Value → State → Outcome → State → Prop} {XC : String → State → State → Prop} {mc ms : Nat} {free : Addr → Prop}
theorem gx_ofW {y : MethodName} {cc : ByteArray} {maxL : Nat} {ret : Option FieldType} (hy : plainFor y = true)
    (body : ∀ p e s m args below meth c s₁, BodyLoose p l y (headSpec [Cond.code y cc maxL ret] rm) cc maxL ret e s m args below meth c s₁ → c.maxLocals = maxL → c.exceptionTable.toList = [] → Pc args s →
      W p l e rm s m args below meth c s.heap [] 0 0 (vx_MQ below Qc XC args s mc ms free) (entryFrame m args maxL)) : vx_Met l y [Cond.code y cc maxL ret] rm Pc Qc XC mc ms free := by
  refine MetFree.of_bodySF (code := cc) (maxLocals := maxL) (ret := ret) hy ?_ ?_
  · intro args s m h hn
    obtain ⟨meth, c, h1, h2, h3, h4, h5, h6, -, -⟩ := Cond.code_spec hn (atoms_spec (ws := [Cond.code y cc maxL ret]) h _ List.mem_cons_self)
    exact ⟨meth, c, h1, h2, h3, h4, h5, h6⟩
  · intro p e s m args below meth c s₁ B hml hP _
    have hh0 : s₁.heap = s.heap := by rw [B.state]; rfl
    have ht : c.exceptionTable.toList = [] := by
      obtain ⟨meth9, c9, h1, h2, -, -, -, -, h7, -⟩ := Cond.code_spec B.named (atoms_spec (ws := [Cond.code y cc maxL ret]) B.pre _ List.mem_cons_self)
      cases Option.some.inj (h1.symm.trans B.method)
      cases Option.some.inj (h2.symm.trans (Stand.of_body B).code)
      rw [Array.isEmpty_iff.mp h7]
    obtain ⟨t, a1, o, b1, b2, b3⟩ := body p e s m args below meth c s₁ B hml ht hP s₁ hh0 (Stand.of_body B)
    exact ⟨t, o, a1, b1, b2, b3⟩
theorem gx_ofWH {y : MethodName} {cc : ByteArray} {maxL : Nat} {ret : Option FieldType} {hh : List (Nat × Nat × Nat × Nat)} (hy : plainFor y = true)
    (body : ∀ p e s m args below meth c s₁, BodyLoose p l y (headSpec [Cond.codeWith y cc maxL ret hh] rm) cc maxL ret e s m args below meth c s₁ → c.maxLocals = maxL → c.exceptionTable.toList = tableOf hh → Pc args s →
      W p l e rm s m args below meth c s.heap [] 0 0 (vx_MQ below Qc XC args s mc ms free) (entryFrame m args maxL)) : vx_Met l y [Cond.codeWith y cc maxL ret hh] rm Pc Qc XC mc ms free := by
  refine MetFree.of_bodySF (code := cc) (maxLocals := maxL) (ret := ret) hy ?_ ?_
  · intro args s m h hn
    obtain ⟨m9, meth, c, hn9, h1, h2, h3, h4, -, h5, h6, -⟩ := Cond.codeWith_spec (atoms_spec (ws := [Cond.codeWith y cc maxL ret hh]) h _ List.mem_cons_self)
    cases hn.symm.trans hn9
    exact ⟨meth, c, h1, h2, h3, h4, h5, h6⟩
  · intro p e s m args below meth c s₁ B hml hP _
    have hh0 : s₁.heap = s.heap := by rw [B.state]; rfl
    have ht : c.exceptionTable.toList = tableOf hh := vx_table (x := y) B (atoms_spec (ws := [Cond.codeWith y cc maxL ret hh]) B.pre _ List.mem_cons_self)
    obtain ⟨t, a1, o, b1, b2, b3⟩ := body p e s m args below meth c s₁ B hml ht hP s₁ hh0 (Stand.of_body B)
    exact ⟨t, o, a1, b1, b2, b3⟩
/-- a method of the interpreter's tables, by its body -/
theorem gx_of {a : Nat} (hy : plainFor (gY a) = true)
    (body : ∀ (p : Program) (e : Env) (s : State) (m : MethodId) (args : Array Value) (below : List Frame) (meth : Method) (c : Code), p.tables.exec = Jvm.exec → c.code = gB a → c.maxLocals = gMx a → s.vm.findClass (gY a).cls = some m.cls → meth.sig.returnType = gRt a → meth.locks = false → meth.name = (gY a).name →
      c.exceptionTable.toList = tableOf (gTb a) → Pc args s → W p l e rm s m args below meth c s.heap [] 0 0 (vx_MQ below Qc XC args s mc ms free) (entryFrame m args (gMx a))) : vx_Met l (gY a) [gCodeW a] rm Pc Qc XC mc ms free := by
  have e9 : gCodeW a = (match gTb a with | [] => .code (gY a) (gB a) (gMx a) (gRt a) | t => .codeWith (gY a) (gB a) (gMx a) (gRt a) t) := rfl
  cases ht : gTb a with
  | nil =>
    rw [ht] at e9
    rw [e9]
    refine gx_ofW hy fun p e s m args below meth c s₁ B hml hT hP => ?_
    exact body p e s m args below meth c B.exec B.bytes hml (findClass_of_methodNamed B.named) B.returns B.notSynchronized (name_of_methodNamed B.named B.method).1 (by rw [hT, ht]; rfl) hP
  | cons t0 t1 =>
    rw [ht] at e9
    rw [e9]
    refine gx_ofWH hy fun p e s m args below meth c s₁ B hml hT hP => ?_
    exact body p e s m args below meth c B.exec B.bytes hml (findClass_of_methodNamed B.named) B.returns B.notSynchronized (name_of_methodNamed B.named B.method).1 (by rw [hT, ht]) hP
/-- what never throws -/
theorem gMet_of {y : MethodName} {ws : List Cond} (h : vx_Met l y ws rm Pc Qc XC mc ms free) (hX : ∀ E st t, ¬ XC E st t) : Met l y ws rm Pc Qc mc ms free := by
  intro p e h1 h2 h3 s m args below hf happ hP hK
  obtain ⟨n, o, a1, a2, a3, hq⟩ := h p e h1 h2 h3 s m args below hf happ hP hK
  refine ⟨n, o, a1, a2, a3, ?_⟩
  rcases hq with hq | ⟨q, -, E, ce, L, hx, -⟩
  · exact hq
  · exact (hX _ _ _ hx).elim
end Bodies
theorem gMok_all {a kd k : Nat} {p : List Nat} (h : gMok a kd k p = true) : plainFor (gY a) = true ∧ (gY a).cls ≠ "java/lang/invoke/MethodHandle" ∧ (gY a).cls ≠ "java/lang/invoke/VarHandle" ∧ (parseMethodDescriptor (gY a).desc).map (fun d => d.parameters.length) = some k ∧ gCodeW a ∈ lw_tbl ∧ Cond.initialized (gY a).cls ∈ lw_tbl := by
  unfold gMok at h
  simp only [Bool.and_eq_true, decide_eq_true_eq] at h
  obtain ⟨⟨⟨⟨⟨⟨h1, h2⟩, h3⟩, h4⟩, h5⟩, h6⟩, -⟩ := h
  exact ⟨h1, h2, h3, h4, gW_in h5, gW_in h6⟩
theorem gMok_0 {a k : Nat} {p : List Nat} (h : gMok a 0 k p = true) : Cond.static (gY a) ∈ lw_tbl := by
  unfold gMok at h
  simp only [Bool.and_eq_true, decide_eq_true_eq] at h
  exact gW_in h.2
theorem gMok_1 {a k : Nat} {p : List Nat} (h : gMok a 1 k p = true) : Cond.instanceMethod (gY a) ∈ lw_tbl ∧ Cond.selects (gY a).cls (gY a) (gY a) ∈ lw_tbl ∧ gTb a = [] := by
  unfold gMok at h
  simp only [Bool.and_eq_true, decide_eq_true_eq] at h
  exact ⟨gW_in h.2.1.1, gW_in h.2.1.2, List.isEmpty_iff.mp h.2.2⟩
theorem gMok_2 {a k : Nat} {p : List Nat} (h : gMok a 2 k p = true) : Cond.instanceMethod (gY a) ∈ lw_tbl ∧ (gY a).name = "<init>" ∧ gRt a = none ∧ gTb a = [] := by
  unfold gMok at h
  simp only [Bool.and_eq_true, decide_eq_true_eq] at h
  exact ⟨gW_in h.2.1.1.1, h.2.1.1.2, h.2.1.2, List.isEmpty_iff.mp h.2.2⟩
theorem gCodeW_good (a : Nat) : goodWord (gCodeW a) = true := by
  have e9 : gCodeW a = (match gTb a with | [] => .code (gY a) (gB a) (gMx a) (gRt a) | t => .codeWith (gY a) (gB a) (gMx a) (gRt a) t) := rfl
  cases ht : gTb a with
  | nil => rw [ht] at e9; rw [e9]; rfl
  | cons t0 t1 => rw [ht] at e9; rw [e9]; rfl
theorem gCodeW_nil {a : Nat} (h : gTb a = []) : gCodeW a = .code (gY a) (gB a) (gMx a) (gRt a) := by
  have e9 : gCodeW a = (match gTb a with | [] => .code (gY a) (gB a) (gMx a) (gRt a) | t => .codeWith (gY a) (gB a) (gMx a) (gRt a) t) := rfl
  rw [h] at e9
  exact e9
theorem gCodeW_cons {a : Nat} (h : gTb a ≠ []) : gCodeW a = .codeWith (gY a) (gB a) (gMx a) (gRt a) (gTb a) := by
  have e9 : gCodeW a = (match gTb a with | [] => .code (gY a) (gB a) (gMx a) (gRt a) | t => .codeWith (gY a) (gB a) (gMx a) (gRt a) t) := rfl
  cases ht : gTb a with
  | nil => exact absurd ht h
  | cons t0 t1 => rw [ht] at e9; exact e9
theorem gPc_blind {sL : State} {D : va_G} {ex : Nat → Nat} {av : List Value} {h : gH} {ads : List Nat} : FrameBlind (gPc sL D ex av h ads) := fun _ _ _ _ h => h
section CALLS
variable {sL : State} {D : va_G} {ex : Nat → Nat} {sc : gSc} {aL : Array Value} {m : Nat} {p : Program} {l : Launch} {e : Env} {R : Room} {s : State} {mth : MethodId} {args : Array Value} {below : List Frame} {meth : Method} {c : Code} {Q : State → Prop}
variable {a b pc i d' mc ms k : Nat} {ls : gL} {st : List Value} {h h0 hc' : gH} {oc : gO} {ads : List Nat} {H : Heap} {locs : List Loc} {cells slots : Nat} {mls : Array Slot} {mst : List Value} {hp : List Nat}
/-- what a call gives: the walk goes on behind it, or an exception flies -/
def gKc (sL : State) (D : va_G) (ex : Nat → Nat) (p : Program) (l : Launch) (e : Env) (R : Room) (s : State) (mth : MethodId) (args : Array Value) (below : List Frame) (meth : Method) (c : Code) (Q : State → Prop) (pc : Nat) (ads : List Nat) (oc : gO) (hc' : gH) (cells slots : Nat) (mls : Array Slot) (rest : List Value) : Prop :=
  (∀ (v : Option Value) (x : List Nat) (w : Option Value) (H1 : Heap) (locs1 : List Loc), oc = .inl v → gRv (ads ++ x) ex v w → gHp sL.heap.size D ex (ads ++ x) hc' s H1 → va_S (fun q => sL.heap.size ≤ q) s.heap H1 locs1 → W p l e R s mth args below meth c H1 locs1 cells slots Q (F0 mth (pc + 3) mls (w.toList ++ rest))) ∧
  (∀ (E : Nat) (x : List Nat) (q : Addr) (ce : Cell) (H1 : Heap) (locs1 : List Loc), oc = .inr E → gHp sL.heap.size D ex (ads ++ x) hc' s H1 → va_S (fun q => sL.heap.size ≤ q) s.heap H1 locs1 → H1[q]? = some ce → ce.vm = .none → s.vm.findClass (gEx E) = some ce.cls → vx_W p l e R s mth args below meth c H1 locs1 cells slots Q (F0 mth pc mls rest) q)
theorem gRun_use {a9 : Array Value} {rest : List Value} (hr : vx_Run p l e R s mth args below meth c H locs cells slots mc ms (F0 mth pc mls mst) rest (gQo sL D ex ads oc hc' a9) (gXo sL D ex ads oc hc') (fun q => sL.heap.size ≤ q)) (hS : va_S (fun q => sL.heap.size ≤ q) s.heap H locs)
    (kk : gKc sL D ex p l e R s mth args below meth c Q pc ads oc hc' (cells + mc) (slots + ms) mls rest) : W p l e R s mth args below meth c H locs cells slots Q (F0 mth pc mls mst) := by
  intro T hT X
  rcases hr T hT X with ⟨v, st₀, t, T', L, h0, X', hL, e1, e2, hq, stp⟩ | ⟨q, st₀, t, T', L, E, ce, h0, X', hL, e1, e2, hx, hce, hcv, hcl, stp⟩
  · cases oc with
    | inl v9 =>
      obtain ⟨x, w, hw, hrv, hhp, hF⟩ := hq
      cases hw
      obtain ⟨k1, k2, k3⟩ := vx_keep h0 e1 hS (fun q _ h => h) (fun q h => h) hL hF
      have hal : s.vm.Alike t.vm := by rw [← e2]; exact X'.warmed.alike
      obtain ⟨t2, a1, b1⟩ := kk.1 v9 x v T'.heap (locs ++ L) rfl hrv (by rw [e1]; exact gHp_moved hal.symm hhp) k3 T' rfl X'
      exact ⟨t2, stp t2 a1, b1⟩
    | inr E => exact hq.elim
  · cases oc with
    | inl v9 => exact hx.elim
    | inr E9 =>
      obtain ⟨rfl, x, hhp, hF⟩ := hx
      obtain ⟨k1, k2, k3⟩ := vx_keep h0 e1 hS (fun q _ h => h) (fun q h => h) hL hF
      have hal : s.vm.Alike t.vm := by rw [← e2]; exact X'.warmed.alike
      obtain ⟨t2, a1, b1⟩ := kk.2 E9 x q ce T'.heap (locs ++ L) rfl (by rw [e1]; exact gHp_moved hal.symm hhp) k3 (by rw [e1]; exact hce) hcv hcl T' rfl X'
      exact ⟨t2, stp.trans a1, b1⟩
theorem gRun_useV {a9 : Array Value} {rest : List Value} {v9 : Option Value} (hr : va_Run p l e R s mth args below meth c H locs cells slots mc ms (F0 mth pc mls mst) rest (gQo sL D ex ads (.inl v9) hc' a9) (fun q => sL.heap.size ≤ q)) (hS : va_S (fun q => sL.heap.size ≤ q) s.heap H locs)
    (kk : gKc sL D ex p l e R s mth args below meth c Q pc ads (.inl v9) hc' (cells + mc) (slots + ms) mls rest) : W p l e R s mth args below meth c H locs cells slots Q (F0 mth pc mls mst) := by
  intro T hT X
  obtain ⟨v, st₀, t, T', L, h0, X', hL, e1, e2, hq, stp⟩ := hr T hT X
  obtain ⟨x, w, hw, hrv, hhp, hF⟩ := hq
  cases hw
  obtain ⟨k1, k2, k3⟩ := vx_keep h0 e1 hS (fun q _ h => h) (fun q h => h) hL hF
  have hal : s.vm.Alike t.vm := by rw [← e2]; exact X'.warmed.alike
  obtain ⟨t2, a1, b1⟩ := kk.1 v9 x v T'.heap (locs ++ L) rfl hrv (by rw [e1]; exact gHp_moved hal.symm hhp) k3 T' rfl X'
  exact ⟨t2, stp t2 a1, b1⟩
theorem gPc_at {av As : List Value} (hO : gOld sL s s.heap) (hH : gHp sL.heap.size D ex ads h s H) (hS : va_S (fun q => sL.heap.size ≤ q) s.heap H locs) (hav : gRs ads ex av As) : ∀ U : State, U.heap = H → s.WarmedH U.vm → gPc sL D ex av h ads As.toArray U := fun U hU hW =>
  ⟨As, rfl, hav, ⟨State.WarmedH.trans hO.1 hW, by rw [hU]; exact Nat.le_trans hO.2.1 hS.1, fun q hq => by
    rw [hU, hS.2.1 q (Nat.lt_of_lt_of_le hq hO.2.1) (Nat.not_le.mpr hq)]
    exact hO.2.2 q hq⟩, by rw [hU]; exact gHp_moved hW.alike hH⟩
theorem gArgs {b : Nat} (hst : gRs ads ex st mst) (hb : b ≤ st.length) : gRs ads ex (st.take b).reverse (mst.take b).reverse ∧ gRs ads ex (st.drop b) (mst.drop b) ∧ (mst.take b).reverse.length = b ∧ mst = (mst.take b).reverse.reverse ++ mst.drop b := by
  obtain ⟨h1, h2⟩ := gRs_take b hst
  refine ⟨gRs_rev h1, h2, ?_, ?_⟩
  · rw [List.length_reverse, List.length_take, gRs_len hst]
    omega
  · rw [List.reverse_reverse, List.take_append_drop]
theorem gCall_st (HL : gLf sL D ex sc aL) (F : gFr sL m p s mth meth c) (hk : gKnd a = (0, b)) (hlk : gW hp 0 (.methodLink (gY m).cls i (gY a)) = true) (hd : decode (gB m) pc = .ok (.invokestatic i, 3))
    (P : gPt sL.heap.size D ex h0 s (gMx m) ls st h ads H locs cells slots mls mst) (hM : vx_Met l (gY a) [gCodeW a] (gRm d' mc ms) (gPc sL D ex (st.take b).reverse h ads) (gQo sL D ex ads oc hc') (gXo sL D ex ads oc hc') mc ms (fun q => sL.heap.size ≤ q))
    (hb1 : b ≤ st.length) (hb2 : (st.drop b).length ≤ 8) (hRf : R.frames = d' + 1 + 20) (hRl : R.locals = 40 * (d' + 1) + 400) (hroom : cells + mc ≤ R.cells ∧ slots + ms ≤ R.slots)
    (kk : gKc sL D ex p l e R s mth args below meth c Q pc ads oc hc' (cells + mc) (slots + ms) mls (mst.drop b)) : W p l e R s mth args below meth c H locs cells slots Q (F0 mth pc mls mst) := by
  obtain ⟨hx, hb, hml, hown, hret, hlck, hnm, hO⟩ := F
  obtain ⟨hH, hS, hLo, hst, hc, hsl⟩ := P
  obtain ⟨pk, hmok⟩ := gKnd_ok hk (by decide)
  obtain ⟨o1, o2, o3, o4, o5, o6⟩ := gMok_all hmok
  obtain ⟨a1, a2, a3, a4⟩ := gArgs hst hb1
  have hsum : 2 * (F0 mth pc mls mst).monitorRoom + ((mst.drop b).map fun v => v.category).sum ≤ 8 := by
    rw [gRs_sum a2]
    show 2 * 0 + _ ≤ 8
    omega
  have hlen : ∀ sig, parseMethodDescriptor (gY a).desc = some sig → b = sig.parameters.length := fun sig hsig => by
    rw [hsig] at o4
    exact (Option.some.inj o4).symm
  have hmx := gMx_le a
  have hrf : (gRm d' mc ms).frames + 1 ≤ R.frames := by rw [hRf]; show d' + 20 + 1 ≤ _; omega
  have hrl : 8 + (gMx a + 11) + (gRm d' mc ms).locals ≤ R.locals := by rw [hRl]; show 8 + (gMx a + 11) + (40 * d' + 400) ≤ _; omega
  have hcw : ∀ (a' : Array Value) (U : State), s.WarmedH U.vm → (gCodeW a).before a' U = true := fun a' U hW => gw_at (State.WarmedH.trans hO.1 hW) HL.1 o5 (gCodeW_good a) a'
  have hpre : PreS s H (gPc sL D ex (st.take b).reverse h ads) (mst.take b).reverse := ⟨gPc_blind, gPc_at hO hH hS a1⟩
  have hfix : CallFix p mth c (gB m) (gMx m) s args [] (gY m).cls := ⟨hx, hb, hml, hown, fun w hw => by cases hw⟩
  by_cases ht : gTb a = []
  · rw [gCodeW_nil ht] at hM hcw
    have hr := vx_runS (e := e) (below := below) (meth := meth) (locs := locs) (cells := cells) (slots := slots) hfix hM (cw := ⟨⟨rfl, rfl, hrf, hrl, fun w hw => by
      cases List.mem_singleton.mp hw
      exact hcw, List.mem_cons_self, hcw _ _ (State.WarmedH.refl s), gw_at hO.1 HL.1 o6 rfl _, ⟨o2, o3⟩, hlen, gw_at hO.1 HL.1 (gW_in hlk) rfl _⟩, gw_at hO.1 HL.1 (gMok_0 hmok) rfl _⟩) hpre
      (g := F0 mth pc mls mst) (rest := mst.drop b) rfl a3 hLo.2.1 a4 hsum hd hroom
    exact gRun_use hr hS kk
  · rw [gCodeW_cons ht] at hM hcw
    have hr := vx_runSX (e := e) (below := below) (meth := meth) (locs := locs) (cells := cells) (slots := slots) hfix hM (cw := ⟨⟨rfl, rfl, hrf, hrl, fun w hw => by
      cases List.mem_singleton.mp hw
      exact hcw, List.mem_cons_self⟩, hcw _ _ (State.WarmedH.refl s), gw_at hO.1 HL.1 o6 rfl _, ⟨o2, o3⟩, hlen, gw_at hO.1 HL.1 (gW_in hlk) rfl _, gw_at hO.1 HL.1 (gMok_0 hmok) rfl _⟩) hpre
      (g := F0 mth pc mls mst) (rest := mst.drop b) rfl a3 hLo.2.1 a4 hsum hd hroom
    exact gRun_use hr hS kk
theorem gRecv_at {av As : List Value} (hH : gHp sL.heap.size D ex ads h s H) (hr : gRecv h a av = true) (hav : gRs ads ex av As) : ∃ (a9 : Nat) (As' : List Value), As = .ref a9 :: As' ∧ ∃ cell : Cell, H[a9]? = some cell ∧ cell.vm.isStatics = false ∧ s.vm.findClass (gY a).cls = some cell.cls := by
  unfold gRecv at hr
  split at hr
  · rename_i r av'
    obtain ⟨a9, As', ha, rfl, -⟩ := gRs_r hav
    refine ⟨a9, As', rfl, ?_⟩
    obtain ⟨ws, tys, hads, hP, hD, hK, hlen, hcor⟩ := id hH
    split at hr
    · rename_i ci fs hq
      obtain ⟨e9, he, fs', rfl, hfs⟩ := gCell (B := 0) (D := D) hads hcor ha hq
      obtain ⟨⟨C, T, N⟩, hcl, -⟩ := hP _ _ he
      have eC : gCn ci = C := by simp only [gCn, hcl]
      rw [eC, beq_iff_eq] at hr
      rw [← hr]
      exact va_recv hK hP hcl he
    · cases hr
  · cases hr
theorem gCall_vi (HL : gLf sL D ex sc aL) (F : gFr sL m p s mth meth c) (hb0 : 1 ≤ b) (hk : gKnd a = (1, b - 1)) (hlk : gW hp 0 (.methodLink (gY m).cls i (gY a)) = true) (hd : decode (gB m) pc = .ok (.invokevirtual i, 3)) (hrc : gRecv h a (st.take b).reverse = true)
    (P : gPt sL.heap.size D ex h0 s (gMx m) ls st h ads H locs cells slots mls mst) (hM : vx_Met l (gY a) [gCodeW a] (gRm d' mc ms) (gPc sL D ex (st.take b).reverse h ads) (gQo sL D ex ads oc hc') (gXo sL D ex ads oc hc') mc ms (fun q => sL.heap.size ≤ q))
    (hb1 : b ≤ st.length) (hb2 : (st.drop b).length ≤ 8) (hRf : R.frames = d' + 1 + 20) (hRl : R.locals = 40 * (d' + 1) + 400) (hroom : cells + mc ≤ R.cells ∧ slots + ms ≤ R.slots)
    (kk : gKc sL D ex p l e R s mth args below meth c Q pc ads oc hc' (cells + mc) (slots + ms) mls (mst.drop b)) : W p l e R s mth args below meth c H locs cells slots Q (F0 mth pc mls mst) := by
  obtain ⟨hx, hb, hml, hown, hret, hlck, hnm, hO⟩ := F
  obtain ⟨hH, hS, hLo, hst, hc, hsl⟩ := P
  obtain ⟨pk, hmok⟩ := gKnd_ok hk (by decide)
  obtain ⟨o1, o2, o3, o4, o5, o6⟩ := gMok_all hmok
  obtain ⟨o7, o8, ht⟩ := gMok_1 hmok
  obtain ⟨a1, a2, a3, a4⟩ := gArgs hst hb1
  obtain ⟨a9, As', eAs, hcell⟩ := gRecv_at hH hrc a1
  rw [eAs] at a1 a3 a4
  have hsum : 2 * (F0 mth pc mls mst).monitorRoom + ((mst.drop b).map fun v => v.category).sum ≤ 8 := by
    rw [gRs_sum a2]
    show 2 * 0 + _ ≤ 8
    omega
  have hlen : ∀ sig, parseMethodDescriptor (gY a).desc = some sig → b - 1 = sig.parameters.length := fun sig hsig => by
    rw [hsig] at o4
    exact (Option.some.inj o4).symm
  have hmx := gMx_le a
  have hrf : (gRm d' mc ms).frames + 1 ≤ R.frames := by rw [hRf]; show d' + 20 + 1 ≤ _; omega
  have hrl : 8 + (gMx a + 11) + (gRm d' mc ms).locals ≤ R.locals := by rw [hRl]; show 8 + (gMx a + 11) + (40 * d' + 400) ≤ _; omega
  have hcw : ∀ (a' : Array Value) (U : State), s.WarmedH U.vm → (gCodeW a).before a' U = true := fun a' U hW => gw_at (State.WarmedH.trans hO.1 hW) HL.1 o5 (gCodeW_good a) a'
  have hpre : PreV s H (gY a).cls a9 (gPc sL D ex (st.take b).reverse h ads) As' := ⟨gPc_blind, hcell, gPc_at hO hH hS a1⟩
  have hfix : CallFix p mth c (gB m) (gMx m) s args [] (gY m).cls := ⟨hx, hb, hml, hown, fun w hw => by cases hw⟩
  rw [gCodeW_nil ht] at hM hcw
  have hr := vx_runV (e := e) (below := below) (meth := meth) (locs := locs) (cells := cells) (slots := slots) hfix hM (cw := ⟨⟨rfl, rfl, hrf, hrl, fun w hw => by
    cases List.mem_singleton.mp hw
    exact hcw, List.mem_cons_self, hcw _ _ (State.WarmedH.refl s), gw_at hO.1 HL.1 o6 rfl _, ⟨o2, o3⟩, hlen, gw_at hO.1 HL.1 (gW_in hlk) rfl _⟩, gw_at hO.1 HL.1 o7 rfl _, gw_at hO.1 HL.1 o8 rfl _⟩) hpre
    (g := F0 mth pc mls mst) (rest := mst.drop b) rfl (by simp at a3; omega) hLo.2.1 (by rw [List.reverse_cons, List.append_assoc] at a4; exact a4) hsum hd hroom
  exact gRun_use hr hS kk
theorem gCall_sp {v9 : Option Value} (HL : gLf sL D ex sc aL) (F : gFr sL m p s mth meth c) (hb0 : 1 ≤ b) (hk : gKnd a = (2, b - 1)) (hlk : gW hp 0 (.methodLink (gY m).cls i (gY a)) = true ∨ gW hp 0 (.methodLinkNest (gY m).cls i (gY a) "StratumLedge") = true) (hd : decode (gB m) pc = .ok (.invokespecial i, 3)) (hrc : gIsRef (st.take b).reverse = true)
    (P : gPt sL.heap.size D ex h0 s (gMx m) ls st h ads H locs cells slots mls mst) (hM : vx_Met l (gY a) [gCodeW a] (gRm d' mc ms) (gPc sL D ex (st.take b).reverse h ads) (gQo sL D ex ads (.inl v9) hc') (gXo sL D ex ads (.inl v9) hc') mc ms (fun q => sL.heap.size ≤ q))
    (hb1 : b ≤ st.length) (hb2 : (st.drop b).length ≤ 8) (hRf : R.frames = d' + 1 + 20) (hRl : R.locals = 40 * (d' + 1) + 400) (hroom : cells + mc ≤ R.cells ∧ slots + ms ≤ R.slots)
    (kk : gKc sL D ex p l e R s mth args below meth c Q pc ads (.inl v9) hc' (cells + mc) (slots + ms) mls (mst.drop b)) : W p l e R s mth args below meth c H locs cells slots Q (F0 mth pc mls mst) := by
  obtain ⟨hx, hb, hml, hown, hret, hlck, hnm, hO⟩ := F
  obtain ⟨hH, hS, hLo, hst, hc, hsl⟩ := P
  obtain ⟨pk, hmok⟩ := gKnd_ok hk (by decide)
  obtain ⟨o1, o2, o3, o4, o5, o6⟩ := gMok_all hmok
  obtain ⟨o7, o8, o9, ht⟩ := gMok_2 hmok
  obtain ⟨a1, a2, a3, a4⟩ := gArgs hst hb1
  obtain ⟨r9, av', eav⟩ : ∃ r av', (st.take b).reverse = .ref r :: av' := by
    unfold gIsRef at hrc
    split at hrc
    · rename_i r av' e9
      exact ⟨r, av', e9⟩
    · cases hrc
  obtain ⟨a9, As', eAs⟩ : ∃ a9 As', (mst.take b).reverse = .ref a9 :: As' := by
    rw [eav] at a1
    obtain ⟨a9, As', -, e9, -⟩ := gRs_r a1
    exact ⟨a9, As', e9⟩
  rw [eAs] at a1 a3 a4
  have hsum : 2 * (F0 mth pc mls mst).monitorRoom + ((mst.drop b).map fun v => v.category).sum ≤ 8 := by
    rw [gRs_sum a2]
    show 2 * 0 + _ ≤ 8
    omega
  have hlen : ∀ sig, parseMethodDescriptor (gY a).desc = some sig → b - 1 = sig.parameters.length := fun sig hsig => by
    rw [hsig] at o4
    exact (Option.some.inj o4).symm
  have hmx := gMx_le a
  have hrf : (gRm d' mc ms).frames + 1 ≤ R.frames := by rw [hRf]; show d' + 20 + 1 ≤ _; omega
  have hrl : 8 + (gMx a + 11) + (gRm d' mc ms).locals ≤ R.locals := by rw [hRl]; show 8 + (gMx a + 11) + (40 * d' + 400) ≤ _; omega
  have hcw : ∀ (a' : Array Value) (U : State), s.WarmedH U.vm → (gCodeW a).before a' U = true := fun a' U hW => gw_at (State.WarmedH.trans hO.1 hW) HL.1 o5 (gCodeW_good a) a'
  have hpre : PreS s H (gPc sL D ex (st.take b).reverse h ads) (.ref a9 :: As') := ⟨gPc_blind, gPc_at hO hH hS a1⟩
  have hfix : CallFix p mth c (gB m) (gMx m) s args [] (gY m).cls := ⟨hx, hb, hml, hown, fun w hw => by cases hw⟩
  rw [gCodeW_nil ht] at hM hcw
  have hM' := gMet_of hM (fun _ _ _ h => h)
  rw [o9] at hM' hcw
  rcases hlk with hlk | hlk
  · have hr := va_runI (e := e) (below := below) (meth := meth) (locs := locs) (cells := cells) (slots := slots) hfix hM' (cw := ⟨⟨rfl, rfl, hrf, hrl, fun w hw => by
      cases List.mem_singleton.mp hw
      exact hcw, List.mem_cons_self, hcw _ _ (State.WarmedH.refl s), gw_at hO.1 HL.1 o6 rfl _, ⟨o2, o3⟩, hlen, gw_at hO.1 HL.1 (gW_in hlk) rfl _⟩, o8, gw_at hO.1 HL.1 o7 rfl _⟩) hpre
      (g := F0 mth pc mls mst) (rest := mst.drop b) rfl (by simp at a3; omega) hLo.2.1 (by rw [List.reverse_cons, List.append_assoc] at a4; exact a4) hsum hd hroom
    exact gRun_useV hr hS kk
  · have hr := va_runIN (e := e) (below := below) (meth := meth) (locs := locs) (cells := cells) (slots := slots) (host := "StratumLedge") hfix hM' (cw := ⟨⟨⟨rfl, rfl, hrf, hrl, fun w hw => by
      cases List.mem_singleton.mp hw
      exact hcw, List.mem_cons_self⟩, hcw _ _ (State.WarmedH.refl s), gw_at hO.1 HL.1 o6 rfl _, ⟨o2, o3⟩, hlen, va_Nw.use rfl (va_Nw.warmM hO.1 (va_Nw.of rfl (HL.1 _ (gW_in hlk))))⟩, o8, gw_at hO.1 HL.1 o7 rfl _⟩) hpre
      (g := F0 mth pc mls mst) (rest := mst.drop b) rfl (by simp at a3; omega) hLo.2.1 (by rw [List.reverse_cons, List.append_assoc] at a4; exact a4) hsum hd hroom
    exact gRun_useV hr hS kk
end CALLS
