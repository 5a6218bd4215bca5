/-! WHAT A RUN COMES TO: 'Wq' over the interpreter's runs; a row an instruction, a row a call -/
theorem gCall_up {rec rec' : Nat → Nat → Nat → gL → List Value → gH → Option (gO × gH)} (hr : ∀ d d' m pc ls st h r, d ≤ d' → rec d m pc ls st h = some r → rec' d' m pc ls st h = some r) {d d' m : Nat} {q : gI} {pc : Nat} {ls : gL} {st : List Value} {h : gH} {ok thr : Bool} {r : gO × gH} (hd : d ≤ d')
    (hc : gCall rec d m q pc ls st h ok thr = some r) : gCall rec' d' m q pc ls st h ok thr = some r := by
  obtain ⟨o, h'⟩ := r
  rcases gCall_some hc with ⟨h9, r, h1, h2⟩ | ⟨h9, b1, b2, b3, b4, d1, rfl, oc, hc', h1, h2⟩
  · unfold gCall
    rw [if_pos h9, h1]
    exact hr _ _ _ _ _ _ _ _ hd h2
  · obtain ⟨d2, rfl⟩ : ∃ d2, d' = d2 + 1 := ⟨d' - 1, by omega⟩
    have h1' := hr _ d2 _ _ _ _ _ _ (by omega) h1
    unfold gCall
    rw [if_neg (by omega), if_pos ⟨b1, b2, b3, b4⟩]
    simp only [h1']
    rcases h2 with ⟨v, rfl, h3⟩ | ⟨E, rfl, rfl, ⟨hp, k, g, h3, h4⟩ | ⟨h3, h4, rfl, rfl⟩⟩
    · exact hr _ _ _ _ _ _ _ _ hd h3
    · simp only [h3]
      exact hr _ _ _ _ _ _ _ _ hd h4
    · simp only [h3, h4]
      rfl
theorem gRun_up (sc : gSc) : ∀ (n n' d d' m pc : Nat) (ls : gL) (st : List Value) (h : gH) (r : gO × gH), gRun sc n d m pc ls st h = some r → n ≤ n' → d ≤ d' → gRun sc n' d' m pc ls st h = some r
  | 0, _, _, _, _, _, _, _, _, _, hr, _, _ => by
    rw [gRun_zero] at hr
    cases hr
  | n + 1, n', d, d', m, pc, ls, st, h, r, hr, hn, hd => by
    obtain ⟨n2, rfl⟩ : ∃ n2, n' = n2 + 1 := ⟨n' - 1, by omega⟩
    rw [gRun_succ] at hr ⊢
    have ih : ∀ d d' m pc ls st h r, d ≤ d' → gRun sc n d m pc ls st h = some r → gRun sc n2 d' m pc ls st h = some r := fun d d' m pc ls st h r hd h1 => gRun_up sc n n2 d d' m pc ls st h r h1 (by omega) hd
    unfold gStp at hr ⊢
    split at hr
    · cases hr
    · rename_i q hq
      obtain ⟨i, len, a, b⟩ := q
      have hst : ∀ o : Option gQ, (match o with | some r => gRun sc n d m r.1 r.2.1 r.2.2.1 r.2.2.2 | none => none) = some r → (match o with | some r => gRun sc n2 d' m r.1 r.2.1 r.2.2.1 r.2.2.2 | none => none) = some r := by
        intro o ho
        cases o with
        | none => cases ho
        | some r9 => exact ih _ _ _ _ _ _ _ _ hd ho
      cases i <;> first
        | exact hr
        | exact hst _ hr
        | exact gCall_up ih hd hr
        | (simp only at hr ⊢
           split at hr
           · exact ih _ _ _ _ _ _ _ _ hd hr
           · cases hr)
        | (simp only at hr ⊢
           split at hr
           · rename_i h10
             rw [if_pos h10]
             exact hr
           · rename_i h10
             rw [if_neg h10]
             exact hst _ hr)
def Wq (sc : gSc) (d m pc : Nat) (ls : gL) (st : List Value) (h : gH) (Q : gO → gH → Prop) : Prop := ∃ n o h', gRun sc n d m pc ls st h = some (o, h') ∧ Q o h'
/-- a method's run -/
def Wm (sc : gSc) (d a : Nat) (av : List Value) (h : gH) (Q : gO → gH → Prop) : Prop := Wq sc d a 0 (gStart a av) [] h Q
/-- an instruction that is a plain step -/
def gSmp : Instr → Bool
  | .ireturn => false
  | .freturn => false
  | .areturn => false
  | .return_ => false
  | .new _ => false
  | .invokestatic _ => false
  | .invokevirtual _ => false
  | .invokespecial _ => false
  | _ => true
section WQ
variable {sc : gSc} {d m pc : Nat} {ls : gL} {st : List Value} {h : gH} {Q : gO → gH → Prop} {a b len i : Nat}
theorem Wq.up {d' : Nat} {Q' : gO → gH → Prop} (hw : Wq sc d m pc ls st h Q) (hd : d ≤ d') (hq : ∀ o h', Q o h' → Q' o h') : Wq sc d' m pc ls st h Q' := by
  obtain ⟨n, o, h', h1, h2⟩ := hw
  exact ⟨n, o, h', gRun_up sc n n d d' m pc ls st h _ h1 (Nat.le_refl _) hd, hq o h' h2⟩
theorem wq_s {q : gI} {pc' : Nat} {ls' : gL} {st' : List Value} {h' : gH} (hf : gFetch m pc = some q) (hk : gSmp q.1 = true) (hs : gStep sc q pc ls st h = some (pc', ls', st', h')) (hn : Wq sc d m pc' ls' st' h' Q) : Wq sc d m pc ls st h Q := by
  obtain ⟨n, o, h2, h1, hq⟩ := hn
  refine ⟨n + 1, o, h2, ?_, hq⟩
  rw [gRun_succ]
  unfold gStp
  rw [hf]
  obtain ⟨i, len, a, b⟩ := q
  cases i <;> first
    | (cases hk; done)
    | (simp only [hs]; exact h1)
theorem wq_new {pc' : Nat} {ls' : gL} {st' : List Value} {h' : gH} (hf : gFetch m pc = some (.new i, len, a, b)) (ha : a < 1000) (hs : gStep sc (.new i, len, a, b) pc ls st h = some (pc', ls', st', h')) (hn : Wq sc d m pc' ls' st' h' Q) : Wq sc d m pc ls st h Q := by
  obtain ⟨n, o, h2, h1, hq⟩ := hn
  refine ⟨n + 1, o, h2, ?_, hq⟩
  rw [gRun_succ]
  unfold gStp
  rw [hf]
  simp only [hs]
  rw [if_neg (by omega)]
  exact h1
theorem wq_throw (hf : gFetch m pc = some (.new i, len, a, b)) (ha : 1000 ≤ a) (h8 : st.length ≤ 8) (hp : gPass m = true) (hq : Q (.inr (a - 1000)) (h.1 + 1, h.2.1 + 6, h.2.2)) : Wq sc d m pc ls st h Q := by
  refine ⟨1, _, _, ?_, hq⟩
  rw [gRun_succ]
  unfold gStp
  rw [hf]
  simp only
  rw [if_pos ha, if_pos ⟨h8, hp⟩]
theorem wq_iret {x : Int32} (hf : gFetch m pc = some (.ireturn, len, a, b)) (hok : gRetOk m (.int x) = true) (hq : Q (.inl (some (.int x))) h) : Wq sc d m pc ls [.int x] h Q := by
  refine ⟨1, _, _, ?_, hq⟩
  rw [gRun_succ]
  unfold gStp
  rw [hf]
  simp only
  rw [if_pos hok]
theorem wq_fret {x : UInt32} (hf : gFetch m pc = some (.freturn, len, a, b)) (hok : gRetOk m (.float x) = true) (hq : Q (.inl (some (.float x))) h) : Wq sc d m pc ls [.float x] h Q := by
  refine ⟨1, _, _, ?_, hq⟩
  rw [gRun_succ]
  unfold gStp
  rw [hf]
  simp only
  rw [if_pos hok]
theorem wq_aret {v : Value} (hf : gFetch m pc = some (.areturn, len, a, b)) (hok : (gRetOk m v && gRefV v) = true) (hq : Q (.inl (some v)) h) : Wq sc d m pc ls [v] h Q := by
  refine ⟨1, _, _, ?_, hq⟩
  rw [gRun_succ]
  unfold gStp
  rw [hf]
  simp only
  rw [if_pos hok]
theorem wq_vret (hf : gFetch m pc = some (.return_, len, a, b)) (hok : gRt m = none) (hq : Q (.inl none) h) : Wq sc d m pc ls [] h Q := by
  refine ⟨1, _, _, ?_, hq⟩
  rw [gRun_succ]
  unfold gStp
  rw [hf]
  simp only
  rw [if_pos hok]
/-- a prim -/
theorem gCall_prim {rec : Nat → Nat → Nat → gL → List Value → gH → Option (gO × gH)} {q : gI} {ok thr : Bool} {st' : List Value} {h' : gH} (ha : 900 ≤ q.2.2.1) (hs : gPrim q.2.2.1 st h = some (st', h')) : gCall rec d m q pc ls st h ok thr = rec d m (pc + 3) ls st' h' := by
  unfold gCall
  rw [if_pos ha, hs]
theorem wq_primS {st' : List Value} {h' : gH} (hf : gFetch m pc = some (.invokestatic i, len, a, b)) (ha : 900 ≤ a) (hs : gPrim a st h = some (st', h')) (hn : Wq sc d m (pc + 3) ls st' h' Q) : Wq sc d m pc ls st h Q := by
  obtain ⟨n, o, h2, h1, hq⟩ := hn
  refine ⟨n + 1, o, h2, ?_, hq⟩
  rw [gRun_succ]
  unfold gStp
  rw [hf]
  exact (gCall_prim (q := (.invokestatic i, len, a, b)) ha hs).trans h1
theorem wq_primV {st' : List Value} {h' : gH} (hf : gFetch m pc = some (.invokevirtual i, len, a, b)) (ha : 900 ≤ a) (hs : gPrim a st h = some (st', h')) (hn : Wq sc d m (pc + 3) ls st' h' Q) : Wq sc d m pc ls st h Q := by
  obtain ⟨n, o, h2, h1, hq⟩ := hn
  refine ⟨n + 1, o, h2, ?_, hq⟩
  rw [gRun_succ]
  unfold gStp
  rw [hf]
  exact (gCall_prim (q := (.invokevirtual i, len, a, b)) ha hs).trans h1
theorem wq_primI {st' : List Value} {h' : gH} (hf : gFetch m pc = some (.invokespecial i, len, a, b)) (ha : 900 ≤ a) (hs : gPrim a st h = some (st', h')) (hn : Wq sc d m (pc + 3) ls st' h' Q) : Wq sc d m pc ls st h Q := by
  obtain ⟨n, o, h2, h1, hq⟩ := hn
  refine ⟨n + 1, o, h2, ?_, hq⟩
  rw [gRun_succ]
  unfold gStp
  rw [hf]
  exact (gCall_prim (q := (.invokespecial i, len, a, b)) ha hs).trans h1
/-- what follows a call -/
def gAft (sc : gSc) (d m pc : Nat) (ls : gL) (rest : List Value) (Q : gO → gH → Prop) (thr : Bool) (o : gO) (h' : gH) : Prop := match o with
  | .inl v => Wq sc d m (pc + 3) ls (v.toList ++ rest) h' Q
  | .inr E => thr = true ∧ ((∃ hp k g, gHand m pc E = some (hp, k, g) ∧ Wq sc d m g (ls.set k none) [] h' Q) ∨ (gHand m pc E = none ∧ gPass m = true ∧ Q (.inr E) h'))
theorem gCall_run {q : gI} {ok thr : Bool} {dc : Nat} {Qc : gO → gH → Prop} (ha : q.2.2.1 < 900) (hb : q.2.2.2 ≤ st.length) (h8 : (st.drop q.2.2.2).length ≤ 8) (hok : ok = true) (hmx : q.2.2.2 ≤ gMx q.2.2.1) (hc : Wm sc dc q.2.2.1 (st.take q.2.2.2).reverse h Qc) (hd : dc < d)
    (hk : ∀ o h', Qc o h' → gAft sc d m pc ls (st.drop q.2.2.2) Q thr o h') : ∃ n o h', gCall (gRun sc n) d m q pc ls st h ok thr = some (o, h') ∧ Q o h' := by
  obtain ⟨d2, rfl⟩ : ∃ d2, d = d2 + 1 := ⟨d - 1, by omega⟩
  obtain ⟨n1, o1, h1, hr1, hq1⟩ := hc
  have hk1 := hk o1 h1 hq1
  cases o1 with
  | inl v =>
    obtain ⟨n2, o2, h2, hr2, hq2⟩ := hk1
    refine ⟨n1 + n2, o2, h2, ?_, hq2⟩
    have e1 := gRun_up sc n1 (n1 + n2) dc d2 _ _ _ _ _ _ hr1 (by omega) (by omega)
    unfold gCall
    rw [if_neg (by omega), if_pos ⟨hb, h8, hok, hmx⟩]
    simp only [e1]
    exact gRun_up sc n2 (n1 + n2) _ _ _ _ _ _ _ _ hr2 (by omega) (Nat.le_refl _)
  | inr E =>
    obtain ⟨ht, hk1⟩ := hk1
    rcases hk1 with ⟨hp, k, g, hh, n2, o2, h2, hr2, hq2⟩ | ⟨hh, hp, hq2⟩
    · refine ⟨n1 + n2, o2, h2, ?_, hq2⟩
      have e1 := gRun_up sc n1 (n1 + n2) dc d2 _ _ _ _ _ _ hr1 (by omega) (by omega)
      unfold gCall
      rw [if_neg (by omega), if_pos ⟨hb, h8, hok, hmx⟩]
      simp only [e1, ht, hh]
      exact gRun_up sc n2 (n1 + n2) _ _ _ _ _ _ _ _ hr2 (by omega) (Nat.le_refl _)
    · refine ⟨n1, .inr E, h1, ?_, hq2⟩
      have e1 := gRun_up sc n1 n1 dc d2 _ _ _ _ _ _ hr1 (by omega) (by omega)
      unfold gCall
      rw [if_neg (by omega), if_pos ⟨hb, h8, hok, hmx⟩]
      simp only [e1, ht, hh, hp]
      rfl
theorem wq_invS {dc : Nat} {Qc : gO → gH → Prop} (hf : gFetch m pc = some (.invokestatic i, len, a, b)) (ha : a < 900) (hb : b ≤ st.length) (h8 : (st.drop b).length ≤ 8) (hmx : b ≤ gMx a) (hc : Wm sc dc a (st.take b).reverse h Qc) (hd : dc < d)
    (hk : ∀ o h', Qc o h' → gAft sc d m pc ls (st.drop b) Q true o h') : Wq sc d m pc ls st h Q := by
  obtain ⟨n, o, h', h1, hq⟩ := gCall_run (q := (.invokestatic i, len, a, b)) (ok := true) (thr := true) ha hb h8 rfl hmx hc hd hk
  refine ⟨n + 1, o, h', ?_, hq⟩
  rw [gRun_succ]
  unfold gStp
  rw [hf]
  exact h1
theorem wq_invV {dc : Nat} {Qc : gO → gH → Prop} (hf : gFetch m pc = some (.invokevirtual i, len, a, b)) (ha : a < 900) (hb : b ≤ st.length) (h8 : (st.drop b).length ≤ 8) (hmx : b ≤ gMx a) (hrc : gRecv h a (st.take b).reverse = true) (hc : Wm sc dc a (st.take b).reverse h Qc) (hd : dc < d)
    (hk : ∀ o h', Qc o h' → gAft sc d m pc ls (st.drop b) Q true o h') : Wq sc d m pc ls st h Q := by
  obtain ⟨n, o, h', h1, hq⟩ := gCall_run (q := (.invokevirtual i, len, a, b)) (ok := true) (thr := true) ha hb h8 rfl hmx hc hd hk
  refine ⟨n + 1, o, h', ?_, hq⟩
  rw [gRun_succ]
  unfold gStp
  rw [hf]
  simp only [hrc]
  exact h1
theorem wq_invI {dc : Nat} {Qc : gO → gH → Prop} (hf : gFetch m pc = some (.invokespecial i, len, a, b)) (ha : a < 900) (hb : b ≤ st.length) (h8 : (st.drop b).length ≤ 8) (hmx : b ≤ gMx a) (hrc : gIsRef (st.take b).reverse = true) (hc : Wm sc dc a (st.take b).reverse h Qc) (hd : dc < d)
    (hk : ∀ o h', Qc o h' → gAft sc d m pc ls (st.drop b) Q false o h') : Wq sc d m pc ls st h Q := by
  obtain ⟨n, o, h', h1, hq⟩ := gCall_run (q := (.invokespecial i, len, a, b)) (ok := true) (thr := false) ha hb h8 rfl hmx hc hd hk
  refine ⟨n + 1, o, h', ?_, hq⟩
  rw [gRun_succ]
  unfold gStp
  rw [hf]
  simp only [hrc]
  exact h1
end WQ
