/-! FINDING; what doesn't change; lists that grow -/
abbrev FiD : Type := Bool × Bool × Int32
def cFi (f : FiD) : vC := vO 5 [.int (bI f.1), .int (bI f.2.1), .int f.2.2]
def joinO (o : Nat) (older newer : Int32) : Int32 := if o = 43 then older + newer else if o = 62 then (if newer ≤ older then older else newer) else (if older ≤ newer then older else newer)
def fiTake (o : Nat) (f : FiD) (older : Int32) : FiD := (true, f.2.1, if f.1 then joinO o older f.2.2 else older)
def fiMeet (o : Nat) (f : FiD) (c : ChD) : FiD := if c.k = 1 ∨ c.k = 4 then (true, decide (c.k ≠ 4), (fiTake o f c.v).2.2) else (f.1, decide (c.k ≠ 4), f.2.2)
theorem aPut_self {A : gA} {q : Nat} {c : vC} : (aPut A q c).1 q = some c := if_pos rfl
theorem aPut_ne {A : gA} {q q' : Nat} {c : vC} (h : q' ≠ q) : (aPut A q c).1 q' = A.1 q' := if_neg h
theorem aLst_self {A : gA} {q kc ks : Nat} {c : vC} : (aLst A q c kc ks).1 q = some c := if_pos rfl
theorem aLst_ne {A : gA} {q q' kc ks : Nat} {c : vC} (h : q' ≠ q) : (aLst A q c kc ks).1 q' = A.1 q' := if_neg h
theorem aNew_self {A : gA} {q n : Nat} {c : vC} : (aNew A q c n).1 q = some c := if_pos rfl
theorem aNew_ne {A : gA} {q q' n : Nat} {c : vC} (h : q' ≠ q) : (aNew A q c n).1 q' = A.1 q' := if_neg h
theorem aLst_lst {A : gA} {q k1 s1 k2 s2 : Nat} {c c' : vC} : aLst (aLst A q c k1 s1) q c' k2 s2 = aLst A q c' (k1 + k2) (s1 + s2) := by
  unfold aLst
  simp only [Nat.add_assoc]
  refine Prod.ext (funext fun x => ?_) rfl
  by_cases h : x = q <;> simp [h]
theorem aPut_lst {A : gA} {q k1 s1 : Nat} {c c' : vC} : aPut (aLst A q c k1 s1) q c' = aLst A q c' k1 s1 := aLst_lst (k2 := 0) (s2 := 0)
theorem aPut_put {A : gA} {q : Nat} {c c' : vC} : aPut (aPut A q c) q c' = aPut A q c' := aLst_lst (k1 := 0) (s1 := 0) (k2 := 0) (s2 := 0)
theorem aLst_put {A : gA} {q k1 s1 : Nat} {c c' : vC} : aLst (aPut A q c) q c' k1 s1 = aLst A q c' k1 s1 := by
  have := aLst_lst (A := A) (q := q) (k1 := 0) (s1 := 0) (k2 := k1) (s2 := s1) (c := c) (c' := c')
  rw [Nat.zero_add, Nat.zero_add] at this
  exact this
theorem aPut_new {A : gA} {q n : Nat} {c c' : vC} : aPut (aNew A q c n) q c' = aNew A q c' n := aPut_lst
theorem aPut_id {A : gA} {q : Nat} {c : vC} (h : A.1 q = some c) : aPut A q c = A := by
  refine Prod.ext (funext fun x => ?_) rfl
  show (if x = q then some c else A.1 x) = A.1 x
  by_cases hx : x = q
  · rw [if_pos hx, hx, h]
  · rw [if_neg hx]
/-- what doesn't change any more lies in a view -/
def Sub (F : Nat → Option vC) (A : gA) : Prop := ∀ q c, F q = some c → A.1 q = some c
theorem Sub.lst {F : Nat → Option vC} {A : gA} {q kc ks : Nat} {c : vC} (h : Sub F A) (hq : F q = none) : Sub F (aLst A q c kc ks) := fun x y hx => by
  rw [aLst_ne (by rintro rfl; rw [hq] at hx; cases hx)]
  exact h x y hx
theorem Sub.put {F : Nat → Option vC} {A : gA} {q : Nat} {c : vC} (h : Sub F A) (hq : F q = none) : Sub F (aPut A q c) := h.lst (kc := 0) (ks := 0) hq
theorem Sub.free {F : Nat → Option vC} {A : gA} {q : Nat} (h : Sub F A) (hq : A.1 q = none) : F q = none := by
  cases hF : F q with
  | none => rfl
  | some c =>
    rw [h q c hF] at hq
    cases hq
theorem Sub.new {F : Nat → Option vC} {A : gA} {q n : Nat} {c : vC} (h : Sub F A) (hq : A.1 q = none) : Sub F (aNew A q c n) := h.lst (h.free hq)
def Ext (F G : Nat → Option vC) : Prop := ∀ q c, F q = some c → G q = some c
theorem okCh.ext {F G : Nat → Option vC} {c : ChD} (h : okCh F c) (he : Ext F G) : okCh G c := ⟨he _ _ h.1, h.2⟩
theorem okWr.ext {F G : Nat → Option vC} {w : WrD} (h : okWr F w) (he : Ext F G) : okWr G w := ⟨he _ _ h.1, h.2.1.ext he, h.2.2⟩
theorem okRun.ext {F G : Nat → Option vC} {r : RunD} (h : okRun F r) (he : Ext F G) : okRun G r := by
  obtain ⟨h1, h2, h3, h4, h5, ⟨ff, h6⟩, h7⟩ := h
  exact ⟨he _ _ h1, he _ _ h2, he _ _ h3, fun c hc => (h4 c hc).ext he, fun c hc => (h5 c hc).ext he, ⟨ff, he _ _ h6⟩, h7⟩
/-- list wa became l' -/
def LsTo (A : gA) (wa c0 : Nat) (l' : List Nat) (A' : gA) : Prop := ∃ c' kc ks, lg c0 l'.length c' kc ks ∧ A' = aLst A wa (vL c' l') kc ks
theorem lg_refl {c n : Nat} : lg c n c 0 0 := by
  unfold lg
  omega
theorem lg_trans {c n c1 k1 s1 n1 c2 k2 s2 : Nat} (h1 : lg c n c1 k1 s1) (h2 : lg c1 n1 c2 k2 s2) (hn : n ≤ n1) : lg c n1 c2 (k1 + k2) (s1 + s2) := by
  unfold lg at *
  omega
theorem lg_mono {c n c1 k1 s1 n1 : Nat} (h1 : lg c n c1 k1 s1) (hn : n ≤ n1) : lg c n1 c1 k1 s1 := by
  unfold lg at *
  omega
theorem LsTo.refl {A : gA} {wa c0 : Nat} {l : List Nat} (h : A.1 wa = some (vL c0 l)) : LsTo A wa c0 l A := ⟨c0, 0, 0, lg_refl, (aPut_id h).symm⟩
theorem LsTo.trans {A A1 A2 : gA} {wa c0 : Nat} {l1 l2 : List Nat} (h1 : LsTo A wa c0 l1 A1) (h2 : ∀ c1, A1.1 wa = some (vL c1 l1) → LsTo A1 wa c1 l2 A2) (hn : l1.length ≤ l2.length) : LsTo A wa c0 l2 A2 := by
  obtain ⟨c1, k1, s1, g1, rfl⟩ := h1
  obtain ⟨c2, k2, s2, g2, rfl⟩ := h2 c1 aLst_self
  exact ⟨c2, k1 + k2, s1 + s2, lg_trans g1 g2 hn, aLst_lst⟩
theorem LsTo.at {A A1 : gA} {wa c0 : Nat} {l1 : List Nat} (h1 : LsTo A wa c0 l1 A1) : ∃ c1, A1.1 wa = some (vL c1 l1) := by
  obtain ⟨c1, k1, s1, g1, rfl⟩ := h1
  exact ⟨c1, aLst_self⟩
theorem LsTo.sub {F : Nat → Option vC} {A A1 : gA} {wa c0 : Nat} {l1 : List Nat} (h1 : LsTo A wa c0 l1 A1) (hF : Sub F A) (hw : F wa = none) : Sub F A1 := by
  obtain ⟨c1, k1, s1, g1, rfl⟩ := h1
  exact hF.lst hw
section C2
variable {sc : gSc} {d : Nat} {A : gA} {c : ChD} {x y : Int} {q o : Nat} {f : FiD}
theorem c112 : Wc sc 0 112 [.ref q] A (fun r A' => r = .inl none ∧ A' = A) := by
  show Wv sc 0 112 0 [some (.ref q)] [] A _
  refine wv_s f112_0 rfl (fun _ => rfl) ?_
  refine wv_objI f112_1 (by simp) ?_
  exact wv_vret f112_4 (by decide +kernel) (⟨rfl, rfl⟩)
theorem c113 (hq : A.1 q = some (cFi f)) : Wc sc 0 113 [.ref q] A (fun r A' => r = .inl none ∧ A' = aPut A q (cFi (false, false, 0))) := by
  show Wv sc 0 113 0 [some (.ref q)] [] A _
  refine wv_s f113_0 rfl (fun _ => rfl) ?_
  refine wv_icon f113_1 ?_
  refine wv_putfield f113_2 (hq) (by simp) (by rfl) ?_
  refine wv_s f113_5 rfl (fun _ => rfl) ?_
  refine wv_icon f113_6 ?_
  refine wv_putfield f113_7 (aPut_self) (by simp) (by rfl) ?_
  refine wv_s f113_10 rfl (fun _ => rfl) ?_
  refine wv_icon f113_11 ?_
  refine wv_putfield f113_12 (aPut_self) (by simp) (by rfl) ?_
  exact wv_vret f113_15 (by decide +kernel) (⟨rfl, by simp only [aPut_put]; rfl⟩)
theorem c114 {older newer : Int32} (ho : o = 43 ∨ o = 62 ∨ o = 60) : Wc sc 0 114 [.int older, .int newer, .int (zI o)] A (fun r A' => r = .inl (some (.int (joinO o older newer))) ∧ A' = A) := by
  show Wv sc 0 114 0 [some (.int older), some (.int newer), some (.int (zI o)), none] [] A _
  have e1 : (zI 0 : Int32) = bI false := rfl
  have e2 : (zI 1 : Int32) = bI true := rfl
  refine wv_s f114_0 rfl (fun _ => rfl) ?_
  refine wv_bip f114_1 (by decide) ?_
  refine wv_cX_ne f114_3 (by omega) (by omega) (fun hb => ?_) (fun hb => ?_)
  · refine wv_s f114_10 rfl (fun _ => rfl) ?_
    refine wv_bip f114_11 (by decide) ?_
    refine wv_cX_ne f114_13 (by omega) (by omega) (fun hb2 => ?_) (fun hb2 => ?_)
    · refine wv_s f114_29 rfl (fun _ => rfl) ?_
      refine wv_s f114_30 rfl (fun _ => rfl) ?_
      refine wv_rX f114_31 (fun hb3 => ?_) (fun hb3 => ?_)
      · refine wv_icon f114_38 ?_
        refine wv_st3 f114_39 rfl (fun _ _ => rfl) ?_
        refine wv_s f114_40 rfl (fun _ => rfl) ?_
        rw [e1]
        refine wv_bT f114_41 (rfl) ?_
        refine wv_s f114_48 rfl (fun _ => rfl) ?_
        exact wv_iret f114_49 (by rfl) (⟨by unfold joinO; rw [if_neg (by omega), if_neg (by omega), if_pos (of_decide_eq_true hb3)], rfl⟩)
      · refine wv_icon f114_34 ?_
        refine wv_s (pc' := 39) f114_35 rfl (fun _ => rfl) ?_
        refine wv_st3 f114_39 rfl (fun _ _ => rfl) ?_
        refine wv_s f114_40 rfl (fun _ => rfl) ?_
        rw [e2]
        refine wv_bF f114_41 (rfl) ?_
        refine wv_s f114_44 rfl (fun _ => rfl) ?_
        refine wv_s (pc' := 49) f114_45 rfl (fun _ => rfl) ?_
        exact wv_iret f114_49 (by rfl) (⟨by unfold joinO; rw [if_neg (by omega), if_neg (by omega), if_neg (of_decide_eq_false hb3)], rfl⟩)
    · refine wv_s f114_16 rfl (fun _ => rfl) ?_
      refine wv_s f114_17 rfl (fun _ => rfl) ?_
      refine wv_rX f114_18 (fun hb3 => ?_) (fun hb3 => ?_)
      · refine wv_icon f114_25 ?_
        refine wv_s (pc' := 39) f114_26 rfl (fun _ => rfl) ?_
        refine wv_st3 f114_39 rfl (fun _ _ => rfl) ?_
        refine wv_s f114_40 rfl (fun _ => rfl) ?_
        rw [e1]
        refine wv_bT f114_41 (rfl) ?_
        refine wv_s f114_48 rfl (fun _ => rfl) ?_
        exact wv_iret f114_49 (by rfl) (⟨by unfold joinO; rw [if_neg (by omega), if_pos (by omega), if_pos (of_decide_eq_true hb3)], rfl⟩)
      · refine wv_icon f114_21 ?_
        refine wv_s (pc' := 39) f114_22 rfl (fun _ => rfl) ?_
        refine wv_st3 f114_39 rfl (fun _ _ => rfl) ?_
        refine wv_s f114_40 rfl (fun _ => rfl) ?_
        rw [e2]
        refine wv_bF f114_41 (rfl) ?_
        refine wv_s f114_44 rfl (fun _ => rfl) ?_
        refine wv_s (pc' := 49) f114_45 rfl (fun _ => rfl) ?_
        exact wv_iret f114_49 (by rfl) (⟨by unfold joinO; rw [if_neg (by omega), if_pos (by omega), if_neg (of_decide_eq_false hb3)], rfl⟩)
  · refine wv_s f114_6 rfl (fun _ => rfl) ?_
    refine wv_s f114_7 rfl (fun _ => rfl) ?_
    refine wv_s f114_8 rfl (fun _ => rfl) ?_
    exact wv_iret f114_9 (by rfl) (⟨by unfold joinO; rw [if_pos (by omega)], rfl⟩)
theorem c116 {older : Int32} (ho : o = 43 ∨ o = 62 ∨ o = 60) (hq : A.1 q = some (cFi f)) : Wc sc 1 116 [.ref q, .int older, .int (zI o)] A (fun r A' => r = .inl none ∧ A' = aPut A q (cFi (fiTake o f older))) := by
  show Wv sc 1 116 0 [some (.ref q), some (.int older), some (.int (zI o))] [] A _
  refine wv_s f116_0 rfl (fun _ => rfl) ?_
  refine wv_s f116_1 rfl (fun _ => rfl) ?_
  refine wv_getfield f116_2 (by assumption) (by rfl) ?_
  refine wv_bX f116_5 (fun hb => ?_) (fun hb => ?_)
  · refine wv_s f116_20 rfl (fun _ => rfl) ?_
    refine wv_putfield f116_21 (hq) (by simp) (by rfl) ?_
    refine wv_s f116_24 rfl (fun _ => rfl) ?_
    refine wv_icon f116_25 ?_
    refine wv_putfield f116_26 (aPut_self) (by simp) (by rfl) ?_
    exact wv_vret f116_29 (by decide +kernel) (⟨rfl, by simp only [aPut_put, fiTake, hb]; rfl⟩)
  · refine wv_s f116_8 rfl (fun _ => rfl) ?_
    refine wv_s f116_9 rfl (fun _ => rfl) ?_
    refine wv_getfield f116_10 (hq) (by rfl) ?_
    refine wv_s f116_13 rfl (fun _ => rfl) ?_
    refine wv_valS f116_14 (by decide) (by simp) (by simp) (by decide +kernel) (c114 ho) (by omega) ?_
    refine wv_s (pc' := 21) f116_17 rfl (fun _ => rfl) ?_
    refine wv_putfield f116_21 (hq) (by simp) (by rfl) ?_
    refine wv_s f116_24 rfl (fun _ => rfl) ?_
    refine wv_icon f116_25 ?_
    refine wv_putfield f116_26 (aPut_self) (by simp) (by rfl) ?_
    exact wv_vret f116_29 (by decide +kernel) (⟨rfl, by simp only [aPut_put, fiTake, hb]; rfl⟩)
theorem c115 (ho : o = 43 ∨ o = 62 ∨ o = 60) (hq : A.1 q = some (cFi f)) (hc : okCh A.1 c) (hcq : c.a ≠ q) : Wc sc 2 115 [.ref q, .ref c.a, .int (zI o)] A (fun r A' => r = .inl none ∧ A' = aPut A q (cFi (fiMeet o f c))) := by
  show Wv sc 2 115 0 [some (.ref q), some (.ref c.a), some (.int (zI o))] [] A _
  obtain ⟨hc, h1, h2, h3, h4⟩ := hc
  have tail : ∀ (A1 : gA) (f1 : FiD), A1.1 q = some (cFi f1) → A1.1 c.a = some (cCh c) → (∀ X, aPut A1 q X = aPut A q X) → (f1.1, f1.2.2) = ((fiMeet o f c).1, (fiMeet o f c).2.2) →
      Wv sc 2 115 25 [some (.ref q), some (.ref c.a), some (.int (zI o))] [] A1 (fun r A' => r = .inl none ∧ A' = aPut A q (cFi (fiMeet o f c))) := by
    intro A1 f1 g1 g2 g3 g4
    have e4 : (fiMeet o f c).2.1 = decide (c.k ≠ 4) := by
      unfold fiMeet
      split <;> rfl
    refine wv_s f115_25 rfl (fun _ => rfl) ?_
    refine wv_s f115_26 rfl (fun _ => rfl) ?_
    refine wv_getfield f115_27 (by assumption) (by rfl) ?_
    refine wv_icon f115_30 ?_
    refine wv_cX_eq f115_31 (by omega) (by omega) (fun hb => ?_) (fun hb => ?_)
    · refine wv_icon f115_38 ?_
      refine wv_putfield f115_39 (by assumption) (by simp) (by rfl) ?_
      exact wv_vret f115_42 (by decide +kernel) (⟨rfl, (g3 _).trans (by rw [show fiMeet o f c = (f1.1, false, f1.2.2) from Prod.ext (congrArg Prod.fst g4).symm (Prod.ext (by rw [e4]; exact decide_eq_false (by omega)) (congrArg Prod.snd g4).symm)]; rfl)⟩)
    · refine wv_icon f115_34 ?_
      refine wv_s (pc' := 39) f115_35 rfl (fun _ => rfl) ?_
      refine wv_putfield f115_39 (by assumption) (by simp) (by rfl) ?_
      exact wv_vret f115_42 (by decide +kernel) (⟨rfl, (g3 _).trans (by rw [show fiMeet o f c = (f1.1, true, f1.2.2) from Prod.ext (congrArg Prod.fst g4).symm (Prod.ext (by rw [e4]; exact decide_eq_true (by omega)) (congrArg Prod.snd g4).symm)]; rfl)⟩)
  have go : c.k = 1 ∨ c.k = 4 → Wv sc 2 115 16 [some (.ref q), some (.ref c.a), some (.int (zI o))] [] A (fun r A' => r = .inl none ∧ A' = aPut A q (cFi (fiMeet o f c))) := by
    intro hk
    refine wv_s f115_16 rfl (fun _ => rfl) ?_
    refine wv_s f115_17 rfl (fun _ => rfl) ?_
    refine wv_getfield f115_18 (by assumption) (by rfl) ?_
    refine wv_s f115_21 rfl (fun _ => rfl) ?_
    refine wv_effV f115_22 (by decide) (by simp) (by simp) (by decide +kernel) (by assumption) (by rfl) (by decide +kernel) rfl (c116 ho hq) (by omega) (fun A1 h9 => ?_)
    subst h9
    exact tail _ _ aPut_self (by rw [aPut_ne hcq]; exact hc) (fun X => aPut_put) (by unfold fiMeet; rw [if_pos hk]; rfl)
  refine wv_s f115_0 rfl (fun _ => rfl) ?_
  refine wv_getfield f115_1 (by assumption) (by rfl) ?_
  refine wv_icon f115_4 ?_
  refine wv_cX_eq f115_5 (by omega) (by omega) (fun hb => ?_) (fun hb => ?_)
  · exact go (by omega)
  · refine wv_s f115_8 rfl (fun _ => rfl) ?_
    refine wv_getfield f115_9 (by assumption) (by rfl) ?_
    refine wv_icon f115_12 ?_
    refine wv_cX_ne f115_13 (by omega) (by omega) (fun hb2 => ?_) (fun hb2 => ?_)
    · exact tail A f hq hc (fun X => rfl) (by unfold fiMeet; rw [if_neg (by omega)])
    · exact go (by omega)
end C2
