/-! FINDING AND LOOKING -/
def goF (o : Nat) (f : FiD) (l : List ChD) : FiD := l.foldl (fun f c => if f.2.1 then f else fiMeet o f c) f
def anL (g m : Nat) (x : Int) (l : List WrD) : List ChD := (l.reverse.filter (fun v => v.isOf g && (decide (v.c.n ≤ m) && v.on x))).map WrD.c
def mmL (g m : Nat) (x : Int) (l : List WrD) : List ChD := (l.reverse.filter (fun v => v.memOf g && (decide (v.c.n ≤ m) && v.on x))).map WrD.c
def upTo (m : Nat) (l : List ChD) : List ChD := l.filter (fun c => decide (c.n ≤ m))
def rsL (m : Nat) (x : Int) (l : List RunD) : List ChD := l.flatMap (fun r => if r.ov x x then upTo m (colW r x []) else [])
def lvL (m : Nat) (x : Int) (l : List LvD) : List ChD := l.flatMap (fun l => rsL m x l.rs)
def fi0 : FiD := (false, false, 0)
theorem goF_end {o : Nat} {f : FiD} (h : f.2.1 = true) : ∀ {l : List ChD}, goF o f l = f
  | [] => rfl
  | c :: l => by
    show goF o (if f.2.1 then f else fiMeet o f c) l = f
    rw [if_pos h]
    exact goF_end h
theorem goF_cons {o : Nat} {f : FiD} {c : ChD} {l : List ChD} (h : f.2.1 = false) : goF o f (c :: l) = goF o (fiMeet o f c) l := by
  show goF o (if f.2.1 then f else fiMeet o f c) l = _
  rw [if_neg (by rw [h]; decide)]
theorem goF_app {o : Nat} {f : FiD} {l k : List ChD} : goF o f (l ++ k) = goF o (goF o f l) k := List.foldl_append
theorem anL_snoc {g m : Nat} {x : Int} {l : List WrD} {v : WrD} : anL g m x (l ++ [v]) = if (v.isOf g && (decide (v.c.n ≤ m) && v.on x)) = true then v.c :: anL g m x l else anL g m x l := by
  unfold anL
  rw [List.reverse_append, List.reverse_singleton, List.singleton_append]
  split
  · rename_i h
    rw [List.filter_cons_of_pos (p := fun v : WrD => v.isOf g && (decide (v.c.n ≤ m) && v.on x)) h]
    rfl
  · rename_i h
    rw [List.filter_cons_of_neg (p := fun v : WrD => v.isOf g && (decide (v.c.n ≤ m) && v.on x)) h]
theorem mmL_snoc {g m : Nat} {x : Int} {l : List WrD} {v : WrD} : mmL g m x (l ++ [v]) = if (v.memOf g && (decide (v.c.n ≤ m) && v.on x)) = true then v.c :: mmL g m x l else mmL g m x l := by
  unfold mmL
  rw [List.reverse_append, List.reverse_singleton, List.singleton_append]
  split
  · rename_i h
    rw [List.filter_cons_of_pos (p := fun v : WrD => v.memOf g && (decide (v.c.n ≤ m) && v.on x)) h]
    rfl
  · rename_i h
    rw [List.filter_cons_of_neg (p := fun v : WrD => v.memOf g && (decide (v.c.n ≤ m) && v.on x)) h]
theorem upTo_cons {m : Nat} {c : ChD} {l : List ChD} : upTo m (c :: l) = if c.n ≤ m then c :: upTo m l else upTo m l := by
  unfold upTo
  split
  · rename_i h
    rw [List.filter_cons_of_pos (by simpa using h)]
  · rename_i h
    rw [List.filter_cons_of_neg (by simpa using h)]
theorem ne_oo {A : gA} {x y ci cj : Nat} {fs gs : List Value} (h1 : A.1 x = some (vO ci fs)) (h2 : A.1 y = some (vO cj gs)) (h : ci ≠ cj) : x ≠ y := by
  rintro rfl
  rw [h1] at h2
  cases h2
  exact h rfl
/-- counters that reading changes -/
def ctR (ct : CtD) (nb na np : Nat) : CtD := (ct.1, ct.2.1, ct.2.2.1, ct.2.2.2.1, ct.2.2.2.2.1, ct.2.2.2.2.2.1 + nb, ct.2.2.2.2.2.2.1 + na, ct.2.2.2.2.2.2.2.1 + np, ct.2.2.2.2.2.2.2.2.1, ct.2.2.2.2.2.2.2.2.2)
def cS (ct : CtD) : Nat := ct.2.2.2.2.2.1 + ct.2.2.2.2.2.2.1 + ct.2.2.2.2.2.2.2.1
def Cnt (ct ct' : CtD) (K : Nat) : Prop := ∃ nb na np, ct' = ctR ct nb na np ∧ np ≤ na ∧ np ≤ nb ∧ nb + na + np ≤ K
theorem Cnt.refl {ct : CtD} {K : Nat} : Cnt ct ct K := ⟨0, 0, 0, rfl, by omega, by omega, by omega⟩
theorem Cnt.trans {c1 c2 c3 : CtD} {K1 K2 K : Nat} (h1 : Cnt c1 c2 K1) (h2 : Cnt c2 c3 K2) (hk : K1 + K2 ≤ K) : Cnt c1 c3 K := by
  obtain ⟨a, b, c, rfl, h3, h4, h5⟩ := h1
  obtain ⟨a', b', c', rfl, h3', h4', h5'⟩ := h2
  exact ⟨a + a', b + b', c + c', by simp only [ctR, Nat.add_assoc], by omega, by omega, by omega⟩
theorem Cnt.sum {c1 c2 : CtD} {K : Nat} (h1 : Cnt c1 c2 K) : cS c2 ≤ cS c1 + K := by
  obtain ⟨a, b, c, rfl, h3, h4, h5⟩ := h1
  unfold cS ctR
  simp only
  omega
theorem Cnt.ok {c1 c2 : CtD} {K : Nat} (h1 : Cnt c1 c2 K) (h : okCt c1) (hs : cS c1 + K ≤ 1000000000) : okCt c2 := by
  obtain ⟨a, b, c, rfl, h3, h4, h5⟩ := h1
  unfold cS at hs
  obtain ⟨g1, g2, g3, g4, g5, g6, g7⟩ := h
  exact ⟨g1, g2, g3, g4, by show _ + a ≤ _; omega, by show _ + b ≤ _; omega, by show _ + c ≤ _; omega⟩
/-- what the way costs -/
def CoY (A : gA) (y : Ls ChD) (A' : gA) (y' : Ls ChD) (B : Nat) : Prop := 5 * A'.2.1 + y.2.1 ≤ 5 * A.2.1 + y'.2.1 ∧ A'.2.2 + 4 * y.2.1 ≤ A.2.2 + 4 * y'.2.1 ∧ y'.1 = y.1 ∧ (y'.2.1 ≤ y.2.1 ∨ y'.2.1 ≤ B)
theorem CoY.refl {A : gA} {y : Ls ChD} {B : Nat} : CoY A y A y B := ⟨by omega, by omega, rfl, .inl (by omega)⟩
theorem CoY.trans {A A1 A2 : gA} {y y1 y2 : Ls ChD} {B : Nat} (h1 : CoY A y A1 y1 B) (h2 : CoY A1 y1 A2 y2 B) : CoY A y A2 y2 B := by
  obtain ⟨a1, a2, a3, a4⟩ := h1
  obtain ⟨b1, b2, b3, b4⟩ := h2
  exact ⟨by omega, by omega, b3.trans a3, by omega⟩
def kS : List RunD → Nat
  | [] => 0
  | r :: t => r.rows.length + 3 + kS t
section LK
variable {sc : gSc} {d : Nat} {A : gA} {F : Nat → Option vC} {L : List (Nat × vC)} {o : Nat} {f : Ls FamD} {w : Ls WrD} {s : Ls SnD} {c : Ls CuD} {b : Ls BkD} {fi : Nat × FiD} {y : Ls ChD} {me : Option MeD} {ct : CtD} {g : FamD} {l : LvD} {r : RunD} {i j m : Nat} {x z : Int} {fa9 : Nat}
theorem c49_l (hg : g ∈ f.2.2) (hx : i32 x) (hm : m ≤ 1000000) : ∀ (k : Nat) (A : gA) (fd : FiD) (x5 : Option Value), k ≤ w.2.2.length → okO A F L o f w s c b (fa9, fd) y me ct →
    Wv sc 3 49 18 [some (.ref o), some (.ref g.a), some (.int (zI x)), some (.int (zI m)), some (.int (zI ((k : Int) - 1))), x5] [] A (fun r A' => r = .inl none ∧ A' = aPut A fa9 (cFi (goF g.o fd (anL g.g m x (w.2.2.take k)))))
  | 0, A, fd, x5, hk, hO => by
    have h1 := hO.fic
    refine wv_s f49_18 rfl (fun _ => rfl) ?_
    refine wv_zT_lt f49_20 (by omega) (by omega) ?_
    exact wv_vret f49_99 (by decide +kernel) (⟨rfl, by rw [List.take_zero]; exact (aPut_id h1).symm⟩)
  | k + 1, A, fd, x5, hk, hO => by
    have h1 := hO.ob
    have h2 := hO.wl
    have h3 := hO.fic
    have hf := hO.fm hg
    have hf1 := hf.1
    obtain ⟨v, hvm, hv0, hv1, hvd, hvt⟩ := at_i (show k < w.2.2.length by omega)
    have hv := hO.wr hvm
    have hv2 := hv.1
    have hvc := hv.2.1.1
    have hvn := hv.2.1.2.2.1
    refine wv_cap h2 (fun n1 n2 => ?_)
    rw [List.length_map] at n2
    refine wv_s f49_18 rfl (fun _ => rfl) ?_
    refine wv_zF_lt f49_20 (by omega) (by omega) ?_
    refine wv_s f49_23 rfl (fun _ => rfl) ?_
    refine wv_getfield f49_24 (by assumption) (by rfl) ?_
    refine wv_getfield f49_27 (by assumption) (by rfl) ?_
    by_cases he : fd.2.1 = true
    · refine wv_nT f49_30 (he) ?_
      exact wv_vret f49_99 (by decide +kernel) (⟨rfl, by rw [goF_end he]; exact (aPut_id h3).symm⟩)
    · have he : fd.2.1 = false := by simpa using he
      have no : (v.isOf g.g && (decide (v.c.n ≤ m) && v.on x)) = false → Wv sc 3 49 93 [some (.ref o), some (.ref g.a), some (.int (zI x)), some (.int (zI m)), some (.int (zI (((k + 1 : Nat) : Int) - 1))), some (.ref v.a)] [] A (fun r A' => r = .inl none ∧ A' = aPut A fa9 (cFi (goF g.o fd (anL g.g m x (w.2.2.take (k + 1)))))) := by
        intro e
        refine wv_inc4 f49_93 ?_
        refine wv_s (pc' := 18) f49_96 rfl (fun _ => rfl) ?_
        rw [hvt, anL_snoc, if_neg (by rw [e]; decide), show ((k + 1 : Nat) : Int) - 1 + -1 = (k : Int) - 1 by omega]
        exact c49_l hg hx hm k A fd _ (by omega) hO
      refine wv_nF f49_30 (he) ?_
      refine wv_s f49_33 rfl (fun _ => rfl) ?_
      refine wv_getfield f49_34 (by assumption) (by rfl) ?_
      refine wv_s f49_37 rfl (fun _ => rfl) ?_
      refine wv_lget (j := k) f49_39 h2 (by omega) (hv1 _) (by omega) (by simp) ?_
      refine wv_cast f49_42 (by assumption) ?_
      refine wv_st5 f49_45 rfl (fun _ _ => rfl) ?_
      refine wv_s f49_47 rfl (fun _ => rfl) ?_
      refine wv_s f49_49 rfl (fun _ => rfl) ?_
      refine wv_valV f49_50 (by decide) (by simp) (by simp) (by decide +kernel) (by assumption) (by rfl) (by decide +kernel) rfl (c154 hv hf1 hf.2.2.2.1) (by omega) ?_
      refine wv_bX f49_53 (fun hb => ?_) (fun hb => ?_)
      · exact no (by rw [hb]; rfl)
      · refine wv_s f49_56 rfl (fun _ => rfl) ?_
        refine wv_getfield f49_58 (by assumption) (by rfl) ?_
        refine wv_getfield f49_61 (by assumption) (by rfl) ?_
        refine wv_s f49_64 rfl (fun _ => rfl) ?_
        refine wv_cX_gt f49_65 (by omega) (by omega) (fun hb2 => ?_) (fun hb2 => ?_)
        · exact no (by rw [decide_eq_false (by omega), Bool.false_and, Bool.and_false])
        · refine wv_s f49_68 rfl (fun _ => rfl) ?_
          refine wv_s f49_70 rfl (fun _ => rfl) ?_
          refine wv_valV f49_71 (by decide) (by simp) (by simp) (by decide +kernel) (by assumption) (by rfl) (by decide +kernel) rfl (c155 hv hx) (by omega) ?_
          refine wv_bX f49_74 (fun hb3 => ?_) (fun hb3 => ?_)
          · exact no (by rw [hb3, Bool.and_false, Bool.and_false])
          · refine wv_s f49_77 rfl (fun _ => rfl) ?_
            refine wv_getfield f49_78 (by assumption) (by rfl) ?_
            refine wv_s f49_81 rfl (fun _ => rfl) ?_
            refine wv_getfield f49_83 (by assumption) (by rfl) ?_
            refine wv_s f49_86 rfl (fun _ => rfl) ?_
            refine wv_getfield f49_87 (by assumption) (by rfl) ?_
            refine wv_effV f49_90 (by decide) (by simp) (by simp) (by decide +kernel) (by assumption) (by rfl) (by decide +kernel) rfl (c115 hf.2.2.2.2 h3 hv.2.1 (ne_oo hvc h3 (by decide))) (by omega) (fun A1 hA1 => ?_)
            refine wv_inc4 f49_93 ?_
            refine wv_s (pc' := 18) f49_96 rfl (fun _ => rfl) ?_
            have hO1 := hO.putFi (fd := fiMeet g.o fd v.c)
            rw [hA1]
            rw [hvt, anL_snoc, if_pos (by rw [hb, hb3, decide_eq_true (show v.c.n ≤ m by omega)]; rfl), goF_cons he, show ((k + 1 : Nat) : Int) - 1 + -1 = (k : Int) - 1 by omega]
            refine (c49_l hg hx hm k _ (fiMeet g.o fd v.c) _ (by omega) hO1).up (Nat.le_refl _) (fun r A' h => ⟨h.1, ?_⟩)
            rw [h.2, aPut_put]
theorem c49 (hO : okO A F L o f w s c b fi y me ct) (hg : g ∈ f.2.2) (hx : i32 x) (hm : m ≤ 1000000) : Wc sc 3 49 [.ref o, .ref g.a, .int (zI x), .int (zI m)] A (fun r A' => r = .inl none ∧ A' = aPut A fi.1 (cFi (goF g.o fi0 (anL g.g m x w.2.2)))) := by
  show Wv sc 3 49 0 [some (.ref o), some (.ref g.a), some (.int (zI x)), some (.int (zI m)), none, none] [] A _
  have h1 := hO.ob
  have h3 := hO.fic
  refine wv_s f49_0 rfl (fun _ => rfl) ?_
  refine wv_getfield f49_1 (by assumption) (by rfl) ?_
  refine wv_effV f49_4 (by decide) (by simp) (by simp) (by decide +kernel) (by assumption) (by rfl) (by decide +kernel) rfl (c113 h3) (by omega) (fun A1 hA1 => ?_)
  have hO1 := hO.putFi (fd := fi0)
  rw [hA1]
  have h4 := hO1.ob
  have h5 := hO1.wl
  show Wv sc 3 49 7 _ _ (aPut A fi.1 (cFi fi0)) _
  refine wv_s f49_7 rfl (fun _ => rfl) ?_
  refine wv_getfield f49_8 (by assumption) (by rfl) ?_
  refine wv_lsize f49_11 (by assumption) (by omega) (by simp) (fun hs => ?_)
  rw [List.length_map] at hs ⊢
  refine wv_icon f49_14 ?_
  refine wv_isub f49_15 ?_
  refine wv_st4 f49_16 rfl (fun _ _ => rfl) ?_
  refine (c49_l hg hx hm w.2.2.length _ fi0 none (Nat.le_refl _) hO1).up (Nat.le_refl _) (fun r A' h => ⟨h.1, ?_⟩)
  rw [h.2, aPut_put, List.take_length]
theorem c72_l (hg : g ∈ f.2.2) (hx : i32 x) (hm : m ≤ 1000000) : ∀ (k : Nat) (A : gA) (fd : FiD) (x5 : Option Value), k ≤ w.2.2.length → okO A F L o f w s c b (fa9, fd) y me ct →
    Wv sc 3 72 11 [some (.ref o), some (.ref g.a), some (.int (zI x)), some (.int (zI m)), some (.int (zI ((k : Int) - 1))), x5] [] A (fun r A' => r = .inl none ∧ A' = aPut A fa9 (cFi (goF g.o fd (mmL g.g m x (w.2.2.take k)))))
  | 0, A, fd, x5, hk, hO => by
    have h1 := hO.fic
    refine wv_s f72_11 rfl (fun _ => rfl) ?_
    refine wv_zT_lt f72_13 (by omega) (by omega) ?_
    exact wv_vret f72_92 (by decide +kernel) (⟨rfl, by rw [List.take_zero]; exact (aPut_id h1).symm⟩)
  | k + 1, A, fd, x5, hk, hO => by
    have h1 := hO.ob
    have h2 := hO.wl
    have h3 := hO.fic
    have hf := hO.fm hg
    have hf1 := hf.1
    obtain ⟨v, hvm, hv0, hv1, hvd, hvt⟩ := at_i (show k < w.2.2.length by omega)
    have hv := hO.wr hvm
    have hv2 := hv.1
    have hvc := hv.2.1.1
    have hvn := hv.2.1.2.2.1
    refine wv_cap h2 (fun n1 n2 => ?_)
    rw [List.length_map] at n2
    refine wv_s f72_11 rfl (fun _ => rfl) ?_
    refine wv_zF_lt f72_13 (by omega) (by omega) ?_
    refine wv_s f72_16 rfl (fun _ => rfl) ?_
    refine wv_getfield f72_17 (by assumption) (by rfl) ?_
    refine wv_getfield f72_20 (by assumption) (by rfl) ?_
    by_cases he : fd.2.1 = true
    · refine wv_nT f72_23 (he) ?_
      exact wv_vret f72_92 (by decide +kernel) (⟨rfl, by rw [goF_end he]; exact (aPut_id h3).symm⟩)
    · have he : fd.2.1 = false := by simpa using he
      have no : (v.memOf g.g && (decide (v.c.n ≤ m) && v.on x)) = false → Wv sc 3 72 86 [some (.ref o), some (.ref g.a), some (.int (zI x)), some (.int (zI m)), some (.int (zI (((k + 1 : Nat) : Int) - 1))), some (.ref v.a)] [] A (fun r A' => r = .inl none ∧ A' = aPut A fa9 (cFi (goF g.o fd (mmL g.g m x (w.2.2.take (k + 1)))))) := by
        intro e
        refine wv_inc4 f72_86 ?_
        refine wv_s (pc' := 11) f72_89 rfl (fun _ => rfl) ?_
        rw [hvt, mmL_snoc, if_neg (by rw [e]; decide), show ((k + 1 : Nat) : Int) - 1 + -1 = (k : Int) - 1 by omega]
        exact c72_l hg hx hm k A fd _ (by omega) hO
      refine wv_nF f72_23 (he) ?_
      refine wv_s f72_26 rfl (fun _ => rfl) ?_
      refine wv_getfield f72_27 (by assumption) (by rfl) ?_
      refine wv_s f72_30 rfl (fun _ => rfl) ?_
      refine wv_lget (j := k) f72_32 h2 (by omega) (hv1 _) (by omega) (by simp) ?_
      refine wv_cast f72_35 (by assumption) ?_
      refine wv_st5 f72_38 rfl (fun _ _ => rfl) ?_
      refine wv_s f72_40 rfl (fun _ => rfl) ?_
      refine wv_s f72_42 rfl (fun _ => rfl) ?_
      refine wv_valV f72_43 (by decide) (by simp) (by simp) (by decide +kernel) (by assumption) (by rfl) (by decide +kernel) rfl (c153 hv hf1 hf.2.2.2.1) (by omega) ?_
      refine wv_bX f72_46 (fun hb => ?_) (fun hb => ?_)
      · exact no (by rw [hb]; rfl)
      · refine wv_s f72_49 rfl (fun _ => rfl) ?_
        refine wv_getfield f72_51 (by assumption) (by rfl) ?_
        refine wv_getfield f72_54 (by assumption) (by rfl) ?_
        refine wv_s f72_57 rfl (fun _ => rfl) ?_
        refine wv_cX_gt f72_58 (by omega) (by omega) (fun hb2 => ?_) (fun hb2 => ?_)
        · exact no (by rw [decide_eq_false (by omega), Bool.false_and, Bool.and_false])
        · refine wv_s f72_61 rfl (fun _ => rfl) ?_
          refine wv_s f72_63 rfl (fun _ => rfl) ?_
          refine wv_valV f72_64 (by decide) (by simp) (by simp) (by decide +kernel) (by assumption) (by rfl) (by decide +kernel) rfl (c155 hv hx) (by omega) ?_
          refine wv_bX f72_67 (fun hb3 => ?_) (fun hb3 => ?_)
          · exact no (by rw [hb3, Bool.and_false, Bool.and_false])
          · refine wv_s f72_70 rfl (fun _ => rfl) ?_
            refine wv_getfield f72_71 (by assumption) (by rfl) ?_
            refine wv_s f72_74 rfl (fun _ => rfl) ?_
            refine wv_getfield f72_76 (by assumption) (by rfl) ?_
            refine wv_s f72_79 rfl (fun _ => rfl) ?_
            refine wv_getfield f72_80 (by assumption) (by rfl) ?_
            refine wv_effV f72_83 (by decide) (by simp) (by simp) (by decide +kernel) (by assumption) (by rfl) (by decide +kernel) rfl (c115 hf.2.2.2.2 h3 hv.2.1 (ne_oo hvc h3 (by decide))) (by omega) (fun A1 hA1 => ?_)
            refine wv_inc4 f72_86 ?_
            refine wv_s (pc' := 11) f72_89 rfl (fun _ => rfl) ?_
            have hO1 := hO.putFi (fd := fiMeet g.o fd v.c)
            rw [hA1]
            rw [hvt, mmL_snoc, if_pos (by rw [hb, hb3, decide_eq_true (show v.c.n ≤ m by omega)]; rfl), goF_cons he, show ((k + 1 : Nat) : Int) - 1 + -1 = (k : Int) - 1 by omega]
            refine (c72_l hg hx hm k _ (fiMeet g.o fd v.c) _ (by omega) hO1).up (Nat.le_refl _) (fun r A' h => ⟨h.1, ?_⟩)
            rw [h.2, aPut_put]
theorem c72 (hO : okO A F L o f w s c b fi y me ct) (hg : g ∈ f.2.2) (hx : i32 x) (hm : m ≤ 1000000) : Wc sc 3 72 [.ref o, .ref g.a, .int (zI x), .int (zI m)] A (fun r A' => r = .inl none ∧ A' = aPut A fi.1 (cFi (goF g.o fi.2 (mmL g.g m x w.2.2)))) := by
  show Wv sc 3 72 0 [some (.ref o), some (.ref g.a), some (.int (zI x)), some (.int (zI m)), none, none] [] A _
  have h1 := hO.ob
  have h2 := hO.wl
  refine wv_s f72_0 rfl (fun _ => rfl) ?_
  refine wv_getfield f72_1 (by assumption) (by rfl) ?_
  refine wv_lsize f72_4 (by assumption) (by omega) (by simp) (fun hs => ?_)
  rw [List.length_map] at hs ⊢
  refine wv_icon f72_7 ?_
  refine wv_isub f72_8 ?_
  refine wv_st4 f72_9 rfl (fun _ _ => rfl) ?_
  refine (c72_l hg hx hm w.2.2.length _ fi.2 none (Nat.le_refl _) hO).up (Nat.le_refl _) (fun r A' h => ⟨h.1, ?_⟩)
  rw [h.2, List.take_length]
theorem c33 (hO : okO A F L o f w s c b fi y me ct) (hr : okRun F r) (hx : 0 ≤ x ∧ x < 100) (hs : cS ct ≤ 990000000) : Wc sc 4 33 [.ref o, .ref r.a, .int (zI x)] A (fun v A' => v = .inl none ∧ ∃ ct', Cnt ct ct' (r.rows.length + 3) ∧ A' = aPut A o (cOb f w s c b fi y me ct') ∧ okCt ct') := by
  show Wv sc 4 33 0 [some (.ref o), some (.ref r.a), some (.int (zI x)), none] [] A _
  have h1 := hO.ob
  have hrA := hr.ext hO.1.1
  have hr1 := hrA.1
  have hr2 := hrA.2.1
  refine wv_cap hr2 (fun n1 n2 => ?_)
  rw [List.length_map] at n2
  refine wv_s f33_0 rfl (fun _ => rfl) ?_
  refine wv_getfield f33_1 (by assumption) (by rfl) ?_
  refine wv_lempty f33_4 (by assumption) (by omega) (by simp) ?_
  cases he : (r.rows.map ChD.a).isEmpty with
  | true =>
    refine wv_bF f33_7 (rfl) ?_
    exact wv_vret f33_10 (by decide +kernel) (⟨rfl, ct, Cnt.refl, (aPut_id h1).symm, hO.ctc⟩)
  | false =>
    have k1 : Cnt ct (ctR ct 0 1 0) (r.rows.length + 3) := ⟨0, 1, 0, rfl, by omega, by omega, by omega⟩
    have hO1 := hO.putCt (k1.ok hO.ctc (by omega))
    have hrA1 := hr.ext hO1.1.1
    have hr3 := hrA1.1
    have h2 := hO1.ob
    refine wv_bT f33_7 (rfl) ?_
    refine wv_s f33_11 rfl (fun _ => rfl) ?_
    refine wv_s f33_12 rfl (fun _ => rfl) ?_
    refine wv_getfield f33_13 (by assumption) (by rfl) ?_
    refine wv_icon f33_16 ?_
    refine wv_iadd f33_17 ?_
    refine wv_putfield f33_18 (by assumption) (by simp) (by rfl) ?_
    show Wv sc 4 33 21 _ _ (aPut A o (cOb f w s c b fi y me (ctR ct 0 1 0))) _
    refine wv_s f33_21 rfl (fun _ => rfl) ?_
    refine wv_s f33_22 rfl (fun _ => rfl) ?_
    refine wv_resV f33_23 (by decide) (by simp) (by simp) (by decide +kernel) (by assumption) (by rfl) (by decide +kernel) rfl (c144 hrA1 hx (by omega)) (by omega) (fun v A1 hv => ?_)
    obtain ⟨p, rfl, hA1⟩ := hv
    rw [hA1]
    cases p with
    | false =>
      refine wv_nF f33_26 (rfl) ?_
      exact wv_vret f33_29 (by decide +kernel) (⟨rfl, _, k1, rfl, hO1.ctc⟩)
    | true =>
      refine wv_nT f33_26 (rfl) ?_
      refine wv_s f33_30 rfl (fun _ => rfl) ?_
      refine wv_s f33_31 rfl (fun _ => rfl) ?_
      refine wv_resV f33_32 (by decide) (by simp) (by simp) (by decide +kernel) (by assumption) (by rfl) (by decide +kernel) rfl (c140 hrA1 (by omega)) (by omega) (fun v A2 hv => ?_)
      obtain ⟨n, hn, rfl, hA2⟩ := hv
      rw [hA2]
      refine wv_st3 f33_35 rfl (fun _ _ => rfl) ?_
      refine wv_s f33_36 rfl (fun _ => rfl) ?_
      refine wv_zX_ne f33_37 (by omega) (fun hb => ?_) (fun hb => ?_)
      · have k2 : Cnt ct (ctR ct n 1 0) (r.rows.length + 3) := ⟨n, 1, 0, rfl, by omega, by omega, by omega⟩
        refine wv_s f33_60 rfl (fun _ => rfl) ?_
        refine wv_s f33_61 rfl (fun _ => rfl) ?_
        refine wv_getfield f33_62 (by assumption) (by rfl) ?_
        refine wv_s f33_65 rfl (fun _ => rfl) ?_
        refine wv_iadd f33_66 ?_
        refine wv_putfield f33_67 (by assumption) (by simp) (by rfl) ?_
        exact wv_vret f33_70 (by decide +kernel) (⟨rfl, _, k2, by simp only [aPut_put]; rfl, k2.ok hO.ctc (by omega)⟩)
      · obtain rfl : n = 0 := by omega
        have k2 : Cnt ct (ctR ct 1 1 1) (r.rows.length + 3) := ⟨1, 1, 1, rfl, by omega, by omega, by omega⟩
        refine wv_s f33_40 rfl (fun _ => rfl) ?_
        refine wv_s f33_41 rfl (fun _ => rfl) ?_
        refine wv_getfield f33_42 (h2) (by rfl) ?_
        refine wv_icon f33_45 ?_
        refine wv_iadd f33_46 ?_
        refine wv_putfield f33_47 (h2) (by simp) (by rfl) ?_
        refine wv_s f33_50 rfl (fun _ => rfl) ?_
        refine wv_s f33_51 rfl (fun _ => rfl) ?_
        refine wv_getfield f33_52 (aPut_self) (by rfl) ?_
        refine wv_icon f33_55 ?_
        refine wv_iadd f33_56 ?_
        refine wv_putfield f33_57 (aPut_self) (by simp) (by rfl) ?_
        refine wv_s f33_60 rfl (fun _ => rfl) ?_
        refine wv_s f33_61 rfl (fun _ => rfl) ?_
        refine wv_getfield f33_62 (aPut_self) (by rfl) ?_
        refine wv_s f33_65 rfl (fun _ => rfl) ?_
        refine wv_iadd f33_66 ?_
        refine wv_putfield f33_67 (aPut_self) (by simp) (by rfl) ?_
        exact wv_vret f33_70 (by decide +kernel) (⟨rfl, _, k2, by simp only [aPut_put]; rfl, k2.ok hO.ctc (by omega)⟩)
theorem c73_l {l : List ChD} (hy : y.2.2 = l) (hg : g ∈ f.2.2) (hm : m ≤ 1000000) {xr xx xp : Option Value} : ∀ (k i : Nat) (A : gA) (fd : FiD) (x7 : Option Value), i + k = l.length → okO A F L o f w s c b (fa9, fd) y me ct →
    Wv sc 8 73 30 [some (.ref o), some (.ref g.a), xr, xx, some (.int (zI m)), xp, some (.int (zI i)), x7] [] A (fun r A' => r = .inl none ∧ A' = aPut A fa9 (cFi (goF g.o fd (upTo m (l.drop i)))))
  | 0, i, A, fd, x7, hik, hO => by
    have h1 := hO.ob
    have h2 := hO.yl
    have h3 := hO.fic
    rw [hy] at h2
    have e : l.drop i = [] := List.drop_of_length_le (by omega)
    rw [e]
    refine wv_s f73_30 rfl (fun _ => rfl) ?_
    refine wv_s f73_32 rfl (fun _ => rfl) ?_
    refine wv_getfield f73_33 (by assumption) (by rfl) ?_
    refine wv_lsize f73_36 (by assumption) (by omega) (by simp) (fun hs => ?_)
    rw [List.length_map] at hs ⊢
    refine wv_cT_ge f73_39 (by omega) (by omega) (by omega) ?_
    exact wv_vret f73_95 (by decide +kernel) (⟨rfl, (aPut_id h3).symm⟩)
  | k + 1, i, A, fd, x7, hik, hO => by
    have h1 := hO.ob
    have h2 := hO.yl
    have h3 := hO.fic
    have hf := hO.fm hg
    have hf1 := hf.1
    rw [hy] at h2
    obtain ⟨v, hvm, hv0, hv1, hvd, hvt⟩ := at_i (show i < l.length by omega)
    have hv := hO.wy (show v ∈ y.2.2 by rw [hy]; exact hvm)
    have hv2 := hv.1
    have hvn := hv.2.2.1
    refine wv_s f73_30 rfl (fun _ => rfl) ?_
    refine wv_s f73_32 rfl (fun _ => rfl) ?_
    refine wv_getfield f73_33 (by assumption) (by rfl) ?_
    refine wv_lsize f73_36 (by assumption) (by omega) (by simp) (fun hs => ?_)
    rw [List.length_map] at hs ⊢
    refine wv_cF_ge f73_39 (by omega) (by omega) (by omega) ?_
    refine wv_s f73_42 rfl (fun _ => rfl) ?_
    refine wv_getfield f73_43 (by assumption) (by rfl) ?_
    refine wv_getfield f73_46 (by assumption) (by rfl) ?_
    by_cases he : fd.2.1 = true
    · refine wv_nT f73_49 (he) ?_
      exact wv_vret f73_95 (by decide +kernel) (⟨rfl, by rw [goF_end he]; exact (aPut_id h3).symm⟩)
    · have he : fd.2.1 = false := by simpa using he
      refine wv_nF f73_49 (he) ?_
      refine wv_s f73_52 rfl (fun _ => rfl) ?_
      refine wv_getfield f73_53 (by assumption) (by rfl) ?_
      refine wv_s f73_56 rfl (fun _ => rfl) ?_
      refine wv_lget f73_58 (by assumption) (by first | rfl | omega) (hv1 _) (by omega) (by simp) ?_
      refine wv_cast f73_61 (by assumption) ?_
      refine wv_st7 f73_64 rfl (fun _ _ => rfl) ?_
      refine wv_s f73_66 rfl (fun _ => rfl) ?_
      refine wv_getfield f73_68 (by assumption) (by rfl) ?_
      refine wv_s f73_71 rfl (fun _ => rfl) ?_
      refine wv_cX_gt f73_73 (by omega) (by omega) (fun hb => ?_) (fun hb => ?_)
      · refine wv_inc6 f73_89 ?_
        refine wv_s (pc' := 30) f73_92 rfl (fun _ => rfl) ?_
        rw [hvd, upTo_cons, if_neg (by omega)]
        exact c73_l hy hg hm k (i + 1) A fd _ (by omega) hO
      · refine wv_s f73_76 rfl (fun _ => rfl) ?_
        refine wv_getfield f73_77 (by assumption) (by rfl) ?_
        refine wv_s f73_80 rfl (fun _ => rfl) ?_
        refine wv_s f73_82 rfl (fun _ => rfl) ?_
        refine wv_getfield f73_83 (by assumption) (by rfl) ?_
        refine wv_effV f73_86 (by decide) (by simp) (by simp) (by decide +kernel) (by assumption) (by rfl) (by decide +kernel) rfl (c115 hf.2.2.2.2 h3 hv (ne_oo hv2 h3 (by decide))) (by omega) (fun A1 hA1 => ?_)
        refine wv_inc6 f73_89 ?_
        refine wv_s (pc' := 30) f73_92 rfl (fun _ => rfl) ?_
        have hO1 := hO.putFi (fd := fiMeet g.o fd v)
        rw [hA1, hvd, upTo_cons, if_pos (by omega), goF_cons he]
        refine (c73_l hy hg hm k (i + 1) _ (fiMeet g.o fd v) _ (by omega) hO1).up (Nat.le_refl _) (fun r A' h => ⟨h.1, ?_⟩)
        rw [h.2, aPut_put]
theorem c73 {p : Bool} {N : Nat} (hO : okO A F L o f w s c b fi y me ct) (hg : g ∈ f.2.2) (hr : okRun F r) (hx : 0 ≤ x ∧ x < 100) (hm : m ≤ 1000000) (hs : cS ct ≤ 990000000) (hwt : r.wt < 2600) (hN : (colW r x []).length ≤ N) :
    Wc sc 8 73 [.ref o, .ref g.a, .ref r.a, .int (zI x), .int (zI m), .int (bI p)] A (fun v A' => v = .inl none ∧ ∃ y' ct', okO A' F L o f w s c b (fi.1, goF g.o fi.2 (upTo m (colW r x []))) y' me ct' ∧ Cnt ct ct' (if p then r.rows.length + 3 else 0) ∧ CoY A y A' y' (10 + 2 * N)) := by
  show Wv sc 8 73 0 [some (.ref o), some (.ref g.a), some (.ref r.a), some (.int (zI x)), some (.int (zI m)), some (.int (bI p)), none, none] [] A _
  have rest : ∀ (A1 : gA) (ct1 : CtD), A1.2 = A.2 → okO A1 F L o f w s c b fi y me ct1 → Cnt ct ct1 (if p then r.rows.length + 3 else 0) → Wv sc 8 73 11 [some (.ref o), some (.ref g.a), some (.ref r.a), some (.int (zI x)), some (.int (zI m)), some (.int (bI p)), none, none] [] A1 (fun v A' => v = .inl none ∧ ∃ y' ct', okO A' F L o f w s c b (fi.1, goF g.o fi.2 (upTo m (colW r x []))) y' me ct' ∧ Cnt ct ct' (if p then r.rows.length + 3 else 0) ∧ CoY A y A' y' (10 + 2 * N)) := by
    intro A1 ct1 e1 hO1 hc
    have h1 := hO1.ob
    have h2 := hO1.yl
    refine wv_s f73_11 rfl (fun _ => rfl) ?_
    refine wv_getfield f73_12 (by assumption) (by rfl) ?_
    refine wv_lclear f73_15 (by assumption) (by omega) (by simp) ?_
    have hO2 : okO (aPut A1 y.1 (vL y.2.1 [])) F L o f w s c b fi (y.1, y.2.1, []) me ct1 := hO1.lsY (kc := 0) (ks := 0) (c' := y.2.1) (l := []) (fun x hx => by cases hx)
    have h3 := hO2.ob
    have h4 : (aPut A1 y.1 (vL y.2.1 [])).1 y.1 = some (vL y.2.1 (([] : List ChD).map ChD.a)) := hO2.yl
    have hrA := hr.ext hO2.1.1
    have hr1 := hrA.1
    have hyF : F y.1 = none := hO2.1.nf (q := y.1) (c := vL y.2.1 []) (by simp [obC])
    refine wv_s f73_18 rfl (fun _ => rfl) ?_
    refine wv_s f73_19 rfl (fun _ => rfl) ?_
    refine wv_s f73_20 rfl (fun _ => rfl) ?_
    refine wv_getfield f73_21 (by assumption) (by rfl) ?_
    refine wv_effV f73_24 (by decide) (by simp) (by simp) (by decide +kernel) (by assumption) (by rfl) (by decide +kernel) rfl (c139 hyF hr (by omega) hO2.1.1 h4 (fun c hc => by cases hc) (by simpa using hwt)) (by omega) (fun A3 hA3 => ?_)
    refine wv_icon f73_27 ?_
    refine wv_st6 f73_28 rfl (fun _ _ => rfl) ?_
    obtain ⟨c1, k1, s1, hlg, hA3⟩ := hA3
    have hcm : ∀ z, z ∈ colW r x [] → okCh F z := by
      intro z hz
      rcases colW_mem hz with hz | hz | hz
      · exact hr.2.2.2.1 z hz
      · exact hr.2.2.2.2.1 z hz
      · cases hz
    have hO3 := hO2.lsY (c' := c1) (kc := k1) (ks := s1) hcm
    rw [← hA3] at hO3
    refine (c73_l (l := colW r x []) (y := (y.1, c1, colW r x [])) rfl hg hm (colW r x []).length 0 _ fi.2 none (by omega) hO3).up (Nat.le_refl _) (fun v A' h => ?_)
    obtain ⟨q1, q2⟩ := h
    rw [List.drop_zero] at q2
    have hO4 := hO3.putFi (fd := goF g.o fi.2 (upTo m (colW r x [])))
    rw [← q2] at hO4
    refine ⟨q1, _, _, hO4, hc, ?_, ?_, rfl, ?_⟩
    · rw [q2, hA3]
      show 5 * (A1.2.1 + k1) + y.2.1 ≤ 5 * A.2.1 + c1
      have := hlg.2.1
      rw [e1]
      omega
    · rw [q2, hA3]
      show A1.2.2 + s1 + 4 * y.2.1 ≤ A.2.2 + 4 * c1
      have := hlg.2.2.1
      rw [e1]
      omega
    · have := hlg.2.2.2
      rw [List.length_map] at this
      show c1 ≤ y.2.1 ∨ c1 ≤ 10 + 2 * N
      omega
  have h1 := hO.ob
  cases p with
  | false =>
    refine wv_s f73_0 rfl (fun _ => rfl) ?_
    refine wv_bT f73_2 (rfl) ?_
    exact rest A ct rfl hO Cnt.refl
  | true =>
    refine wv_s f73_0 rfl (fun _ => rfl) ?_
    refine wv_bF f73_2 (rfl) ?_
    refine wv_s f73_5 rfl (fun _ => rfl) ?_
    refine wv_s f73_6 rfl (fun _ => rfl) ?_
    refine wv_s f73_7 rfl (fun _ => rfl) ?_
    refine wv_effV f73_8 (by decide) (by simp) (by simp) (by decide +kernel) (by assumption) (by rfl) (by decide +kernel) rfl (c33 hO hr hx hs) (by omega) (fun A1 hA1 => ?_)
    obtain ⟨ct1, g1, g2, g3⟩ := hA1
    have hO1 := hO.putCt g3
    rw [← g2] at hO1
    exact rest A1 ct1 (by rw [g2]; rfl) hO1 g1
theorem c71_r {p : Bool} {N : Nat} {Q : gO → gA → Prop} {xi : Option Value} (hg : g ∈ f.2.2) (hl : l ∈ g.lv) (hx : 0 ≤ x ∧ x < 100) (hm : m ≤ 1000000) (hwt : ∀ r, r ∈ l.rs → r.wt < 2600) (hN : ∀ r, r ∈ l.rs → (colW r x []).length ≤ N) : ∀ (k j : Nat) (A : gA) (fd : FiD) (y : Ls ChD) (ct : CtD) (x8 : Option Value), j + k = l.rs.length → okO A F L o f w s c b (fa9, fd) y me ct → cS ct + kS (l.rs.drop j) ≤ 990000000 →
    (∀ A' y' ct' x7 x8, okO A' F L o f w s c b (fa9, goF g.o fd (rsL m x (l.rs.drop j))) y' me ct' → Cnt ct ct' (if p then kS (l.rs.drop j) else 0) → CoY A y A' y' (10 + 2 * N) → Wv sc 9 71 96 [some (.ref o), some (.ref g.a), some (.int (zI x)), some (.int (zI m)), some (.int (bI p)), xi, some (.ref l.a), x7, x8] [] A' Q) →
    Wv sc 9 71 34 [some (.ref o), some (.ref g.a), some (.int (zI x)), some (.int (zI m)), some (.int (bI p)), xi, some (.ref l.a), some (.int (zI j)), x8] [] A Q
  | 0, j, A, fd, y, ct, x8, hjk, hO, hs, hQ => by
    have h1 := hO.ob
    have hlA := hO.lv hg hl
    have hl1 := hlA.1
    have e : l.rs.drop j = [] := List.drop_of_length_le (by omega)
    rw [e] at hQ
    have hQ := hQ A y ct (some (.int (zI j))) x8 hO Cnt.refl CoY.refl
    refine hlA.len (fun n1 n2 => ?_)
    refine wv_s f71_34 rfl (fun _ => rfl) ?_
    refine wv_s f71_36 rfl (fun _ => rfl) ?_
    refine wv_valV f71_38 (by decide) (by simp) (by simp) (by decide +kernel) (by assumption) (by rfl) (by decide +kernel) rfl (c119 hlA) (by omega) ?_
    refine wv_cT_ge f71_41 (by omega) (by omega) (by omega) ?_
    exact hQ
  | k + 1, j, A, fd, y, ct, x8, hjk, hO, hs, hQ => by
    have h1 := hO.ob
    have h3 := hO.fic
    have hlA := hO.lv hg hl
    have hl1 := hlA.1
    have hl2 : A.1 l.la = some (vL l.lc (l.rs.map RunD.a)) := hlA.2.1
    obtain ⟨r, hrm, hr0, hr1, hrd, hrt⟩ := at_i (show j < l.rs.length by omega)
    have hrF := ((hO.2.1 g hg).2 l hl).2 r hrm
    have hrA := hrF.ext hO.1.1
    have hr2 := hrA.1
    rw [hrd] at hs hQ
    have ek : kS (r :: l.rs.drop (j + 1)) = r.rows.length + 3 + kS (l.rs.drop (j + 1)) := rfl
    have er : rsL m x (r :: l.rs.drop (j + 1)) = (if r.ov x x then upTo m (colW r x []) else []) ++ rsL m x (l.rs.drop (j + 1)) := rfl
    rw [ek] at hs hQ
    refine hlA.len (fun n1 n2 => ?_)
    refine wv_s f71_34 rfl (fun _ => rfl) ?_
    refine wv_s f71_36 rfl (fun _ => rfl) ?_
    refine wv_valV f71_38 (by decide) (by simp) (by simp) (by decide +kernel) (by assumption) (by rfl) (by decide +kernel) rfl (c119 hlA) (by omega) ?_
    refine wv_cF_ge f71_41 (by omega) (by omega) (by omega) ?_
    refine wv_s f71_44 rfl (fun _ => rfl) ?_
    refine wv_getfield f71_45 (by assumption) (by rfl) ?_
    refine wv_getfield f71_48 (by assumption) (by rfl) ?_
    by_cases he : fd.2.1 = true
    · rw [goF_end he] at hQ
      refine wv_nT f71_51 (he) ?_
      exact hQ A y ct _ _ hO Cnt.refl CoY.refl
    · have he : fd.2.1 = false := by simpa using he
      refine wv_nF f71_51 (he) ?_
      refine wv_s f71_54 rfl (fun _ => rfl) ?_
      refine wv_getfield f71_56 (by assumption) (by rfl) ?_
      refine wv_s f71_59 rfl (fun _ => rfl) ?_
      refine wv_lget f71_61 (by assumption) (by first | rfl | omega) (hr1 _) (by omega) (by simp) ?_
      refine wv_cast f71_64 (by assumption) ?_
      refine wv_st8 f71_67 rfl (fun _ _ => rfl) ?_
      refine wv_s f71_69 rfl (fun _ => rfl) ?_
      refine wv_s f71_71 rfl (fun _ => rfl) ?_
      refine wv_s f71_72 rfl (fun _ => rfl) ?_
      refine wv_valV f71_73 (by decide) (by simp) (by simp) (by decide +kernel) (by assumption) (by rfl) (by decide +kernel) rfl (c147 hrA (by omega) (by omega)) (by omega) ?_
      refine wv_bX f71_76 (fun hb => ?_) (fun hb => ?_)
      · rw [hb, if_neg (by decide), List.nil_append] at er
        rw [er] at hQ
        refine wv_inc7 f71_90 ?_
        refine wv_s (pc' := 34) f71_93 rfl (fun _ => rfl) ?_
        exact c71_r hg hl hx hm hwt hN k (j + 1) A fd y ct _ (by omega) hO (by omega) (fun A' y' ct' x7 x8 q1 q2 q3 => hQ A' y' ct' x7 x8 q1 (Cnt.trans Cnt.refl (K1 := 0) q2 (by split <;> omega)) q3)
      · rw [hb, if_pos rfl] at er
        rw [er, goF_app] at hQ
        refine wv_s f71_79 rfl (fun _ => rfl) ?_
        refine wv_s f71_80 rfl (fun _ => rfl) ?_
        refine wv_s f71_81 rfl (fun _ => rfl) ?_
        refine wv_s f71_83 rfl (fun _ => rfl) ?_
        refine wv_s f71_84 rfl (fun _ => rfl) ?_
        refine wv_s f71_85 rfl (fun _ => rfl) ?_
        refine wv_effV f71_87 (by decide) (by simp) (by simp) (by decide +kernel) (by assumption) (by rfl) (by decide +kernel) rfl (c73 (N := N) hO hg hrF hx hm (by omega) (hwt r hrm) (hN r hrm)) (by omega) (fun A1 hA1 => ?_)
        obtain ⟨y1, ct1, g1, g2, g3⟩ := hA1
        have g4 := g2.sum
        refine wv_inc7 f71_90 ?_
        refine wv_s (pc' := 34) f71_93 rfl (fun _ => rfl) ?_
        refine c71_r hg hl hx hm hwt hN k (j + 1) A1 _ y1 ct1 _ (by omega) g1 (by split at g4 <;> omega) (fun A' y' ct' x7 x8 q1 q2 q3 => hQ A' y' ct' x7 x8 q1 (Cnt.trans g2 q2 (by split <;> omega)) (g3.trans q3))
def kL : List LvD → Nat
  | [] => 0
  | l :: t => kS l.rs + kL t
theorem c71_l {p : Bool} {N : Nat} (hg : g ∈ f.2.2) (hx : 0 ≤ x ∧ x < 100) (hm : m ≤ 1000000) (hwt : ∀ l, l ∈ g.lv → ∀ r, r ∈ l.rs → r.wt < 2600) (hN : ∀ l, l ∈ g.lv → ∀ r, r ∈ l.rs → (colW r x []).length ≤ N) : ∀ (k i : Nat) (A : gA) (fd : FiD) (y : Ls ChD) (ct : CtD) (x6 x7 x8 : Option Value), i + k = 4 → okO A F L o f w s c b (fa9, fd) y me ct → cS ct + kL (g.lv.drop i) ≤ 990000000 →
    Wv sc 9 71 17 [some (.ref o), some (.ref g.a), some (.int (zI x)), some (.int (zI m)), some (.int (bI p)), some (.int (zI i)), x6, x7, x8] [] A (fun v A' => v = .inl none ∧ ∃ y' ct', okO A' F L o f w s c b (fa9, goF g.o fd (lvL m x (g.lv.drop i))) y' me ct' ∧ Cnt ct ct' (if p then kL (g.lv.drop i) else 0) ∧ CoY A y A' y' (10 + 2 * N))
  | 0, i, A, fd, y, ct, x6, x7, x8, hik, hO, hs => by
    have hf := hO.fm hg
    have e : g.lv.drop i = [] := List.drop_of_length_le (by rw [hf.2.2.1]; omega)
    rw [e]
    refine wv_s f71_17 rfl (fun _ => rfl) ?_
    refine wv_icon f71_19 ?_
    refine wv_cT_ge f71_20 (by omega) (by omega) (by omega) ?_
    exact wv_vret f71_102 (by decide +kernel) (⟨rfl, y, ct, hO, Cnt.refl, CoY.refl⟩)
  | k + 1, i, A, fd, y, ct, x6, x7, x8, hik, hO, hs => by
    have h1 := hO.ob
    have hf := hO.fm hg
    have hf1 := hf.1
    obtain ⟨l, hlm, hl0, hl1, hld, -⟩ := at_lv hf (show i < 4 by omega)
    rw [hld] at hs ⊢
    have ek : kL (l :: g.lv.drop (i + 1)) = kS l.rs + kL (g.lv.drop (i + 1)) := rfl
    have er : lvL m x (l :: g.lv.drop (i + 1)) = rsL m x l.rs ++ lvL m x (g.lv.drop (i + 1)) := rfl
    rw [ek] at hs ⊢
    rw [er, goF_app]
    refine wv_s f71_17 rfl (fun _ => rfl) ?_
    refine wv_icon f71_19 ?_
    refine wv_cF_ge f71_20 (by omega) (by omega) (by omega) ?_
    refine wv_s f71_23 rfl (fun _ => rfl) ?_
    refine wv_s f71_24 rfl (fun _ => rfl) ?_
    refine wv_valV f71_26 (by decide) (by simp) (by simp) (by decide +kernel) (by assumption) (by rfl) (by decide +kernel) rfl (c108 hf rfl hl0) (by omega) ?_
    refine wv_st6 f71_29 rfl (fun _ _ => rfl) ?_
    refine wv_icon f71_31 ?_
    refine wv_st7 f71_32 rfl (fun _ _ => rfl) ?_
    refine c71_r hg hlm hx hm (hwt l hlm) (hN l hlm) l.rs.length 0 A fd y ct _ (by omega) hO (by rw [List.drop_zero]; omega) (fun A1 y1 ct1 x7 x8 q1 q2 q3 => ?_)
    rw [List.drop_zero] at q1 q2
    have q4 := q2.sum
    refine wv_inc5 f71_96 ?_
    refine wv_s (pc' := 17) f71_99 rfl (fun _ => rfl) ?_
    refine (c71_l hg hx hm hwt hN k (i + 1) A1 _ y1 ct1 _ _ _ (by omega) q1 (by split at q4 <;> omega)).up (Nat.le_refl _) (fun v A' h => ?_)
    obtain ⟨p1, y', ct', p2, p3, p4⟩ := h
    exact ⟨p1, y', ct', p2, Cnt.trans q2 p3 (by split <;> omega), q3.trans p4⟩
/-- what looking finds -/
def lkF (g : FamD) (ws : List WrD) (m : Nat) (x : Int) : FiD := goF g.o fi0 (mmL g.g m x ws ++ lvL m x g.lv)
def anF (g : FamD) (ws : List WrD) (m : Nat) (x : Int) : FiD := goF g.o fi0 (anL g.g m x ws)
theorem c71 {p : Bool} {N : Nat} (hO : okO A F L o f w s c b fi y me ct) (hg : g ∈ f.2.2) (hx : 0 ≤ x ∧ x < 100) (hm : m ≤ 1000000) (hwt : ∀ l, l ∈ g.lv → ∀ r, r ∈ l.rs → r.wt < 2600) (hN : ∀ l, l ∈ g.lv → ∀ r, r ∈ l.rs → (colW r x []).length ≤ N) (hs : cS ct + kL g.lv ≤ 990000000) :
    Wc sc 9 71 [.ref o, .ref g.a, .int (zI x), .int (zI m), .int (bI p)] A (fun v A' => v = .inl none ∧ ∃ y' ct', okO A' F L o f w s c b (fi.1, lkF g w.2.2 m x) y' me ct' ∧ Cnt ct ct' (if p then kL g.lv else 0) ∧ CoY A y A' y' (10 + 2 * N)) := by
  show Wv sc 9 71 0 [some (.ref o), some (.ref g.a), some (.int (zI x)), some (.int (zI m)), some (.int (bI p)), none, none, none, none] [] A _
  have h1 := hO.ob
  have h3 := hO.fic
  refine wv_s f71_0 rfl (fun _ => rfl) ?_
  refine wv_getfield f71_1 (by assumption) (by rfl) ?_
  refine wv_effV f71_4 (by decide) (by simp) (by simp) (by decide +kernel) (by assumption) (by rfl) (by decide +kernel) rfl (c113 h3) (by omega) (fun A1 hA1 => ?_)
  have hO1 := hO.putFi (fd := fi0)
  rw [hA1]
  have h4 := hO1.ob
  show Wv sc 9 71 7 _ _ (aPut A fi.1 (cFi fi0)) _
  refine wv_s f71_7 rfl (fun _ => rfl) ?_
  refine wv_s f71_8 rfl (fun _ => rfl) ?_
  refine wv_s f71_9 rfl (fun _ => rfl) ?_
  refine wv_s f71_10 rfl (fun _ => rfl) ?_
  refine wv_effV f71_11 (by decide) (by simp) (by simp) (by decide +kernel) (by assumption) (by rfl) (by decide +kernel) rfl (c72 hO1 hg (by omega) hm) (by omega) (fun A2 hA2 => ?_)
  have hO2 := hO1.putFi (fd := goF g.o fi0 (mmL g.g m x w.2.2))
  rw [← hA2] at hO2
  refine wv_icon f71_14 ?_
  refine wv_st5 f71_15 rfl (fun _ _ => rfl) ?_
  refine (c71_l (N := N) hg hx hm hwt hN 4 0 A2 _ y ct _ _ _ (by omega) hO2 (by rw [List.drop_zero]; exact hs)).up (Nat.le_refl _) (fun v A' h => ?_)
  obtain ⟨q1, y', ct', q2, q3, q4⟩ := h
  rw [List.drop_zero, ← goF_app] at q2
  rw [List.drop_zero] at q3
  have e2 : A2.2 = A.2 := by rw [hA2]; rfl
  refine ⟨q1, y', ct', q2, q3, ?_⟩
  unfold CoY at q4 ⊢
  rw [e2] at q4
  exact q4
/-- what a reading gives: a value, or it throws -/
def rdR (fd : FiD) (v : gO) (A A' : gA) : Prop := (fd.1 = true ∧ v = .inl (some (.int fd.2.2)) ∧ A' = A) ∨ (fd.1 = false ∧ v = .inr 3 ∧ A' = aThr A)
theorem okO.thr (h : okO A F L o f w s c b fi y me ct) : okO (aThr A) F L o f w s c b fi y me ct := h
theorem c55 {N : Nat} (hO : okO A F L o f w s c b fi y me ct) (hg : f.2.2[i]? = some g) (hx : 0 ≤ x ∧ x < 100) (hm : m ≤ 1000000) (hmo : Wc sc 4 76 [.ref o, .int (zI z)] A (fun r A' => r = .inl (some (.int (zI m))) ∧ A' = A)) (hwt : ∀ l, l ∈ g.lv → ∀ r, r ∈ l.rs → r.wt < 2600) (hN : ∀ l, l ∈ g.lv → ∀ r, r ∈ l.rs → (colW r x []).length ≤ N) (hs : cS ct + kL g.lv ≤ 990000000) :
    Wc sc 10 55 [.ref o, .int (zI i), .int (zI x), .int (zI z)] A (fun v A' => ∃ A1 y' ct', okO A1 F L o f w s c b (fi.1, lkF g w.2.2 m x) y' me ct' ∧ Cnt ct ct' (kL g.lv) ∧ CoY A y A1 y' (10 + 2 * N) ∧ rdR (lkF g w.2.2 m x) v A1 A') := by
  show Wv sc 10 55 0 [some (.ref o), some (.int (zI i)), some (.int (zI x)), some (.int (zI z)), none, none] [] A _
  have h1 := hO.ob
  have hgm := List.mem_of_getElem? hg
  refine wv_s f55_0 rfl (fun _ => rfl) ?_
  refine wv_s f55_1 rfl (fun _ => rfl) ?_
  refine wv_valV f55_2 (by decide) (by simp) (by simp) (by decide +kernel) (by assumption) (by rfl) (by decide +kernel) rfl (c47 hO hg) (by omega) ?_
  refine wv_st4 f55_5 rfl (fun _ _ => rfl) ?_
  refine wv_s f55_7 rfl (fun _ => rfl) ?_
  refine wv_s f55_8 rfl (fun _ => rfl) ?_
  refine wv_valV f55_9 (by decide) (by simp) (by simp) (by decide +kernel) (by assumption) (by rfl) (by decide +kernel) rfl (hmo) (by omega) ?_
  refine wv_st5 f55_12 rfl (fun _ _ => rfl) ?_
  refine wv_s f55_14 rfl (fun _ => rfl) ?_
  refine wv_s f55_15 rfl (fun _ => rfl) ?_
  refine wv_effS f55_16 (by decide) (by simp) (by simp) (by decide +kernel) (c29 hx.1 (Int.le_refl _) hx.2) (by omega) (fun A1 hA1 => ?_)
  refine wv_s f55_19 rfl (fun _ => rfl) ?_
  refine wv_s f55_20 rfl (fun _ => rfl) ?_
  refine wv_s f55_22 rfl (fun _ => rfl) ?_
  refine wv_s f55_23 rfl (fun _ => rfl) ?_
  rw [hA1]
  refine wv_s f55_25 rfl (fun _ => rfl) ?_
  refine wv_effV f55_26 (by decide) (by simp) (by simp) (by decide +kernel) h1 (by rfl) (by decide +kernel) rfl (c71 (p := true) (N := N) hO hgm hx hm hwt hN hs) (by omega) (fun A2 hA2 => ?_)
  obtain ⟨y', ct', q2, q3, q4⟩ := hA2
  have h2 := q2.ob
  refine wv_s f55_29 rfl (fun _ => rfl) ?_
  cases ht : (lkF g w.2.2 m x).1 with
  | true =>
    refine wv_valV f55_30 (by decide) (by simp) (by simp) (by decide +kernel) (by assumption) (by rfl) (by decide +kernel) rfl (c54 q2 ht) (by omega) ?_
    exact wv_iret f55_33 (by rfl) (⟨A2, y', ct', q2, q3, q4, .inl ⟨ht, rfl, rfl⟩⟩)
  | false =>
    exact wv_thrV f55_30 (by decide) (by simp) (by simp) (by decide +kernel) h2 (by rfl) (by decide +kernel) rfl (c54_t q2 ht) (by omega) (by decide +kernel) (by decide +kernel) (fun A' h => ⟨A2, y', ct', q2, q3, q4, .inr ⟨ht, rfl, h⟩⟩)
theorem c55_t (hO : okO A F L o f w s c b fi y me ct) (hg : f.2.2[i]? = some g) (hmo : Wc sc 4 76 [.ref o, .int (zI z)] A (fun r A' => r = .inr 0 ∧ A' = aThr A)) :
    Wc sc 10 55 [.ref o, .int (zI i), .int (zI x), .int (zI z)] A (fun v A' => v = .inr 0 ∧ A' = aThr A) := by
  show Wv sc 10 55 0 [some (.ref o), some (.int (zI i)), some (.int (zI x)), some (.int (zI z)), none, none] [] A _
  have h1 := hO.ob
  refine wv_s f55_0 rfl (fun _ => rfl) ?_
  refine wv_s f55_1 rfl (fun _ => rfl) ?_
  refine wv_valV f55_2 (by decide) (by simp) (by simp) (by decide +kernel) (by assumption) (by rfl) (by decide +kernel) rfl (c47 hO hg) (by omega) ?_
  refine wv_st4 f55_5 rfl (fun _ _ => rfl) ?_
  refine wv_s f55_7 rfl (fun _ => rfl) ?_
  refine wv_s f55_8 rfl (fun _ => rfl) ?_
  exact wv_thrV f55_9 (by decide) (by simp) (by simp) (by decide +kernel) h1 (by rfl) (by decide +kernel) rfl hmo (by omega) (by decide +kernel) (by decide +kernel) (fun A' h => ⟨rfl, h⟩)
theorem c56 (hO : okO A F L o f w s c b fi y me ct) (hg : f.2.2[i]? = some g) (hx : 0 ≤ x ∧ x < 100) (hm : m ≤ 1000000) (hmo : Wc sc 4 76 [.ref o, .int (zI z)] A (fun r A' => r = .inl (some (.int (zI m))) ∧ A' = A)) :
    Wc sc 10 56 [.ref o, .int (zI i), .int (zI x), .int (zI z)] A (fun v A' => ∃ A1, okO A1 F L o f w s c b (fi.1, anF g w.2.2 m x) y me ct ∧ A1.2 = A.2 ∧ rdR (anF g w.2.2 m x) v A1 A') := by
  show Wv sc 10 56 0 [some (.ref o), some (.int (zI i)), some (.int (zI x)), some (.int (zI z)), none, none] [] A _
  have h1 := hO.ob
  have hgm := List.mem_of_getElem? hg
  refine wv_s f56_0 rfl (fun _ => rfl) ?_
  refine wv_s f56_1 rfl (fun _ => rfl) ?_
  refine wv_valV f56_2 (by decide) (by simp) (by simp) (by decide +kernel) (by assumption) (by rfl) (by decide +kernel) rfl (c47 hO hg) (by omega) ?_
  refine wv_st4 f56_5 rfl (fun _ _ => rfl) ?_
  refine wv_s f56_7 rfl (fun _ => rfl) ?_
  refine wv_s f56_8 rfl (fun _ => rfl) ?_
  refine wv_valV f56_9 (by decide) (by simp) (by simp) (by decide +kernel) (by assumption) (by rfl) (by decide +kernel) rfl (hmo) (by omega) ?_
  refine wv_st5 f56_12 rfl (fun _ _ => rfl) ?_
  refine wv_s f56_14 rfl (fun _ => rfl) ?_
  refine wv_s f56_15 rfl (fun _ => rfl) ?_
  refine wv_effS f56_16 (by decide) (by simp) (by simp) (by decide +kernel) (c29 hx.1 (Int.le_refl _) hx.2) (by omega) (fun A1 hA1 => ?_)
  refine wv_s f56_19 rfl (fun _ => rfl) ?_
  refine wv_s f56_20 rfl (fun _ => rfl) ?_
  refine wv_s f56_22 rfl (fun _ => rfl) ?_
  refine wv_s f56_23 rfl (fun _ => rfl) ?_
  rw [hA1]
  refine wv_effV f56_25 (by decide) (by simp) (by simp) (by decide +kernel) h1 (by rfl) (by decide +kernel) rfl (c49 hO hgm (by omega) hm) (by omega) (fun A2 hA2 => ?_)
  have q2 := hO.putFi (fd := anF g w.2.2 m x)
  rw [show aPut A fi.1 (cFi (anF g w.2.2 m x)) = A2 from hA2.symm] at q2
  have h2 := q2.ob
  have e2 : A2.2 = A.2 := by rw [hA2]; rfl
  refine wv_s f56_28 rfl (fun _ => rfl) ?_
  cases ht : (anF g w.2.2 m x).1 with
  | true =>
    refine wv_valV f56_29 (by decide) (by simp) (by simp) (by decide +kernel) (by assumption) (by rfl) (by decide +kernel) rfl (c54 q2 ht) (by omega) ?_
    exact wv_iret f56_32 (by rfl) (⟨A2, q2, e2, .inl ⟨ht, rfl, rfl⟩⟩)
  | false =>
    exact wv_thrV f56_29 (by decide) (by simp) (by simp) (by decide +kernel) h2 (by rfl) (by decide +kernel) rfl (c54_t q2 ht) (by omega) (by decide +kernel) (by decide +kernel) (fun A' h => ⟨A2, q2, e2, .inr ⟨ht, rfl, h⟩⟩)
def sameV (a b : FiD) : Prop := a.1 = b.1 ∧ (a.1 = true → a.2.2 = b.2.2)
theorem c57_l {N : Nat} (hg : g ∈ f.2.2) (hwt : ∀ l, l ∈ g.lv → ∀ r, r ∈ l.rs → r.wt < 2600) (hN : ∀ x : Int, 0 ≤ x ∧ x < 100 → ∀ l, l ∈ g.lv → ∀ r, r ∈ l.rs → (colW r x []).length ≤ N) (hm : w.2.2.length ≤ 1000000) (hsame : ∀ k : Nat, k < 100 → sameV (lkF g w.2.2 w.2.2.length k) (anF g w.2.2 w.2.2.length k)) : ∀ (k i : Nat) (A : gA) (fd : FiD) (y : Ls ChD) (x3 x4 : Option Value), i + k = 100 → okO A F L o f w s c b (fa9, fd) y me ct → cS ct + kL g.lv ≤ 990000000 →
    Wv sc 10 57 2 [some (.ref o), some (.ref g.a), some (.int (zI i)), x3, x4] [] A (fun v A' => v = .inl (some (.int (bI true))) ∧ ∃ fd' y', okO A' F L o f w s c b (fa9, fd') y' me ct ∧ CoY A y A' y' (10 + 2 * N))
  | 0, i, A, fd, y, x3, x4, hik, hO, hs => by
    refine wv_s f57_2 rfl (fun _ => rfl) ?_
    refine wv_bip f57_3 (by decide) ?_
    refine wv_cT_ge f57_5 (by omega) (by omega) (by omega) ?_
    refine wv_icon f57_87 ?_
    exact wv_iretB (p := true) f57_88 (by decide +kernel) ( ⟨rfl, fd, y, hO, CoY.refl⟩)
  | k + 1, i, A, fd, y, x3, x4, hik, hO, hs => by
    have h1 := hO.ob
    have h2 := hO.wl
    refine wv_s f57_2 rfl (fun _ => rfl) ?_
    refine wv_bip f57_3 (by decide) ?_
    refine wv_cF_ge f57_5 (by omega) (by omega) (by omega) ?_
    refine wv_s f57_8 rfl (fun _ => rfl) ?_
    refine wv_s f57_9 rfl (fun _ => rfl) ?_
    refine wv_s f57_10 rfl (fun _ => rfl) ?_
    refine wv_s f57_11 rfl (fun _ => rfl) ?_
    refine wv_getfield f57_12 (by assumption) (by rfl) ?_
    refine wv_lsize f57_15 h2 (by omega) (by simp) (fun hs1 => ?_)
    rw [List.length_map] at hs1 ⊢
    refine wv_icon f57_18 ?_
    refine wv_effV f57_19 (by decide) (by simp) (by simp) (by decide +kernel) h1 (by rfl) (by decide +kernel) rfl (c71 (p := false) (N := N) hO hg (by omega) hm hwt (hN _ (by omega)) hs) (by omega) (fun A2 hA2 => ?_)
    obtain ⟨y2, ct2, q2, q3, q4⟩ := hA2
    obtain ⟨nb, na, np, rfl, z1, z2, z3⟩ := q3
    have z4 : ctR ct nb na np = ct := by
      have z3' : nb + na + np ≤ 0 := z3
      rw [show nb = 0 by omega, show na = 0 by omega, show np = 0 by omega]
      rfl
    rw [z4] at q2
    have h3 := q2.ob
    have h4 := q2.fic
    have h5 := q2.wl
    refine wv_s f57_22 rfl (fun _ => rfl) ?_
    refine wv_getfield f57_23 (by assumption) (by rfl) ?_
    refine wv_getfield f57_26 (by assumption) (by rfl) ?_
    refine wv_st3 f57_29 rfl (fun _ _ => rfl) ?_
    refine wv_s f57_30 rfl (fun _ => rfl) ?_
    refine wv_getfield f57_31 (by assumption) (by rfl) ?_
    refine wv_getfield f57_34 (by assumption) (by rfl) ?_
    refine wv_st4 f57_37 rfl (fun _ _ => rfl) ?_
    refine wv_s f57_39 rfl (fun _ => rfl) ?_
    refine wv_s f57_40 rfl (fun _ => rfl) ?_
    refine wv_s f57_41 rfl (fun _ => rfl) ?_
    refine wv_s f57_42 rfl (fun _ => rfl) ?_
    refine wv_getfield f57_43 (by assumption) (by rfl) ?_
    refine wv_lsize f57_46 h5 (by omega) (by simp) (fun hs2 => ?_)
    rw [List.length_map] at hs2 ⊢
    refine wv_effV f57_49 (by decide) (by simp) (by simp) (by decide +kernel) h3 (by rfl) (by decide +kernel) rfl (c49 q2 hg (by omega) hm) (by omega) (fun A3 hA3 => ?_)
    have hO3 := q2.putFi (fd := anF g w.2.2 w.2.2.length i)
    rw [show aPut A2 (fa9, lkF g w.2.2 w.2.2.length i).1 (cFi (anF g w.2.2 w.2.2.length i)) = A3 from hA3.symm] at hO3
    have h6 := hO3.ob
    have h7 := hO3.fic
    have hsm := hsame i (by omega)
    have e3 : A3.2 = A2.2 := by rw [hA3]; rfl
    have nxt : ∀ x3 x4, Wv sc 10 57 81 [some (.ref o), some (.ref g.a), some (.int (zI i)), x3, x4] [] A3 (fun v A' => v = .inl (some (.int (bI true))) ∧ ∃ fd' y', okO A' F L o f w s c b (fa9, fd') y' me ct ∧ CoY A y A' y' (10 + 2 * N)) := by
      intro x3 x4
      refine wv_inc2 f57_81 ?_
      refine wv_s (pc' := 2) f57_84 rfl (fun _ => rfl) ?_
      refine (c57_l hg hwt hN hm hsame k (i + 1) A3 _ y2 _ _ (by omega) hO3 hs).up (Nat.le_refl _) (fun v A' h => ?_)
      obtain ⟨p1, fd', y', p2, p3⟩ := h
      refine ⟨p1, fd', y', p2, q4.trans ?_⟩
      unfold CoY at p3 ⊢
      rw [e3] at p3
      exact p3
    obtain ⟨sm1, sm2⟩ := hsm
    refine wv_s f57_52 rfl (fun _ => rfl) ?_
    refine wv_s f57_53 rfl (fun _ => rfl) ?_
    refine wv_getfield f57_54 (by assumption) (by rfl) ?_
    refine wv_getfield f57_57 (by assumption) (by rfl) ?_
    cases ht : (anF g w.2.2 w.2.2.length i).1 with
    | true =>
      rw [ht] at sm1
      have sm3 := sm2 sm1
      rw [sm1]
      refine wv_rX f57_60 (fun hb => absurd hb (by decide)) (fun hb => ?_)
      refine wv_s f57_63 rfl (fun _ => rfl) ?_
      refine wv_bF f57_64 (rfl) ?_
      refine wv_s f57_67 rfl (fun _ => rfl) ?_
      refine wv_s f57_69 rfl (fun _ => rfl) ?_
      refine wv_getfield f57_70 (by assumption) (by rfl) ?_
      refine wv_getfield f57_73 (by assumption) (by rfl) ?_
      rw [sm3]
      refine wv_rX f57_76 (fun hb => ?_) (fun hb => absurd hb (by simp [gTest]))
      exact nxt _ _
    | false =>
      rw [ht] at sm1
      rw [sm1]
      refine wv_rX f57_60 (fun hb => absurd hb (by decide)) (fun hb => ?_)
      refine wv_s f57_63 rfl (fun _ => rfl) ?_
      refine wv_bT f57_64 (rfl) ?_
      exact nxt _ _
theorem c57 {N : Nat} (hO : okO A F L o f w s c b fi y me ct) (hg : g ∈ f.2.2) (hwt : ∀ l, l ∈ g.lv → ∀ r, r ∈ l.rs → r.wt < 2600) (hN : ∀ x : Int, 0 ≤ x ∧ x < 100 → ∀ l, l ∈ g.lv → ∀ r, r ∈ l.rs → (colW r x []).length ≤ N) (hm : w.2.2.length ≤ 1000000) (hsame : ∀ k : Nat, k < 100 → sameV (lkF g w.2.2 w.2.2.length k) (anF g w.2.2 w.2.2.length k)) (hs : cS ct + kL g.lv ≤ 990000000) :
    Wc sc 10 57 [.ref o, .ref g.a] A (fun v A' => v = .inl (some (.int (bI true))) ∧ ∃ fd' y', okO A' F L o f w s c b (fi.1, fd') y' me ct ∧ CoY A y A' y' (10 + 2 * N)) := by
  show Wv sc 10 57 0 [some (.ref o), some (.ref g.a), none, none, none] [] A _
  refine wv_icon f57_0 ?_
  refine wv_st2 f57_1 rfl (fun _ _ => rfl) ?_
  exact c57_l hg hwt hN hm hsame 100 0 A fi.2 y _ _ (by omega) hO hs
theorem c62_l {N : Nat} (hwt : ∀ g, g ∈ f.2.2 → ∀ l, l ∈ g.lv → ∀ r, r ∈ l.rs → r.wt < 2600) (hN : ∀ g, g ∈ f.2.2 → ∀ x : Int, 0 ≤ x ∧ x < 100 → ∀ l, l ∈ g.lv → ∀ r, r ∈ l.rs → (colW r x []).length ≤ N) (hm : w.2.2.length ≤ 1000000) (hsame : ∀ g, g ∈ f.2.2 → ∀ k : Nat, k < 100 → sameV (lkF g w.2.2 w.2.2.length k) (anF g w.2.2 w.2.2.length k)) (hshp : ∀ g, g ∈ f.2.2 → shpF 0 g.lv = true) (hs : ∀ g, g ∈ f.2.2 → cS ct + kL g.lv ≤ 990000000) : ∀ (k i : Nat) (A : gA) (fd : FiD) (y : Ls ChD) (x2 : Option Value), i + k = f.2.2.length → okO A F L o f w s c b (fa9, fd) y me ct →
    Wv sc 11 62 2 [some (.ref o), some (.int (zI i)), x2] [] A (fun v A' => v = .inl (some (.int (bI true))) ∧ ∃ fd' y', okO A' F L o f w s c b (fa9, fd') y' me ct ∧ CoY A y A' y' (10 + 2 * N))
  | 0, i, A, fd, y, x2, hik, hO => by
    have h1 := hO.ob
    have h2 := hO.fl
    refine wv_s f62_2 rfl (fun _ => rfl) ?_
    refine wv_s f62_3 rfl (fun _ => rfl) ?_
    refine wv_getfield f62_4 (by assumption) (by rfl) ?_
    refine wv_lsize f62_7 (by assumption) (by omega) (by simp) (fun hs => ?_)
    rw [List.length_map] at hs ⊢
    refine wv_cT_ge f62_10 (by omega) (by omega) (by omega) ?_
    refine wv_icon f62_48 ?_
    exact wv_iretB (p := true) f62_49 (by decide +kernel) ( ⟨rfl, fd, y, hO, CoY.refl⟩)
  | k + 1, i, A, fd, y, x2, hik, hO => by
    have h1 := hO.ob
    have h2 := hO.fl
    obtain ⟨g, hgm, hg0, hg1, hgd, -⟩ := at_i (show i < f.2.2.length by omega)
    have hf := hO.fm hgm
    have hf1 := hf.1
    refine wv_s f62_2 rfl (fun _ => rfl) ?_
    refine wv_s f62_3 rfl (fun _ => rfl) ?_
    refine wv_getfield f62_4 (by assumption) (by rfl) ?_
    refine wv_lsize f62_7 (by assumption) (by omega) (by simp) (fun hsz => ?_)
    rw [List.length_map] at hsz ⊢
    refine wv_cF_ge f62_10 (by omega) (by omega) (by omega) ?_
    refine wv_s f62_13 rfl (fun _ => rfl) ?_
    refine wv_getfield f62_14 (by assumption) (by rfl) ?_
    refine wv_s f62_17 rfl (fun _ => rfl) ?_
    refine wv_lget f62_18 (by assumption) (by first | rfl | omega) (hg1 _) (by omega) (by simp) ?_
    refine wv_cast f62_21 (by assumption) ?_
    refine wv_st2 f62_24 rfl (fun _ _ => rfl) ?_
    refine wv_s f62_25 rfl (fun _ => rfl) ?_
    refine wv_valV f62_26 (by decide) (by simp) (by simp) (by decide +kernel) (by assumption) (by rfl) (by decide +kernel) rfl (c110 hf (fun l hl => hO.lv hgm hl)) (by omega) ?_
    refine wv_bF f62_29 (hshp g hgm) ?_
    refine wv_s f62_32 rfl (fun _ => rfl) ?_
    refine wv_s f62_33 rfl (fun _ => rfl) ?_
    refine wv_resV (P := fun v A' => v = .int (bI true) ∧ ∃ fd' y', okO A' F L o f w s c b (fa9, fd') y' me ct ∧ CoY A y A' y' (10 + 2 * N)) f62_34 (by decide) (by simp) (by simp) (by decide +kernel) h1 (by rfl) (by decide +kernel) rfl ((c57 (N := N) hO hgm (hwt g hgm) (hN g hgm) hm (hsame g hgm) (hs g hgm)).up (Nat.le_refl _) (fun v A' h => ⟨_, h.1, rfl, h.2⟩)) (by omega) (fun v A1 hv => ?_)
    obtain ⟨rfl, fd', y', q1, q2⟩ := hv
    refine wv_nT f62_37 (rfl) ?_
    refine wv_inc1 f62_42 ?_
    refine wv_s (pc' := 2) f62_45 rfl (fun _ => rfl) ?_
    refine (c62_l hwt hN hm hsame hshp hs k (i + 1) A1 fd' y' _ (by omega) q1).up (Nat.le_refl _) (fun v A' h => ?_)
    obtain ⟨p1, fd2, y2, p2, p3⟩ := h
    exact ⟨p1, fd2, y2, p2, q2.trans p3⟩
theorem c62 {N : Nat} (hO : okO A F L o f w s c b fi y me ct) (hwt : ∀ g, g ∈ f.2.2 → ∀ l, l ∈ g.lv → ∀ r, r ∈ l.rs → r.wt < 2600) (hN : ∀ g, g ∈ f.2.2 → ∀ x : Int, 0 ≤ x ∧ x < 100 → ∀ l, l ∈ g.lv → ∀ r, r ∈ l.rs → (colW r x []).length ≤ N) (hm : w.2.2.length ≤ 1000000) (hsame : ∀ g, g ∈ f.2.2 → ∀ k : Nat, k < 100 → sameV (lkF g w.2.2 w.2.2.length k) (anF g w.2.2 w.2.2.length k)) (hshp : ∀ g, g ∈ f.2.2 → shpF 0 g.lv = true) (hs : ∀ g, g ∈ f.2.2 → cS ct + kL g.lv ≤ 990000000) :
    Wc sc 11 62 [.ref o] A (fun v A' => v = .inl (some (.int (bI true))) ∧ ∃ fd' y', okO A' F L o f w s c b (fi.1, fd') y' me ct ∧ CoY A y A' y' (10 + 2 * N)) := by
  show Wv sc 11 62 0 [some (.ref o), none, none] [] A _
  refine wv_icon f62_0 ?_
  refine wv_st1 f62_1 rfl (fun _ _ => rfl) ?_
  exact c62_l hwt hN hm hsame hshp hs f.2.2.length 0 A fi.2 y _ (by omega) hO
end LK
