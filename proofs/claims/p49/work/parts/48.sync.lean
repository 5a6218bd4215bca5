/-! SYNC, crash, snapshots, cursors, stop, flush -/
def synW (w : WrD) : WrD := if w.z = 1 then (w.a, w.g, w.c, w.s, 2) else w
def crW (w : WrD) : WrD := if w.z = 1 then (w.a, w.g, w.c, w.s, 0) else w
def cntU (l : List WrD) : Nat := (l.filter (fun w => decide (w.z = 1))).length
theorem cntU_cons {w : WrD} {l : List WrD} : cntU (w :: l) = (if w.z = 1 then 1 else 0) + cntU l := by
  unfold cntU
  by_cases h : w.z = 1
  · rw [List.filter_cons_of_pos (by simpa using h), if_pos h, List.length_cons]
    omega
  · rw [List.filter_cons_of_neg (by simpa using h), if_neg h]
    omega
theorem synW_a {w : WrD} : (synW w).a = w.a := by
  unfold synW
  split <;> rfl
theorem crW_a {w : WrD} : (crW w).a = w.a := by
  unfold crW
  split <;> rfl
theorem okCt_of {ct ct' : CtD} (h : okCt ct) (h1 : ct'.1 ≤ 1000000) (h2 : ct'.2.1 ≤ 1000000) (hk : (ct'.2.2.1, ct'.2.2.2.2.1, ct'.2.2.2.2.2.1, ct'.2.2.2.2.2.2.1, ct'.2.2.2.2.2.2.2.1) = (ct.2.2.1, ct.2.2.2.2.1, ct.2.2.2.2.2.1, ct.2.2.2.2.2.2.1, ct.2.2.2.2.2.2.2.1)) : okCt ct' := by
  simp only [Prod.mk.injEq] at hk
  obtain ⟨a1, a2, a3, a4, a5, a6, a7⟩ := h
  obtain ⟨b1, b2, b3, b4, b5⟩ := hk
  exact ⟨h1, h2, by omega, by omega, by omega, by omega, by omega⟩
theorem er_map {α β : Type} {f : α → β} : ∀ {l : List α} {k : Nat}, (l.map f).eraseIdx k = (l.eraseIdx k).map f
  | [], _ => rfl
  | _ :: _, 0 => rfl
  | a :: l, k + 1 => congrArg (f a :: ·) (er_map (l := l) (k := k))
section SY
variable {sc : gSc} {d : Nat} {A : gA} {F : Nat → Option vC} {L : List (Nat × vC)} {o : Nat} {f : Ls FamD} {w : Ls WrD} {s : Ls SnD} {c : Ls CuD} {b : Ls BkD} {fi : Nat × FiD} {y : Ls ChD} {me : Option MeD} {ct : CtD} {g : FamD} {l : LvD} {r : RunD} {i j m : Nat} {x z : Int}
theorem c95_l {ws0 : List WrD} {wa wc : Nat} : ∀ (k i n : Nat) (A : gA) (x3 : Option Value), i + k = ws0.length → n ≤ i → okO A F L o f (wa, wc, (ws0.take i).map synW ++ ws0.drop i) s c b fi y me ct →
    Wv sc 3 95 4 [some (.ref o), some (.int (zI n)), some (.int (zI i)), x3] [] A (fun v A' => v = .inl (some (.int (zI (n + cntU (ws0.drop i) : Nat)))) ∧ okO A' F L o f (wa, wc, ws0.map synW) s c b fi y me ct ∧ A'.2 = A.2)
  | 0, i, n, A, x3, hik, hn, hO => by
    have h1 := hO.ob
    have e1 : ws0.take i = ws0 := List.take_of_length_le (by omega)
    have e2 : ws0.drop i = [] := List.drop_of_length_le (by omega)
    rw [e1, e2, List.append_nil] at hO
    rw [e2]
    have h2 : A.1 wa = some (vL wc ((ws0.map synW).map WrD.a)) := hO.wl
    refine wv_s f95_4 rfl (fun _ => rfl) ?_
    refine wv_s f95_5 rfl (fun _ => rfl) ?_
    refine wv_getfield f95_6 (by assumption) (by rfl) ?_
    refine wv_lsize f95_9 (by assumption) (by omega) (by simp) (fun hs => ?_)
    rw [List.length_map, List.length_map] at hs ⊢
    refine wv_cT_ge f95_12 (by omega) (by omega) (by omega) ?_
    refine wv_s f95_49 rfl (fun _ => rfl) ?_
    exact wv_iret f95_50 (by rfl) (⟨rfl, hO, rfl⟩)
  | k + 1, i, n, A, x3, hik, hn, hO => by
    have h1 := hO.ob
    obtain ⟨v, hvm, hv0, hv1, hvd, hvt⟩ := at_i (show i < ws0.length by omega)
    have ewa : ((ws0.take i).map synW ++ ws0.drop i).map WrD.a = ws0.map WrD.a := by
      rw [List.map_append, List.map_map, show WrD.a ∘ synW = WrD.a from funext (fun w => synW_a), ← List.map_append, List.take_append_drop]
    have h2 : A.1 wa = some (vL wc (ws0.map WrD.a)) := by rw [← ewa]; exact hO.wl
    have hv := hO.wr (x := v) (show v ∈ (ws0.take i).map synW ++ ws0.drop i by rw [hvd]; simp)
    have hv2 := hv.1
    have hz3 := hv.2.2.2.2
    rw [hvd, cntU_cons]
    refine wv_s f95_4 rfl (fun _ => rfl) ?_
    refine wv_s f95_5 rfl (fun _ => rfl) ?_
    refine wv_getfield f95_6 (by assumption) (by rfl) ?_
    refine wv_lsize f95_9 (by assumption) (by omega) (by simp) (fun hs => ?_)
    rw [List.length_map] at hs ⊢
    refine wv_cF_ge f95_12 (by omega) (by omega) (by omega) ?_
    refine wv_s f95_15 rfl (fun _ => rfl) ?_
    refine wv_getfield f95_16 (by assumption) (by rfl) ?_
    refine wv_s f95_19 rfl (fun _ => rfl) ?_
    refine wv_lget f95_20 (by assumption) (by first | rfl | omega) (hv1 _) (by omega) (by simp) ?_
    refine wv_cast f95_23 (by assumption) ?_
    refine wv_st3 f95_26 rfl (fun _ _ => rfl) ?_
    refine wv_s f95_27 rfl (fun _ => rfl) ?_
    refine wv_getfield f95_28 (by assumption) (by rfl) ?_
    refine wv_icon f95_31 ?_
    refine wv_cX_ne f95_32 (by omega) (by omega) (fun hb => ?_) (fun hb => ?_)
    · have eN : (ws0.take i).map synW ++ ws0.drop i = (ws0.take (i + 1)).map synW ++ ws0.drop (i + 1) := by
        rw [hvt, List.map_append, List.append_assoc, hvd, List.map_cons, List.map_nil, show synW v = v from if_neg (by omega)]
        rfl
      rw [eN] at hO
      refine wv_inc2 f95_43 ?_
      refine wv_s (pc' := 4) f95_46 rfl (fun _ => rfl) ?_
      refine (c95_l k (i + 1) n A _ (by omega) (by omega) hO).up (Nat.le_refl _) (fun v A' h => ?_)
      rw [if_neg (by omega), Nat.zero_add]
      exact h
    · have hO1 := hO.putWr (l1 := (ws0.take i).map synW) (l2 := ws0.drop (i + 1)) (x := v) (x' := ((v.a, v.g, v.c, v.s, 2) : WrD)) (by rw [hvd]) rfl ⟨rfl, rfl, rfl, by show (2 : Nat) ≤ 3; omega⟩
      have eN : (ws0.take i).map synW ++ ((v.a, v.g, v.c, v.s, 2) : WrD) :: ws0.drop (i + 1) = (ws0.take (i + 1)).map synW ++ ws0.drop (i + 1) := by
        rw [hvt, List.map_append, List.append_assoc, List.map_cons, List.map_nil, show synW v = (v.a, v.g, v.c, v.s, 2) from if_pos (by omega)]
        rfl
      rw [eN] at hO1
      refine wv_s f95_35 rfl (fun _ => rfl) ?_
      refine wv_icon f95_36 ?_
      refine wv_putfield f95_37 (hv2) (by simp) (by rfl) ?_
      show Wv sc 3 95 40 _ _ (aPut A v.a (cWr ((v.a, v.g, v.c, v.s, 2) : WrD))) _
      refine wv_inc1 f95_40 ?_
      refine wv_inc2 f95_43 ?_
      refine wv_s (pc' := 4) f95_46 rfl (fun _ => rfl) ?_
      refine (c95_l k (i + 1) (n + 1) _ _ (by omega) (by omega) hO1).up (Nat.le_refl _) (fun v A' h => ?_)
      rw [if_pos (by omega), ← Nat.add_assoc]
      exact h
theorem c95 (hO : okO A F L o f w s c b fi y me ct) : Wc sc 3 95 [.ref o] A (fun v A' => v = .inl (some (.int (zI (cntU w.2.2 : Nat)))) ∧ okO A' F L o f (w.1, w.2.1, w.2.2.map synW) s c b fi y me ct ∧ A'.2 = A.2) := by
  show Wv sc 3 95 0 [some (.ref o), none, none, none] [] A _
  refine wv_icon f95_0 ?_
  refine wv_st1 f95_1 rfl (fun _ _ => rfl) ?_
  refine wv_icon f95_2 ?_
  refine wv_st2 f95_3 rfl (fun _ _ => rfl) ?_
  refine (c95_l (ws0 := w.2.2) w.2.2.length 0 0 A none (by omega) (by omega) hO).up (Nat.le_refl _) (fun v A' h => ?_)
  rw [List.drop_zero, Nat.zero_add] at h
  exact h
theorem sub_obC {f : Ls FamD} {w : Ls WrD} {c c' : Ls CuD} {me me' : Option MeD} (h1 : (meC me').Sublist (meC me)) (h2 : (c'.2.2.map cuP).Sublist (c.2.2.map cuP)) : (obT f w c' me' L).Sublist (obT f w c me L) :=
  h1.append (h2.append (List.Sublist.refl _))
theorem okO.putMe0 (h : okO A F L o f w s c b fi y me ct) : okO (aPut A o (cOb f w s c b fi y none ct)) F L o f w s c b fi y none ct := by
  have h1 := h.1.setAt 0 rfl (kc := 0) (ks := 0) (c := cOb f w s c b fi y none ct)
  refine ⟨h1.sub ?_, h.2.1, h.2.2.1, h.2.2.2.1, h.2.2.2.2.1, h.2.2.2.2.2.1, h.2.2.2.2.2.2.1, (fun m hm => by cases hm), h.2.2.2.2.2.2.2.2⟩
  have h9 := sub_obC (L := L) (f := f) (w := w) (c := c) (c' := c) (me := me) (me' := none) (List.nil_sublist _) (List.Sublist.refl _)
  exact .cons_cons _ (.cons_cons _ (.cons_cons _ (.cons_cons _ (.cons_cons _ (.cons_cons _ (.cons_cons _ (.cons_cons _ h9)))))))
theorem okO.clS (h : okO A F L o f w s c b fi y me ct) : okO (aPut A s.1 (vL s.2.1 [])) F L o f w (s.1, s.2.1, []) c b fi y me ct :=
  ⟨h.1.setAt 3 rfl (kc := 0) (ks := 0) (c := vL s.2.1 []), h.2.1, h.2.2.1, (fun x hx => by cases hx), h.2.2.2.2⟩
theorem okO.clC (h : okO A F L o f w s c b fi y me ct) : okO (aPut A c.1 (vL c.2.1 [])) F L o f w s (c.1, c.2.1, []) b fi y me ct := by
  have h1 := h.1.setAt 4 rfl (kc := 0) (ks := 0) (c := vL c.2.1 [])
  refine ⟨h1.sub ?_, h.2.1, h.2.2.1, h.2.2.2.1, (fun x hx => by cases hx), h.2.2.2.2.2⟩
  have h9 := sub_obC (L := L) (f := f) (w := w) (c := c) (c' := (c.1, c.2.1, [])) (me := me) (me' := me) (List.Sublist.refl _) (List.nil_sublist _)
  exact .cons_cons _ (.cons_cons _ (.cons_cons _ (.cons_cons _ (.cons_cons _ (.cons_cons _ (.cons_cons _ (.cons_cons _ h9)))))))
theorem c53 (hO : okO A F L o f w s c b fi y me ct) : Wc sc 1 53 [.ref o] A (fun v A' => v = .inl none ∧ okO A' F L o f w (s.1, s.2.1, []) (c.1, c.2.1, []) b fi y none ct ∧ A'.2 = A.2) := by
  show Wv sc 1 53 0 [some (.ref o)] [] A _
  have h1 := hO.ob
  have hO1 := hO.putMe0
  have h2 := hO1.ob
  have h3 := hO1.sl
  refine wv_s f53_0 rfl (fun _ => rfl) ?_
  refine wv_s f53_1 rfl (fun _ => rfl) ?_
  refine wv_putfield f53_2 (by assumption) (by simp) (by rfl) ?_
  show Wv sc 1 53 5 _ _ (aPut A o (cOb f w s c b fi y none ct)) _
  have hO2 := hO1.clS
  have h4 := hO2.ob
  have h5 := hO2.cl
  refine wv_s f53_5 rfl (fun _ => rfl) ?_
  refine wv_getfield f53_6 (h2) (by rfl) ?_
  refine wv_lclear f53_9 (h3) (by omega) (by simp) ?_
  have hO3 := hO2.clC
  refine wv_s f53_12 rfl (fun _ => rfl) ?_
  refine wv_getfield f53_13 (h4) (by rfl) ?_
  refine wv_lclear f53_16 (h5) (by omega) (by simp) ?_
  exact wv_vret f53_19 (by decide +kernel) (⟨rfl, hO3, rfl⟩)
theorem c34_l {ws0 : List WrD} {wa wc : Nat} {Q : gO → gA → Prop} : ∀ (k i n : Nat) (A : gA) (x3 : Option Value), i + k = ws0.length → n ≤ i → okO A F L o f (wa, wc, (ws0.take i).map crW ++ ws0.drop i) s c b fi y me ct →
    (∀ A' x2 x3, okO A' F L o f (wa, wc, ws0.map crW) s c b fi y me ct → A'.2 = A.2 → Wv sc 3 34 49 [some (.ref o), some (.int (zI (n + cntU (ws0.drop i) : Nat))), x2, x3] [] A' Q) →
    Wv sc 3 34 4 [some (.ref o), some (.int (zI n)), some (.int (zI i)), x3] [] A Q
  | 0, i, n, A, x3, hik, hn, hO, hQ => by
    have h1 := hO.ob
    have e1 : ws0.take i = ws0 := List.take_of_length_le (by omega)
    have e2 : ws0.drop i = [] := List.drop_of_length_le (by omega)
    rw [e1, e2, List.append_nil] at hO
    rw [e2] at hQ
    have h2 : A.1 wa = some (vL wc ((ws0.map crW).map WrD.a)) := hO.wl
    have hQ := hQ A (some (.int (zI i))) x3 hO rfl
    refine wv_s f34_4 rfl (fun _ => rfl) ?_
    refine wv_s f34_5 rfl (fun _ => rfl) ?_
    refine wv_getfield f34_6 (by assumption) (by rfl) ?_
    refine wv_lsize f34_9 (by assumption) (by omega) (by simp) (fun hs => ?_)
    rw [List.length_map, List.length_map] at hs ⊢
    refine wv_cT_ge f34_12 (by omega) (by omega) (by omega) ?_
    exact hQ
  | k + 1, i, n, A, x3, hik, hn, hO, hQ => by
    have h1 := hO.ob
    obtain ⟨v, hvm, hv0, hv1, hvd, hvt⟩ := at_i (show i < ws0.length by omega)
    have ewa : ((ws0.take i).map crW ++ ws0.drop i).map WrD.a = ws0.map WrD.a := by
      rw [List.map_append, List.map_map, show WrD.a ∘ crW = WrD.a from funext (fun w => crW_a), ← List.map_append, List.take_append_drop]
    have h2 : A.1 wa = some (vL wc (ws0.map WrD.a)) := by rw [← ewa]; exact hO.wl
    have hv := hO.wr (x := v) (show v ∈ (ws0.take i).map crW ++ ws0.drop i by rw [hvd]; simp)
    have hv2 := hv.1
    have hz3 := hv.2.2.2.2
    rw [hvd, cntU_cons] at hQ
    refine wv_s f34_4 rfl (fun _ => rfl) ?_
    refine wv_s f34_5 rfl (fun _ => rfl) ?_
    refine wv_getfield f34_6 (by assumption) (by rfl) ?_
    refine wv_lsize f34_9 (by assumption) (by omega) (by simp) (fun hs => ?_)
    rw [List.length_map] at hs ⊢
    refine wv_cF_ge f34_12 (by omega) (by omega) (by omega) ?_
    refine wv_s f34_15 rfl (fun _ => rfl) ?_
    refine wv_getfield f34_16 (by assumption) (by rfl) ?_
    refine wv_s f34_19 rfl (fun _ => rfl) ?_
    refine wv_lget f34_20 (by assumption) (by first | rfl | omega) (hv1 _) (by omega) (by simp) ?_
    refine wv_cast f34_23 (by assumption) ?_
    refine wv_st3 f34_26 rfl (fun _ _ => rfl) ?_
    refine wv_s f34_27 rfl (fun _ => rfl) ?_
    refine wv_getfield f34_28 (by assumption) (by rfl) ?_
    refine wv_icon f34_31 ?_
    refine wv_cX_ne f34_32 (by omega) (by omega) (fun hb => ?_) (fun hb => ?_)
    · have eN : (ws0.take i).map crW ++ ws0.drop i = (ws0.take (i + 1)).map crW ++ ws0.drop (i + 1) := by
        rw [hvt, List.map_append, List.append_assoc, hvd, List.map_cons, List.map_nil, show crW v = v from if_neg (by omega)]
        rfl
      rw [eN] at hO
      rw [if_neg (by omega), Nat.zero_add] at hQ
      refine wv_inc2 f34_43 ?_
      refine wv_s (pc' := 4) f34_46 rfl (fun _ => rfl) ?_
      exact c34_l k (i + 1) n A _ (by omega) (by omega) hO hQ
    · have hO1 := hO.putWr (l1 := (ws0.take i).map crW) (l2 := ws0.drop (i + 1)) (x := v) (x' := ((v.a, v.g, v.c, v.s, 0) : WrD)) (by rw [hvd]) rfl ⟨rfl, rfl, rfl, by show (0 : Nat) ≤ 3; omega⟩
      have eN : (ws0.take i).map crW ++ ((v.a, v.g, v.c, v.s, 0) : WrD) :: ws0.drop (i + 1) = (ws0.take (i + 1)).map crW ++ ws0.drop (i + 1) := by
        rw [hvt, List.map_append, List.append_assoc, List.map_cons, List.map_nil, show crW v = (v.a, v.g, v.c, v.s, 0) from if_pos (by omega)]
        rfl
      rw [eN] at hO1
      rw [if_pos (by omega), ← Nat.add_assoc] at hQ
      refine wv_s f34_35 rfl (fun _ => rfl) ?_
      refine wv_icon f34_36 ?_
      refine wv_putfield f34_37 (hv2) (by simp) (by rfl) ?_
      show Wv sc 3 34 40 _ _ (aPut A v.a (cWr ((v.a, v.g, v.c, v.s, 0) : WrD))) _
      refine wv_inc1 f34_40 ?_
      refine wv_inc2 f34_43 ?_
      refine wv_s (pc' := 4) f34_46 rfl (fun _ => rfl) ?_
      exact c34_l k (i + 1) (n + 1) _ _ (by omega) (by omega) hO1 hQ
theorem c34 (hO : okO A F L o f w s c b fi y me ct) : Wc sc 3 34 [.ref o] A (fun v A' => v = .inl (some (.int (zI (cntU w.2.2 : Nat)))) ∧ okO A' F L o f (w.1, w.2.1, w.2.2.map crW) (s.1, s.2.1, []) (c.1, c.2.1, []) b fi y none ct ∧ A'.2 = A.2) := by
  show Wv sc 3 34 0 [some (.ref o), none, none, none] [] A _
  refine wv_icon f34_0 ?_
  refine wv_st1 f34_1 rfl (fun _ _ => rfl) ?_
  refine wv_icon f34_2 ?_
  refine wv_st2 f34_3 rfl (fun _ _ => rfl) ?_
  refine c34_l (ws0 := w.2.2) w.2.2.length 0 0 A none (by omega) (by omega) hO (fun A1 x2 x3 q1 q2 => ?_)
  rw [List.drop_zero, Nat.zero_add]
  have h1 := q1.ob
  refine wv_s f34_49 rfl (fun _ => rfl) ?_
  refine wv_effV f34_50 (by decide) (by simp) (by simp) (by decide +kernel) (by assumption) (by rfl) (by decide +kernel) rfl (c53 q1) (by omega) (fun A2 hA2 => ?_)
  refine wv_s f34_53 rfl (fun _ => rfl) ?_
  exact wv_iret f34_54 (by rfl) (⟨rfl, hA2.1, hA2.2.trans q2⟩)
theorem c51 {f1 f2 : List FamD} {l0 : LvD} {lt : List LvD} (hO : okO A F L o f w s c b fi y me ct) (hf : f.2.2 = f1 ++ g :: f2) (hg : g.lv = l0 :: lt) (hlen : w.2.2.length < 2000) (hid : ct.2.2.1 + 1 < 1000000) (hvs : ct.2.2.2.2.1 + 1 ≤ 1000000) (hl0 : l0.rs.length < 2000) (hn : 0 < cntM g.g w.2.2) :
    Wc sc 9 51 [.ref o, .int (zI f1.length)] A (fun v A' => ∃ v9, v = .inl (some v9) ∧ ∃ r F' ct' c', v9 = .int (zI r.id) ∧ r.id = ct.2.2.1 + 1 ∧ r.mg = false ∧ r.rows = flR g.g [] w.2.2 ∧ r.spans = flS g.g w.2.2 ∧ Ext F F' ∧ okRun F' r ∧ ctK ct' = ctKs ct 1 1 ∧ okO A' F' L o (f.1, f.2.1, f1 ++ setLv g ((l0.a, l0.mu, l0.la, c', r :: l0.rs) :: lt) :: f2) (w.1, w.2.1, w.2.2.map (flW g.g)) s c b fi y me ct' ∧
      5 * A'.2.1 ≤ 5 * A.2.1 + 60 + 4 * w.2.2.length + 2 * l0.rs.length ∧ A'.2.2 ≤ A.2.2 + 150 + 24 * w.2.2.length + 8 * l0.rs.length) := by
  show Wv sc 9 51 0 [some (.ref o), some (.int (zI f1.length)), none] [] A _
  have h1 := hO.ob
  have hgm : g ∈ f.2.2 := by rw [hf]; simp
  have hgi : f.2.2[f1.length]? = some g := by rw [hf]; simp
  have hcm := @cntM_le g.g w.2.2
  refine wv_s f51_0 rfl (fun _ => rfl) ?_
  refine wv_s f51_1 rfl (fun _ => rfl) ?_
  refine wv_valV f51_2 (by decide) (by simp) (by simp) (by decide +kernel) (by assumption) (by rfl) (by decide +kernel) rfl (c47 hO hgi) (by omega) ?_
  refine wv_st2 f51_5 rfl (fun _ _ => rfl) ?_
  refine wv_s f51_6 rfl (fun _ => rfl) ?_
  refine wv_s f51_7 rfl (fun _ => rfl) ?_
  refine wv_valV f51_8 (by decide) (by simp) (by simp) (by decide +kernel) (by assumption) (by rfl) (by decide +kernel) rfl (c32 hO hgm) (by omega) ?_
  refine wv_zT_ne f51_11 (by omega) (by omega) ?_
  refine wv_s f51_25 rfl (fun _ => rfl) ?_
  refine wv_s f51_26 rfl (fun _ => rfl) ?_
  refine wv_resV f51_27 (by decide) (by simp) (by simp) (by decide +kernel) h1 (by rfl) (by decide +kernel) rfl (c52 hO hf hg hlen hid hvs hl0) (by omega) (fun v A1 hv => ?_)
  obtain ⟨r, F', ct', c', rfl, hv⟩ := hv
  exact wv_iret f51_30 (by rfl) (⟨_, rfl, r, F', ct', c', rfl, hv⟩)
theorem c51_t {f1 f2 : List FamD} (hO : okO A F L o f w s c b fi y me ct) (hf : f.2.2 = f1 ++ g :: f2) (hn : cntM g.g w.2.2 = 0) : Wc sc 9 51 [.ref o, .int (zI f1.length)] A (fun v A' => v = .inr 2 ∧ A' = aThr A) := by
  show Wv sc 9 51 0 [some (.ref o), some (.int (zI f1.length)), none] [] A _
  have h1 := hO.ob
  have hgm : g ∈ f.2.2 := by rw [hf]; simp
  have hgi : f.2.2[f1.length]? = some g := by rw [hf]; simp
  refine wv_s f51_0 rfl (fun _ => rfl) ?_
  refine wv_s f51_1 rfl (fun _ => rfl) ?_
  refine wv_valV f51_2 (by decide) (by simp) (by simp) (by decide +kernel) (by assumption) (by rfl) (by decide +kernel) rfl (c47 hO hgi) (by omega) ?_
  refine wv_st2 f51_5 rfl (fun _ _ => rfl) ?_
  refine wv_s f51_6 rfl (fun _ => rfl) ?_
  refine wv_s f51_7 rfl (fun _ => rfl) ?_
  refine wv_valV f51_8 (by decide) (by simp) (by simp) (by decide +kernel) (by assumption) (by rfl) (by decide +kernel) rfl (c32 hO hgm) (by omega) ?_
  rw [hn]
  refine wv_zF_ne f51_11 (by omega) (by omega) ?_
  exact wv_throw f51_14 (by decide) (by simp) (by decide +kernel) (⟨rfl, rfl⟩)
/-- snapshots -/
theorem c93 (hO : okO A F L o f w s c b fi y me ct) (h6 : s.2.2.length < 6) (hn : ct.1 + 1 ≤ 1000000) (hw : w.2.2.length ≤ 1000000) :
    Wc sc 7 93 [.ref o] A (fun v A' => v = .inl (some (.int (zI ct.1))) ∧ ∃ q F' c' ct', Ext F F' ∧ ct' = (ct.1 + 1, ct.2) ∧ okO A' F' L o f w (s.1, c', s.2.2 ++ [(q, ct.1, w.2.2.length)]) c b fi y me ct' ∧ A'.2.1 ≤ A.2.1 + 6 ∧ A'.2.2 ≤ A.2.2 + 90) := by
  show Wv sc 7 93 0 [some (.ref o), none] [] A _
  have h1 := hO.ob
  have h2 := hO.sl
  have h3 := hO.wl
  refine wv_s f93_0 rfl (fun _ => rfl) ?_
  refine wv_getfield f93_1 (h1) (by rfl) ?_
  refine wv_lsize f93_4 (h2) (by omega) (by simp) (fun hs => ?_)
  rw [List.length_map] at hs ⊢
  refine wv_bip f93_7 (by decide) ?_
  refine wv_cT_lt f93_9 (by omega) (by omega) (by omega) ?_
  refine wv_newZ f93_22 (by decide) (by decide) (zs := [.int 0, .int 0]) (by rfl) (fun q hq => ?_)
  have hO1 := okO.push hO.2 (hO.1.new (n := gN 9) (c := vO 9 [.int 0, .int 0]) hq)
  have h4 := hO1.ob
  have h5 := hO1.wl
  have h6q := hO1.atL
  refine wv_s f93_25 rfl (fun _ => rfl) ?_
  refine wv_s f93_26 rfl (fun _ => rfl) ?_
  refine wv_getfield f93_27 (h4) (by rfl) ?_
  refine wv_s f93_30 rfl (fun _ => rfl) ?_
  refine wv_getfield f93_31 (h4) (by rfl) ?_
  refine wv_lsize f93_34 h5 (by omega) (by simp) (fun hs2 => ?_)
  rw [List.length_map] at hs2 ⊢
  refine wv_effI f93_37 (by decide) (by simp) (by simp) (by decide +kernel) (by rfl) (c149 (id := ct.1) (mo := w.2.2.length) h6q) (by omega) (fun A2 hA2 => ?_)
  have hO2 := hO1.lsL (c' := 0) (kc := 0) (ks := 0) (v' := cSn (q, ct.1, w.2.2.length))
  rw [show aLst (aNew A q (vO 9 [.int 0, .int 0]) (gN 9)) q (cSn (q, ct.1, w.2.2.length)) 0 0 = A2 from hA2.symm] at hO2
  obtain ⟨hO3, e1⟩ := hO2.frz
  have h7 := hO3.ob
  have hct : okCt (ct.1 + 1, ct.2) := okCt_of hO.ctc hn hO.ctc.2.1 rfl
  have hO4 := hO3.putCt hct
  refine wv_st1 f93_40 rfl (fun _ _ => rfl) ?_
  refine wv_s f93_41 rfl (fun _ => rfl) ?_
  refine wv_s f93_42 rfl (fun _ => rfl) ?_
  refine wv_getfield f93_43 (h7) (by rfl) ?_
  refine wv_icon f93_46 ?_
  refine wv_iadd f93_47 ?_
  refine wv_putfield f93_48 (h7) (by simp) (by rfl) ?_
  show Wv sc 7 93 51 _ _ (aPut A2 o (cOb f w s c b fi y me (ct.1 + 1, ct.2))) _
  have h8 := hO4.ob
  have h9 := hO4.sl
  have h10 : (aPut A2 o (cOb f w s c b fi y me (ct.1 + 1, ct.2))).1 q = some (vO 9 [.int (zI ct.1), .int (zI w.2.2.length)]) := hO4.1.1 _ _ fz_self
  have hll : (s.2.2.map SnD.a).length = s.2.2.length := List.length_map _
  refine wv_s f93_51 rfl (fun _ => rfl) ?_
  refine wv_getfield f93_52 (h8) (by rfl) ?_
  refine wv_s f93_55 rfl (fun _ => rfl) ?_
  refine wv_ladd f93_56 h9 h10 (by decide +kernel) (by omega) (by omega) (by simp) (fun c1 k1 s1 hlg => ?_)
  rw [hll] at hlg
  have hlf := lg_flat hlg
  have hO5 : okO (aLst (aPut A2 o (cOb f w s c b fi y me (ct.1 + 1, ct.2))) s.1 (vL c1 ((s.2.2 ++ [(q, ct.1, w.2.2.length)]).map SnD.a)) k1 s1) (fz F q (cSn (q, ct.1, w.2.2.length))) L o f w (s.1, c1, s.2.2 ++ [(q, ct.1, w.2.2.length)]) c b fi y me (ct.1 + 1, ct.2) := by
    refine ⟨hO4.1.setAt 3 rfl, hO4.2.1, hO4.2.2.1, fun x hx => ?_, hO4.2.2.2.2⟩
    rcases List.mem_append.mp hx with hx | hx
    · exact hO4.2.2.2.1 x hx
    · rw [List.mem_singleton.mp hx]
      exact ⟨fz_self, by show ct.1 ≤ 1000000; omega, hw⟩
  rw [List.map_append] at hO5
  have h11 := hO5.1.1 q _ fz_self
  have e9 : A2.2 = (A.2.1 + 1, A.2.2 + 2) := by rw [hA2]; rfl
  refine wv_s f93_59 rfl (fun _ => rfl) ?_
  refine wv_s f93_60 rfl (fun _ => rfl) ?_
  refine wv_getfield f93_61 (h11) (by rfl) ?_
  exact wv_iret f93_64 (by rfl) (⟨rfl, q, _, c1, _, e1, rfl, hO5, by show A2.2.1 + k1 ≤ _; rw [e9]; simp only; omega, by show A2.2.2 + s1 ≤ _; rw [e9]; simp only; omega⟩)
theorem c93_t (hO : okO A F L o f w s c b fi y me ct) (h6 : 6 ≤ s.2.2.length) : Wc sc 7 93 [.ref o] A (fun v A' => v = .inr 2 ∧ A' = aThr A) := by
  show Wv sc 7 93 0 [some (.ref o), none] [] A _
  have h1 := hO.ob
  have h2 := hO.sl
  refine wv_s f93_0 rfl (fun _ => rfl) ?_
  refine wv_getfield f93_1 (h1) (by rfl) ?_
  refine wv_lsize f93_4 (h2) (by omega) (by simp) (fun hs => ?_)
  rw [List.length_map] at hs ⊢
  refine wv_bip f93_7 (by decide) ?_
  refine wv_cF_lt f93_9 (by omega) (by omega) (by omega) ?_
  exact wv_throw f93_12 (by decide) (by simp) (by decide +kernel) (⟨rfl, rfl⟩)
theorem c87 (hO : okO A F L o f w s c b fi y me ct) (hx : 0 ≤ x) (hx2 : x ≤ 1000000) {k : Nat} {v : SnD} (hk : plI x 0 (s.2.2.map SnD.i) = k) (hv : s.2.2[k]? = some v) : Wc sc 4 87 [.ref o, .int (zI x)] A (fun r A' => r = .inl (some (.int (zI (s.2.2.eraseIdx k).length))) ∧ okO A' F L o f w (s.1, s.2.1, s.2.2.eraseIdx k) c b fi y me ct ∧ A'.2 = A.2) := by
  show Wv sc 4 87 0 [some (.ref o), some (.int (zI x)), none] [] A _
  have h1 := hO.ob
  have h2 := hO.sl
  have hkl := (List.getElem?_eq_some_iff.mp hv).1
  refine wv_cap h2 (fun n1 n2 => ?_)
  rw [List.length_map] at n2
  refine wv_s f87_0 rfl (fun _ => rfl) ?_
  refine wv_s f87_1 rfl (fun _ => rfl) ?_
  refine wv_valV f87_2 (by decide) (by simp) (by simp) (by decide +kernel) (by assumption) (by rfl) (by decide +kernel) rfl (c83 hO (by omega)) (by omega) ?_
  refine wv_st2 f87_5 rfl (fun _ _ => rfl) ?_
  rw [hk]
  refine wv_s f87_6 rfl (fun _ => rfl) ?_
  refine wv_zF_lt f87_7 (by omega) (by omega) ?_
  refine wv_s f87_10 rfl (fun _ => rfl) ?_
  refine wv_s f87_11 rfl (fun _ => rfl) ?_
  refine wv_getfield f87_12 (by assumption) (by rfl) ?_
  refine wv_lsize f87_15 (by assumption) (by omega) (by simp) (fun hs => ?_)
  rw [List.length_map] at hs ⊢
  refine wv_cT_lt f87_18 (by omega) (by omega) (by omega) ?_
  refine wv_s f87_31 rfl (fun _ => rfl) ?_
  refine wv_getfield f87_32 (by assumption) (by rfl) ?_
  refine wv_s f87_35 rfl (fun _ => rfl) ?_
  refine wv_lrem (j := k) f87_36 h2 (by omega) (show (s.2.2.map SnD.a)[k]? = some v.a by rw [List.getElem?_map, hv]; rfl) (by omega) (by simp) ?_
  have ee : (s.2.2.map SnD.a).eraseIdx k = (s.2.2.eraseIdx k).map SnD.a := er_map
  rw [ee]
  have hO1 : okO (aPut A s.1 (vL s.2.1 ((s.2.2.eraseIdx k).map SnD.a))) F L o f w (s.1, s.2.1, s.2.2.eraseIdx k) c b fi y me ct :=
    ⟨hO.1.setAt 3 rfl (kc := 0) (ks := 0) (c := vL s.2.1 ((s.2.2.eraseIdx k).map SnD.a)), hO.2.1, hO.2.2.1, (fun x hx => hO.2.2.2.1 x (List.mem_of_mem_eraseIdx hx)), hO.2.2.2.2⟩
  have h3 := hO1.ob
  have h4 := hO1.sl
  refine wv_s f87_39 rfl (fun _ => rfl) ?_
  refine wv_s f87_40 rfl (fun _ => rfl) ?_
  refine wv_getfield f87_41 (by assumption) (by rfl) ?_
  refine wv_lsize f87_44 h4 (by omega) (by simp) (fun hs2 => ?_)
  rw [List.length_map]
  exact wv_iret f87_47 (by rfl) (⟨rfl, hO1, rfl⟩)
theorem c87_t (hO : okO A F L o f w s c b fi y me ct) (hx : 0 ≤ x) (hx2 : x ≤ 1000000) (hk : plI x 0 (s.2.2.map SnD.i) = -1) : Wc sc 4 87 [.ref o, .int (zI x)] A (fun r A' => r = .inr 0 ∧ A' = aThr A) := by
  show Wv sc 4 87 0 [some (.ref o), some (.int (zI x)), none] [] A _
  have h1 := hO.ob
  refine wv_s f87_0 rfl (fun _ => rfl) ?_
  refine wv_s f87_1 rfl (fun _ => rfl) ?_
  refine wv_valV f87_2 (by decide) (by simp) (by simp) (by decide +kernel) (by assumption) (by rfl) (by decide +kernel) rfl (c83 hO (by omega)) (by omega) ?_
  refine wv_st2 f87_5 rfl (fun _ _ => rfl) ?_
  rw [hk]
  refine wv_s f87_6 rfl (fun _ => rfl) ?_
  refine wv_zT_lt f87_7 (by omega) (by omega) ?_
  exact wv_throw f87_21 (by decide) (by simp) (by decide +kernel) (⟨rfl, rfl⟩)
theorem c94 {mm : MeD} (hO : okO A F L o f w s c b fi y (some mm) ct) : Wc sc 0 94 [.ref o] A (fun v A' => v = .inl (some (.int (zI mm.dn))) ∧ okO A' F L o f w s c b fi y none ct ∧ A'.2 = A.2) := by
  show Wv sc 0 94 0 [some (.ref o), none] [] A _
  have h1 := hO.ob
  have hO1 := hO.putMe0
  have hm := hO.me1.1
  have hne : mm.a ≠ o := ne_oo hm h1 (by decide)
  have hm2 : (aPut A o (cOb f w s c b fi y none ct)).1 mm.a = some (cMe mm) := by rw [aPut_ne hne]; exact hm
  refine wv_s f94_0 rfl (fun _ => rfl) ?_
  refine wv_getfield f94_1 (h1) (by rfl) ?_
  refine wv_st1 f94_4 rfl (fun _ _ => rfl) ?_
  refine wv_s f94_5 rfl (fun _ => rfl) ?_
  refine wv_s (pc' := 20) f94_6 rfl (fun _ => rfl) ?_
  refine wv_s f94_20 rfl (fun _ => rfl) ?_
  refine wv_s f94_21 rfl (fun _ => rfl) ?_
  refine wv_putfield f94_22 (h1) (by simp) (by rfl) ?_
  refine wv_s f94_25 rfl (fun _ => rfl) ?_
  refine wv_getfield f94_26 (hm2) (by rfl) ?_
  exact wv_iret f94_29 (by rfl) (⟨rfl, hO1, rfl⟩)
theorem c94_t (hO : okO A F L o f w s c b fi y none ct) : Wc sc 0 94 [.ref o] A (fun v A' => v = .inr 2 ∧ A' = aThr A) := by
  show Wv sc 0 94 0 [some (.ref o), none] [] A _
  have h1 := hO.ob
  refine wv_s f94_0 rfl (fun _ => rfl) ?_
  refine wv_getfield f94_1 (h1) (by rfl) ?_
  refine wv_st1 f94_4 rfl (fun _ _ => rfl) ?_
  refine wv_s f94_5 rfl (fun _ => rfl) ?_
  refine wv_s (pc' := 9) f94_6 rfl (fun _ => rfl) ?_
  exact wv_throw f94_9 (by decide) (by simp) (by decide +kernel) (⟨rfl, rfl⟩)
end SY
