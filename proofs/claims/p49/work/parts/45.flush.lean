/-! FLUSHING, writing -/
theorem flW_a {g : Nat} {w : WrD} : (flW g w).a = w.a := by
  unfold flW
  split <;> rfl
theorem flW_t {g : Nat} {w : WrD} (h : w.memOf g = true) : flW g w = (w.a, w.g, w.c, w.s, 3) := if_pos h
theorem flW_f {g : Nat} {w : WrD} (h : w.memOf g = false) : flW g w = w := if_neg (by rw [h]; decide)
theorem flW_map {g : Nat} {l : List WrD} : (l.map (flW g)).map WrD.a = l.map WrD.a := by
  rw [List.map_map]
  exact List.map_congr_left (fun w _ => flW_a)
theorem flR_snoc {g : Nat} {l : List WrD} {acc : List ChD} {v : WrD} : flR g acc (l ++ [v]) = if v.memOf g = true ∧ v.c.k ≠ 3 then insR v.c (flR g acc l) else flR g acc l := by
  unfold flR
  rw [List.foldl_append]
  rfl
theorem flS_snoc {g : Nat} {l : List WrD} {v : WrD} : flS g (l ++ [v]) = if v.memOf g = true ∧ v.c.k = 3 then flS g l ++ [v.c] else flS g l := by
  unfold flS
  rw [List.filter_append, List.map_append]
  by_cases h1 : v.memOf g = true
  · by_cases h2 : v.c.k = 3
    · rw [if_pos ⟨h1, h2⟩, List.filter_cons_of_pos (by simp [h1, h2])]
      rfl
    · rw [if_neg (fun w => h2 w.2), List.filter_cons_of_neg (by simp [h2])]
      simp
  · rw [if_neg (fun w => h1 w.1), List.filter_cons_of_neg (by simp [h1])]
    simp
theorem flS_len {g : Nat} {l : List WrD} : (flS g l).length ≤ l.length := by
  unfold flS
  rw [List.length_map]
  exact List.length_filter_le _ _
section FL
variable {sc : gSc} {d : Nat} {A : gA} {F : Nat → Option vC} {L : List (Nat × vC)} {o : Nat} {f : Ls FamD} {w : Ls WrD} {s : Ls SnD} {c : Ls CuD} {b : Ls BkD} {fi : Nat × FiD} {y : Ls ChD} {me : Option MeD} {ct : CtD} {g : FamD} {l : LvD} {r : RunD} {i j m : Nat} {x z : Int}
theorem flR_ok {V : Nat → Option vC} {g : Nat} : ∀ {l : List WrD} {acc : List ChD}, (∀ w, w ∈ l → okCh V w.c) → (∀ c, c ∈ acc → okCh V c) → ∀ c, c ∈ flR g acc l → okCh V c
  | [], acc, h1, h2, c, hc => h2 c hc
  | w :: l, acc, h1, h2, c, hc => by
    refine flR_ok (l := l) (acc := if w.memOf g = true ∧ w.c.k ≠ 3 then insR w.c acc else acc) (fun v hv => h1 v (List.mem_cons_of_mem _ hv)) (fun z hz => ?_) c hc
    split at hz
    · rcases insR_mem.mp hz with rfl | hz
      · exact h1 w (List.mem_cons_self ..)
      · exact h2 z hz
    · exact h2 z hz
theorem c52_l {Q : gO → gA → Prop} {ws0 : List WrD} {ra sa wa wc : Nat} (hg : g ∈ f.2.2) (hlen : ws0.length < 2000) : ∀ (k i : Nat) (A : gA) (rc sc1 : Nat) (rows spans : List ChD) (x5 : Option Value), i + k = ws0.length → rows = flR g.g [] (ws0.take i) → spans = flS g.g (ws0.take i) → okO A F ((ra, vL rc (rows.map ChD.a)) :: (sa, vL sc1 (spans.map ChD.a)) :: L) o f (wa, wc, (ws0.take i).map (flW g.g) ++ ws0.drop i) s c b fi y me ct → (∀ x, x ∈ ws0 → okCh F x.c) → rc ≤ 10 + 2 * i → sc1 ≤ 10 + 2 * i →
    (∀ A' rc' sc' x5, okO A' F ((ra, vL rc' ((flR g.g [] ws0).map ChD.a)) :: (sa, vL sc' ((flS g.g ws0).map ChD.a)) :: L) o f (wa, wc, ws0.map (flW g.g)) s c b fi y me ct → 5 * A'.2.1 + (rc + sc1) ≤ 5 * A.2.1 + (rc' + sc') → A'.2.2 + 4 * (rc + sc1) ≤ A.2.2 + 4 * (rc' + sc') → rc' ≤ 10 + 2 * ws0.length → sc' ≤ 10 + 2 * ws0.length → Wv sc 8 52 100 [some (.ref o), some (.ref g.a), some (.ref ra), some (.ref sa), some (.int (zI ws0.length)), x5] [] A' Q) →
    Wv sc 8 52 19 [some (.ref o), some (.ref g.a), some (.ref ra), some (.ref sa), some (.int (zI i)), x5] [] A Q
  | 0, i, A, rc, sc1, rows, spans, x5, hik, hrw, hsp, hO, hck, hrc, hsc, hQ => by
    have h1 := hO.ob
    have h2 := hO.wl
    have e1 : ws0.take i = ws0 := List.take_of_length_le (by omega)
    have e2 : ws0.drop i = [] := List.drop_of_length_le (by omega)
    rw [e1, e2, List.append_nil] at hO h2 h1
    rw [e1] at hrw hsp
    subst hrw
    subst hsp
    have e3 : i = ws0.length := by omega
    have h2 : A.1 wa = some (vL wc (ws0.map WrD.a)) := by rw [← flW_map (g := g.g)]; exact h2
    have hQ := hQ A rc sc1 x5 hO (by omega) (by omega) (by omega) (by omega)
    refine wv_s f52_19 rfl (fun _ => rfl) ?_
    refine wv_s f52_21 rfl (fun _ => rfl) ?_
    refine wv_getfield f52_22 (by assumption) (by rfl) ?_
    refine wv_lsize f52_25 (by assumption) (by omega) (by simp) (fun hs => ?_)
    rw [List.length_map] at hs ⊢
    refine wv_cT_ge f52_28 (by omega) (by omega) (by omega) ?_
    rw [e3]
    exact hQ
  | k + 1, i, A, rc, sc1, rows, spans, x5, hik, hrw, hsp, hO, hck, hrc, hsc, hQ => by
    have h1 := hO.ob
    have hf := hO.fm hg
    have hf1 := hf.1
    obtain ⟨v, hvm, hv0, hv1, hvd, hvt⟩ := at_i (show i < ws0.length by omega)
    have ewa : ((ws0.take i).map (flW g.g) ++ ws0.drop i).map WrD.a = ws0.map WrD.a := by
      rw [List.map_append, flW_map, ← List.map_append, List.take_append_drop]
    have h2 : A.1 wa = some (vL wc (ws0.map WrD.a)) := by rw [← ewa]; exact hO.wl
    have hv := hO.wr (x := v) (show v ∈ (ws0.take i).map (flW g.g) ++ ws0.drop i by rw [hvd]; simp)
    have hv2 := hv.1
    have hvc := hv.2.1.1
    have hvk := hv.2.1.2.1
    have hra := hO.atL
    have hsa := hO.swL.atL
    have eW : v.memOf g.g = true → (ws0.take i).map (flW g.g) ++ ((v.a, v.g, v.c, v.s, 3) : WrD) :: ws0.drop (i + 1) = (ws0.take (i + 1)).map (flW g.g) ++ ws0.drop (i + 1) := by
      intro hb
      rw [hvt, List.map_append, List.append_assoc, List.map_cons, List.map_nil, flW_t hb]
      rfl
    have lrl := @flR_len g.g (ws0.take i) []
    have lsl := @flS_len g.g (ws0.take i)
    have ltk : (ws0.take i).length ≤ i := by rw [List.length_take]; omega
    rw [List.length_nil] at lrl
    refine wv_s f52_19 rfl (fun _ => rfl) ?_
    refine wv_s f52_21 rfl (fun _ => rfl) ?_
    refine wv_getfield f52_22 (by assumption) (by rfl) ?_
    refine wv_lsize f52_25 (by assumption) (by omega) (by simp) (fun hs => ?_)
    rw [List.length_map] at hs ⊢
    refine wv_cF_ge f52_28 (by omega) (by omega) (by omega) ?_
    refine wv_s f52_31 rfl (fun _ => rfl) ?_
    refine wv_getfield f52_32 (by assumption) (by rfl) ?_
    refine wv_s f52_35 rfl (fun _ => rfl) ?_
    refine wv_lget f52_37 (by assumption) (by first | rfl | omega) (hv1 _) (by omega) (by simp) ?_
    refine wv_cast f52_40 (by assumption) ?_
    refine wv_st5 f52_43 rfl (fun _ _ => rfl) ?_
    refine wv_s f52_45 rfl (fun _ => rfl) ?_
    refine wv_s f52_47 rfl (fun _ => rfl) ?_
    refine wv_valV f52_48 (by decide) (by simp) (by simp) (by decide +kernel) (by assumption) (by rfl) (by decide +kernel) rfl (c153 hv hf1 hf.2.2.2.1) (by omega) ?_
    refine wv_bX f52_51 (fun hb => ?_) (fun hb => ?_)
    · have eN : (ws0.take i).map (flW g.g) ++ ws0.drop i = (ws0.take (i + 1)).map (flW g.g) ++ ws0.drop (i + 1) := by
        rw [hvt, List.map_append, List.append_assoc, hvd, List.map_cons, List.map_nil, flW_f hb]
        rfl
      rw [eN] at hO
      refine wv_inc4 f52_94 ?_
      refine wv_s (pc' := 19) f52_97 rfl (fun _ => rfl) ?_
      exact c52_l hg hlen k (i + 1) A rc sc1 rows spans _ (by omega) (by rw [hvt, flR_snoc, if_neg (by rw [hb]; intro w; cases w.1)]; exact hrw) (by rw [hvt, flS_snoc, if_neg (by rw [hb]; intro w; cases w.1)]; exact hsp) hO hck (by omega) (by omega) hQ
    · have hO1 := hO.putWr (l1 := (ws0.take i).map (flW g.g)) (l2 := ws0.drop (i + 1)) (x := v) (x' := ((v.a, v.g, v.c, v.s, 3) : WrD)) (by rw [hvd]) rfl ⟨rfl, rfl, rfl, by show (3 : Nat) ≤ 3; omega⟩
      rw [eW hb] at hO1
      have hv3 : (aPut A v.a (cWr ((v.a, v.g, v.c, v.s, 3) : WrD))).1 v.a = some (vO 10 [.int (zI v.g), .ref v.c.a, .int (zI v.s), .int (zI (3 : Nat))]) := aPut_self
      have hvcA : okCh (aPut A v.a (cWr ((v.a, v.g, v.c, v.s, 3) : WrD))).1 v.c := (hck v hvm).ext hO1.1.1
      have hvc2 := hvcA.1
      refine wv_s f52_54 rfl (fun _ => rfl) ?_
      refine wv_icon f52_56 ?_
      refine wv_putfield f52_57 (hv2) (by simp) (by rfl) ?_
      show Wv sc 8 52 60 _ _ (aPut A v.a (cWr ((v.a, v.g, v.c, v.s, 3) : WrD))) _
      refine wv_s f52_60 rfl (fun _ => rfl) ?_
      refine wv_getfield f52_62 (hv3) (by rfl) ?_
      refine wv_getfield f52_65 (hvc2) (by rfl) ?_
      refine wv_icon f52_68 ?_
      refine wv_cX_ne f52_69 (by omega) (by omega) (fun hb2 => ?_) (fun hb2 => ?_)
      · refine wv_s f52_85 rfl (fun _ => rfl) ?_
        refine wv_s f52_86 rfl (fun _ => rfl) ?_
        refine wv_getfield f52_88 (hv3) (by rfl) ?_
        refine wv_effS f52_91 (by decide) (by simp) (by simp) (by decide +kernel) (c20 hO1.atL (fun z hz => by rw [hrw] at hz; exact (flR_ok (fun w hw => hck w (List.mem_of_mem_take hw)) (fun z hz => by cases hz) z hz).ext hO1.1.1) hvcA (by rw [hrw]; omega)) (by omega) (fun A2 hA2 => ?_)
        obtain ⟨c1, k1, s1, hlg, hA2⟩ := hA2
        have hO2 := hO1.lsL (v' := vL c1 ((insR v.c rows).map ChD.a)) (c' := c1) (kc := k1) (ks := s1)
        rw [← hA2] at hO2
        have e9 : A2.2 = (A.2.1 + k1, A.2.2 + s1) := by rw [hA2]; rfl
        have hlg4 := hlg.2.2.2
        rw [List.length_map, insR_len] at hlg4
        refine wv_inc4 f52_94 ?_
        refine wv_s (pc' := 19) f52_97 rfl (fun _ => rfl) ?_
        refine c52_l hg hlen k (i + 1) A2 c1 sc1 _ spans _ (by omega) (by rw [hvt, flR_snoc, if_pos ⟨hb, by omega⟩, ← hrw]) (by rw [hvt, flS_snoc, if_neg (fun w => by omega)]; exact hsp) hO2 hck (by rw [hrw] at hlg4; omega) (by omega) (fun A' rc' sc' x5 q1 q2 q3 q4 q5 => hQ A' rc' sc' x5 q1 ?_ ?_ q4 q5)
        · rw [e9] at q2
          have := hlg.2.1
          simp only at q2
          omega
        · rw [e9] at q3
          have := hlg.2.2.1
          simp only at q3
          omega
      · have hO1s := hO1.swL
        have hsa1 := hO1s.atL
        have lls : (spans.map ChD.a).length = spans.length := List.length_map _
        refine wv_s f52_72 rfl (fun _ => rfl) ?_
        refine wv_s f52_73 rfl (fun _ => rfl) ?_
        refine wv_getfield f52_75 hv3 (by rfl) ?_
        refine wv_ladd f52_78 hsa1 hvc2 (by decide +kernel) (by rw [lls, hsp]; omega) (by omega) (by simp) (fun c1 k1 s1 hlg => ?_)
        have hO2 := (hO1s.lsL (v' := vL c1 ((spans ++ [v.c]).map ChD.a)) (c' := c1) (kc := k1) (ks := s1)).swL
        rw [List.map_append] at hO2
        have hlg4 := hlg.2.2.2
        rw [List.length_map] at hlg4
        refine wv_s f52_81 rfl (fun _ => rfl) ?_
        refine wv_s (pc' := 94) f52_82 rfl (fun _ => rfl) ?_
        refine wv_inc4 f52_94 ?_
        refine wv_s (pc' := 19) f52_97 rfl (fun _ => rfl) ?_
        refine c52_l hg hlen k (i + 1) _ rc c1 rows (spans ++ [v.c]) _ (by omega) (by rw [hvt, flR_snoc, if_neg (fun w => w.2 (by omega))]; exact hrw) (by rw [hvt, flS_snoc, if_pos ⟨hb, by omega⟩, ← hsp]) (by rw [List.map_append]; exact hO2) hck (by omega) (by rw [hsp] at hlg4; omega) (fun A' rc' sc' x5 q1 q2 q3 q4 q5 => hQ A' rc' sc' x5 q1 ?_ ?_ q4 q5)
        · have := hlg.2.1
          have q2' : 5 * A'.2.1 + (rc + c1) ≤ 5 * (A.2.1 + k1) + (rc' + sc') := q2
          omega
        · have := hlg.2.2.1
          have q3' : A'.2.2 + 4 * (rc + c1) ≤ A.2.2 + s1 + 4 * (rc' + sc') := q3
          omega
/-- the run that a flush makes, and what it leaves -/
theorem c52 {f1 f2 : List FamD} {l0 : LvD} {lt : List LvD} (hO : okO A F L o f w s c b fi y me ct) (hf : f.2.2 = f1 ++ g :: f2) (hg : g.lv = l0 :: lt) (hlen : w.2.2.length < 2000) (hid : ct.2.2.1 + 1 < 1000000) (hvs : ct.2.2.2.2.1 + 1 ≤ 1000000) (hl0 : l0.rs.length < 2000) :
    Wc sc 8 52 [.ref o, .ref g.a] A (fun v A' => ∃ v9, v = .inl (some v9) ∧ ∃ r F' ct' c', v9 = .int (zI r.id) ∧ r.id = ct.2.2.1 + 1 ∧ r.mg = false ∧ r.rows = flR g.g [] w.2.2 ∧ r.spans = flS g.g w.2.2 ∧ Ext F F' ∧ okRun F' r ∧ ctK ct' = ctKs ct 1 1 ∧ okO A' F' L o (f.1, f.2.1, f1 ++ setLv g ((l0.a, l0.mu, l0.la, c', r :: l0.rs) :: lt) :: f2) (w.1, w.2.1, w.2.2.map (flW g.g)) s c b fi y me ct' ∧
      5 * A'.2.1 ≤ 5 * A.2.1 + 60 + 4 * w.2.2.length + 2 * l0.rs.length ∧ A'.2.2 ≤ A.2.2 + 150 + 24 * w.2.2.length + 8 * l0.rs.length) := by
  show Wv sc 8 52 0 [some (.ref o), some (.ref g.a), none, none, none, none] [] A _
  have hgm : g ∈ f.2.2 := by rw [hf]; simp
  refine wv_newL f52_0 (fun ra hra => ?_)
  have hO1 := okO.push hO.2 (hO.1.new (n := 3) (c := vW) hra)
  have f9 := hO1.atL
  refine wv_s f52_3 rfl (fun _ => rfl) ?_
  refine wv_linit f52_4 (by assumption) (by omega) (by simp) ?_
  refine wv_st2 f52_7 rfl (fun _ _ => rfl) ?_
  have hO2 := hO1.lsL (c' := 0) (kc := 0) (ks := 0) (v' := vL 0 [])
  show Wv sc 8 52 8 _ _ (aPut (aNew A ra vW 3) ra (vL 0 [])) _
  refine wv_newL f52_8 (fun sa hsa => ?_)
  have hO3 := okO.push hO2.2 (Own.new (n := 3) (c := vW) hO2.1 hsa)
  have f8 := hO3.atL
  refine wv_s f52_11 rfl (fun _ => rfl) ?_
  refine wv_linit f52_12 (by assumption) (by omega) (by simp) ?_
  refine wv_st3 f52_15 rfl (fun _ _ => rfl) ?_
  have hO4 := (hO3.lsL (c' := 0) (kc := 0) (ks := 0) (v' := vL 0 [])).swL
  refine wv_icon f52_16 ?_
  refine wv_st4 f52_17 rfl (fun _ _ => rfl) ?_
  refine c52_l hgm hlen w.2.2.length 0 _ 0 0 [] [] none (by omega) rfl rfl hO4 (fun x hx => (hO.2.2.1 x hx).1) (by omega) (by omega) (fun A5 rc sc1 x5 q1 q2 q3 q4 q5 => ?_)
  obtain ⟨p1, e1⟩ := q1.frz
  obtain ⟨p2, e2⟩ := p1.frz
  have h1 := p2.ob
  have hwc : ∀ x, x ∈ w.2.2 → okCh (fz (fz F ra (vL rc ((flR g.g [] w.2.2).map ChD.a))) sa (vL sc1 ((flS g.g w.2.2).map ChD.a))) x.c := fun x hx => ((hO.2.2.1 x hx).1.ext e1).ext e2
  refine wv_s f52_100 rfl (fun _ => rfl) ?_
  refine wv_icon f52_101 ?_
  refine wv_s f52_102 rfl (fun _ => rfl) ?_
  refine wv_s f52_103 rfl (fun _ => rfl) ?_
  refine wv_resV f52_104 (by decide) (by simp) (by simp) (by decide +kernel) (by assumption) (by rfl) (by decide +kernel) rfl (c74 (mg := false) (rows := flR g.g [] w.2.2) (spans := flS g.g w.2.2) p2 (e2 _ _ fz_self) fz_self (fun z hz => flR_ok hwc (fun z hz => by cases hz) z hz) (fun z hz => by obtain ⟨u, hu, rfl⟩ := List.mem_map.mp hz; exact hwc u (List.mem_filter.mp hu).1) hid) (by omega) (fun v A6 hv => ?_)
  obtain ⟨r, F', ct1, rfl, n2, n3, n4, n5, n6, n7, n8, n9, n10, n11⟩ := hv
  have hf2 := n9.fm hgm
  have hf3 := hf2.1
  have hl := n9.lv hgm (show l0 ∈ g.lv by rw [hg]; exact List.mem_cons_self ..)
  have hl1 := hl.1
  have h2 := n9.ob
  have hrA := n7.ext n9.1.1
  have hr1 := hrA.1
  refine wv_st4 f52_107 rfl (fun _ _ => rfl) ?_
  refine wv_s f52_109 rfl (fun _ => rfl) ?_
  refine wv_icon f52_110 ?_
  refine wv_valV f52_111 (by decide) (by simp) (by simp) (by decide +kernel) (by assumption) (by rfl) (by decide +kernel) rfl (c108 (l := l0) (j := 0) hf2 rfl (by rw [hg]; rfl)) (by omega) ?_
  refine wv_s f52_114 rfl (fun _ => rfl) ?_
  refine wv_icon f52_116 ?_
  refine wv_effV f52_117 (by decide) (by simp) (by simp) (by decide +kernel) (by assumption) (by rfl) (by decide +kernel) rfl (c121 (nw := true) hl hrA (by omega)) (by omega) (fun A7 hA7 => ?_)
  obtain ⟨c1, k1, s1, hlg, hA7⟩ := hA7
  have hO7 := n9.lsLv (c' := c1) (kc := k1) (ks := s1) (l1 := []) (l2 := lt) (l := l0) (rs' := r :: l0.rs) hf hg (fun z hz => by
    rcases List.mem_cons.mp hz with rfl | hz
    · exact n7
    · exact ((n9.2.1 g hgm).2 l0 (by rw [hg]; exact List.mem_cons_self ..)).2 z hz)
  rw [if_pos rfl] at hA7
  rw [← hA7] at hO7
  have h3 := hO7.ob
  have hct7 := hO7.ctc
  have hct8 : okCt (ct1.1, ct1.2.1, ct1.2.2.1, ct1.2.2.2.1, ct1.2.2.2.2.1 + 1, ct1.2.2.2.2.2) := by
    refine ctK_ok (ct := ct) (df := 1) (dv := 1) hO.ctc ?_ hid hvs
    simp only [ctK, ctKs, Prod.mk.injEq] at n8 ⊢
    omega
  have hO8 := hO7.putCt hct8
  have hr7 : A7.1 r.a = some (cRun r) := (n7.ext hO7.1.1).1
  have hne : r.a ≠ o := ne_oo hr7 h3 (by decide)
  have hr8 : (aPut A7 o (cOb (f.1, f.2.1, f1 ++ setLv g ((l0.a, l0.mu, l0.la, c1, r :: l0.rs) :: lt) :: f2) (w.1, w.2.1, w.2.2.map (flW g.g)) s c b fi y me (ct1.1, ct1.2.1, ct1.2.2.1, ct1.2.2.2.1, ct1.2.2.2.2.1 + 1, ct1.2.2.2.2.2))).1 r.a = some (cRun r) := by
    rw [aPut_ne hne]
    exact hr7
  refine wv_s f52_120 rfl (fun _ => rfl) ?_
  refine wv_s f52_121 rfl (fun _ => rfl) ?_
  refine wv_getfield f52_122 (h3) (by rfl) ?_
  refine wv_icon f52_125 ?_
  refine wv_iadd f52_126 ?_
  refine wv_putfield f52_127 (h3) (by simp) (by rfl) ?_
  show Wv sc 8 52 130 _ _ (aPut A7 o (cOb (f.1, f.2.1, f1 ++ setLv g ((l0.a, l0.mu, l0.la, c1, r :: l0.rs) :: lt) :: f2) (w.1, w.2.1, w.2.2.map (flW g.g)) s c b fi y me (ct1.1, ct1.2.1, ct1.2.2.1, ct1.2.2.2.1, ct1.2.2.2.2.1 + 1, ct1.2.2.2.2.2))) _
  have e7 : A7.2 = (A6.2.1 + k1, A6.2.2 + s1) := by rw [hA7]; rfl
  have hlf := lg_flat hlg
  rw [List.length_map, if_pos rfl, List.length_cons] at hlf
  have lrl := @flR_len g.g w.2.2 []
  rw [List.length_nil] at lrl
  have q2' : 5 * A5.2.1 + (0 + 0) ≤ 5 * (A.2.1 + 1 + 1) + (rc + sc1) := q2
  have q3' : A5.2.2 + 4 * (0 + 0) ≤ A.2.2 + 3 + 3 + 4 * (rc + sc1) := q3
  refine wv_s f52_130 rfl (fun _ => rfl) ?_
  refine wv_getfield f52_132 (hr8) (by rfl) ?_
  exact wv_iret f52_135 (by rfl) (⟨_, rfl, r, F', _, c1, rfl, n2, n3, n4, n5, fun x y h => n6 x y (e2 x y (e1 x y h)), n7, (by simp only [ctK, ctKs, Prod.mk.injEq] at n8 ⊢; omega), hO8, (by show 5 * A7.2.1 ≤ _; rw [e7]; simp only; omega), (by show A7.2.2 ≤ _; rw [e7]; simp only; omega)⟩)
theorem c21_t {l0 : LvD} {lt : List LvD} (hO : okO A F L o f w s c b fi y me ct) (hgm : g ∈ f.2.2) (hg : g.lv = l0 :: lt) (hfull : 6 ≤ l0.rs.length) : Wc sc 2 21 [.ref o, .ref g.a] A (fun v A' => v = .inr 2 ∧ A' = aThr A) := by
  show Wv sc 2 21 0 [some (.ref o), some (.ref g.a), none] [] A _
  have hf := hO.fm hgm
  have hf1 := hf.1
  have hl := hO.lv hgm (show l0 ∈ g.lv by rw [hg]; exact List.mem_cons_self ..)
  have hl1 := hl.1
  refine hl.len (fun n1 n2 => ?_)
  refine wv_s f21_0 rfl (fun _ => rfl) ?_
  refine wv_icon f21_1 ?_
  refine wv_valV f21_2 (by decide) (by simp) (by simp) (by decide +kernel) (by assumption) (by rfl) (by decide +kernel) rfl (c108 (l := l0) (j := 0) hf rfl (by rw [hg]; rfl)) (by omega) ?_
  refine wv_valV f21_5 (by decide) (by simp) (by simp) (by decide +kernel) (by assumption) (by rfl) (by decide +kernel) rfl (c119 hl) (by omega) ?_
  refine wv_st2 f21_8 rfl (fun _ _ => rfl) ?_
  refine wv_s f21_9 rfl (fun _ => rfl) ?_
  refine wv_bip f21_10 (by decide) ?_
  refine wv_cF_lt f21_12 (by omega) (by omega) (by omega) ?_
  exact wv_throw f21_15 (by decide) (by simp) (by decide +kernel) (⟨rfl, rfl⟩)
theorem c21 {l0 : LvD} {lt : List LvD} (hO : okO A F L o f w s c b fi y me ct) (hgm : g ∈ f.2.2) (hg : g.lv = l0 :: lt) (hfull : l0.rs.length < 6) : Wc sc 2 21 [.ref o, .ref g.a] A (fun v A' => v = .inl none ∧ ∃ ct', ctK ct' = ctKs ct 0 0 ∧ okO A' F L o f w s c b fi y me ct' ∧ A'.2 = A.2) := by
  show Wv sc 2 21 0 [some (.ref o), some (.ref g.a), none] [] A _
  have h1 := hO.ob
  have hf := hO.fm hgm
  have hf1 := hf.1
  have hl := hO.lv hgm (show l0 ∈ g.lv by rw [hg]; exact List.mem_cons_self ..)
  have hl1 := hl.1
  refine wv_s f21_0 rfl (fun _ => rfl) ?_
  refine wv_icon f21_1 ?_
  refine wv_valV f21_2 (by decide) (by simp) (by simp) (by decide +kernel) (by assumption) (by rfl) (by decide +kernel) rfl (c108 (l := l0) (j := 0) hf rfl (by rw [hg]; rfl)) (by omega) ?_
  refine wv_valV f21_5 (by decide) (by simp) (by simp) (by decide +kernel) (by assumption) (by rfl) (by decide +kernel) rfl (c119 hl) (by omega) ?_
  refine wv_st2 f21_8 rfl (fun _ _ => rfl) ?_
  refine wv_s f21_9 rfl (fun _ => rfl) ?_
  refine wv_bip f21_10 (by decide) ?_
  refine wv_cT_lt f21_12 (by omega) (by omega) (by omega) ?_
  refine wv_s f21_25 rfl (fun _ => rfl) ?_
  refine wv_icon f21_26 ?_
  refine wv_cX_lt f21_27 (by omega) (by omega) (fun hb => ?_) (fun hb => ?_)
  · exact wv_vret f21_40 (by decide +kernel) (⟨rfl, ct, rfl, hO, rfl⟩)
  · have hO1 := hO.putCt (ct' := (ct.1, ct.2.1, ct.2.2.1, ct.2.2.2.1, ct.2.2.2.2.1, ct.2.2.2.2.2.1, ct.2.2.2.2.2.2.1, ct.2.2.2.2.2.2.2.1, ct.2.2.2.2.2.2.2.2.1 + zI 1, ct.2.2.2.2.2.2.2.2.2)) hO.ctc
    have hk0 : ctK (ct.1, ct.2.1, ct.2.2.1, ct.2.2.2.1, ct.2.2.2.2.1, ct.2.2.2.2.2.1, ct.2.2.2.2.2.2.1, ct.2.2.2.2.2.2.2.1, ct.2.2.2.2.2.2.2.2.1 + zI 1, ct.2.2.2.2.2.2.2.2.2) = ctKs ct 0 0 := rfl
    refine wv_s f21_30 rfl (fun _ => rfl) ?_
    refine wv_s f21_31 rfl (fun _ => rfl) ?_
    refine wv_getfield f21_32 (h1) (by rfl) ?_
    refine wv_icon f21_35 ?_
    refine wv_s f21_36 rfl (fun _ => rfl) ?_
    refine wv_putfield f21_37 (h1) (by simp) (by rfl) ?_
    exact wv_vret f21_40 (by decide +kernel) (⟨rfl, _, hk0, hO1, rfl⟩)
/-- a new write, ahead of a flush -/
def newWr (xa ca : Nat) (g k n fr to_ : Nat) (v : Int32) (s z : Nat) : WrD := (xa, g, (ca, k, n, fr, to_, v), s, z)
theorem c99_n {f1 f2 : List FamD} {l0 : LvD} {lt : List LvD} {k fr to_ : Nat} {v : Int32} (hO : okO A F L o f w s c b fi y me ct) (hf : f.2.2 = f1 ++ g :: f2) (hg : g.lv = l0 :: lt) (hfull : l0.rs.length < 6) (hk : k ≤ 4) (hfr : fr ≤ to_) (hto : to_ < 100) (hlen : w.2.2.length < 1900) {Q : gO → gA → Prop}
    (hQ : ∀ A' F' ct' c' xa ca, Ext F F' → ctK ct' = ctKs ct 0 0 → okO A' F' L o f (w.1, c', w.2.2 ++ [newWr xa ca g.g k (w.2.2.length + 1) fr to_ v 0 1]) s c b fi y me ct' → 5 * A'.2.1 ≤ 5 * A.2.1 + 20 + 2 * w.2.2.length → A'.2.2 ≤ A.2.2 + 49 + 8 * w.2.2.length → c' ≤ w.2.1 ∨ c' ≤ 10 + 2 * w.2.2.length →
      Wv sc 9 99 67 [some (.ref o), some (.int (zI f1.length)), some (.int (zI k)), some (.int (zI fr)), some (.int (zI to_)), some (.int v), some (.ref g.a), some (.int (zI ((w.2.2.length : Int) + 1)))] [] A' Q) :
    Wv sc 9 99 0 [some (.ref o), some (.int (zI f1.length)), some (.int (zI k)), some (.int (zI fr)), some (.int (zI to_)), some (.int v), none, none] [] A Q := by
  have h1 := hO.ob
  have hgm : g ∈ f.2.2 := by rw [hf]; simp
  have hgi : f.2.2[f1.length]? = some g := by rw [hf]; simp
  refine wv_s f99_0 rfl (fun _ => rfl) ?_
  refine wv_s f99_1 rfl (fun _ => rfl) ?_
  refine wv_valV f99_2 (by decide) (by simp) (by simp) (by decide +kernel) (by assumption) (by rfl) (by decide +kernel) rfl (c47 hO hgi) (by omega) ?_
  refine wv_st6 f99_5 rfl (fun _ _ => rfl) ?_
  refine wv_s f99_7 rfl (fun _ => rfl) ?_
  refine wv_s f99_8 rfl (fun _ => rfl) ?_
  refine wv_effS f99_10 (by decide) (by simp) (by simp) (by decide +kernel) (c29 (by omega) (by omega) (by omega)) (by omega) (fun A1 hA1 => ?_)
  rw [hA1]
  refine wv_s f99_13 rfl (fun _ => rfl) ?_
  refine wv_s f99_14 rfl (fun _ => rfl) ?_
  refine wv_effV f99_16 (by decide) (by simp) (by simp) (by decide +kernel) (by assumption) (by rfl) (by decide +kernel) rfl (c21 hO hgm hg hfull) (by omega) (fun A2 hA2 => ?_)
  obtain ⟨ct', q1, q2, q3⟩ := hA2
  have h2 := q2.ob
  have h3 := q2.wl
  have hf9 := (q2.fm hgm).1
  have hgg := (q2.fm hgm).2.2.2.1
  refine wv_s f99_19 rfl (fun _ => rfl) ?_
  refine wv_getfield f99_20 (by assumption) (by rfl) ?_
  refine wv_lsize f99_23 (by assumption) (by omega) (by simp) (fun hs => ?_)
  rw [List.length_map] at hs ⊢
  refine wv_icon f99_26 ?_
  refine wv_iadd f99_27 ?_
  refine wv_st7 f99_28 rfl (fun _ _ => rfl) ?_
  refine wv_s f99_30 rfl (fun _ => rfl) ?_
  refine wv_getfield f99_31 (by assumption) (by rfl) ?_
  refine wv_newZ f99_34 (by decide) (by decide) (zs := [.int 0, .null, .int 0, .int 0]) (by rfl) (fun xa hxa => ?_)
  have hO3 := okO.push q2.2 (q2.1.new (n := gN 10) (c := vO 10 [.int 0, .null, .int 0, .int 0]) hxa)
  have hf8 := (hO3.fm hgm).1
  refine wv_s f99_37 rfl (fun _ => rfl) ?_
  refine wv_s f99_38 rfl (fun _ => rfl) ?_
  refine wv_getfield f99_40 (by assumption) (by rfl) ?_
  refine wv_newZ f99_43 (by decide) (by decide) (zs := [.int 0, .int 0, .int 0, .int 0, .int 0]) (by rfl) (fun ca hca => ?_)
  have hO4 := okO.push hO3.2 (Own.new (n := gN 2) (c := vO 2 [.int 0, .int 0, .int 0, .int 0, .int 0]) hO3.1 hca)
  have hc4 := hO4.atL
  refine wv_s f99_46 rfl (fun _ => rfl) ?_
  refine wv_s f99_47 rfl (fun _ => rfl) ?_
  refine wv_s f99_48 rfl (fun _ => rfl) ?_
  refine wv_s f99_50 rfl (fun _ => rfl) ?_
  refine wv_s f99_51 rfl (fun _ => rfl) ?_
  refine wv_s f99_53 rfl (fun _ => rfl) ?_
  refine wv_effI f99_55 (by decide) (by simp) (by simp) (by decide +kernel) (by rfl) (c101 (k := k) (n := (w.2.2.length : Int) + 1) (f := fr) (t := to_) (am := v) hc4) (by omega) (fun A5 hA5 => ?_)
  have hO5 := hO4.lsL (c' := 0) (kc := 0) (ks := 0) (v' := vO 2 [.int (zI k), .int (zI ((w.2.2.length : Int) + 1)), .int (zI fr), .int (zI to_), .int v])
  rw [show aLst (aNew (aNew A2 xa (vO 10 [.int 0, .null, .int 0, .int 0]) (gN 10)) ca (vO 2 [.int 0, .int 0, .int 0, .int 0, .int 0]) (gN 2)) ca (vO 2 [.int (zI k), .int (zI ((w.2.2.length : Int) + 1)), .int (zI fr), .int (zI to_), .int v]) 0 0 = A5 from hA5.symm] at hO5
  obtain ⟨hO6, e1⟩ := hO5.frz
  have hx6 := hO6.atL
  refine wv_icon f99_58 ?_
  refine wv_icon f99_59 ?_
  refine wv_effI f99_60 (by decide) (by simp) (by simp) (by decide +kernel) (by rfl) (c150 (g := g.g) (ca := ca) (s := 0) (z := 1) hx6) (by omega) (fun A7 hA7 => ?_)
  have hO7 := hO6.lsL (c' := 0) (kc := 0) (ks := 0) (v' := cWr (newWr xa ca g.g k (w.2.2.length + 1) fr to_ v 0 1))
  rw [show aLst A5 xa (cWr (newWr xa ca g.g k (w.2.2.length + 1) fr to_ v 0 1)) 0 0 = A7 from hA7.symm] at hO7
  have h7 := hO7.wl
  have hx7 : A7.1 xa = some (vO 10 [.int (zI g.g), .ref ca, .int (zI 0), .int (zI 1)]) := hO7.atL
  have hll : (w.2.2.map WrD.a).length = w.2.2.length := List.length_map _
  refine wv_ladd f99_63 h7 hx7 (by decide +kernel) (by omega) (by omega) (by simp) (fun c1 k1 s1 hlg => ?_)
  rw [hll] at hlg
  have hbase : okO A7 (fz F ca (vO 2 [.int (zI k), .int (zI ((w.2.2.length : Int) + 1)), .int (zI fr), .int (zI to_), .int v])) ((xa, cWr (newWr xa ca g.g k (w.2.2.length + 1) fr to_ v 0 1)) :: L) o f w s c b fi y me ct' := hO7
  have hO8 := okO.addWr (c' := c1) (kc := k1) (ks := s1) (x := newWr xa ca g.g k (w.2.2.length + 1) fr to_ v 0 1) ⟨(hbase.pop).tl, hbase.2⟩ hbase.pop ⟨⟨fz_self, hk, by show w.2.2.length + 1 ≤ 1000000; omega, by show fr < 100; omega, hto⟩, hgg, by show (0 : Nat) ≤ 20; omega, by show (1 : Nat) ≤ 3; omega⟩
  rw [List.map_append] at hO8
  have hlf := lg_flat hlg
  have e7 : A7.2 = (A.2.1 + 2, A.2.2 + 9) := by
    rw [hA7, hA5]
    show (A2.2.1 + 1 + 1, A2.2.2 + gN 10 + gN 2) = _
    rw [q3, show gN 10 = 4 from by decide +kernel, show gN 2 = 5 from by decide +kernel]
  refine wv_s f99_66 rfl (fun _ => rfl) ?_
  refine hQ _ _ ct' c1 xa ca e1 q1 hO8 ?_ ?_ hlg.2.2.2
  · show 5 * (A7.2.1 + k1) ≤ _
    rw [e7]
    simp only
    omega
  · show A7.2.2 + s1 ≤ _
    rw [e7]
    simp only
    omega
end FL
