/-! A FLUSH KEEPS IT -/
theorem insR_perm {c : ChD} : ∀ {l : List ChD}, (insR c l).Perm (c :: l)
  | [] => List.Perm.refl _
  | x :: l => by
    unfold insR
    split
    · exact (List.Perm.cons x insR_perm).trans (List.Perm.swap c x l)
    · exact List.Perm.refl _
theorem insR_asc {c : ChD} : ∀ {l : List ChD}, l.Pairwise (fun a b => a.f ≤ b.f) → (insR c l).Pairwise (fun a b => a.f ≤ b.f)
  | [], _ => List.pairwise_singleton ..
  | x :: l, h => by
    have h2 := List.pairwise_cons.mp h
    unfold insR
    split
    · rename_i hx
      refine List.pairwise_cons.mpr ⟨fun y hy => ?_, insR_asc h2.2⟩
      rcases insR_mem.mp hy with rfl | hy
      · omega
      · exact h2.1 y hy
    · rename_i hx
      refine List.pairwise_cons.mpr ⟨fun y hy => ?_, h⟩
      rcases List.mem_cons.mp hy with rfl | hy
      · omega
      · have := h2.1 y hy
        omega
theorem flR_perm {g : Nat} : ∀ {l : List WrD} {acc : List ChD}, (flR g acc l).Perm (((l.filter (fun w => w.memOf g && !decide (w.c.k = 3))).map WrD.c) ++ acc)
  | [], acc => List.Perm.refl _
  | w :: l, acc => by
    show (flR g (if w.memOf g = true ∧ w.c.k ≠ 3 then insR w.c acc else acc) l).Perm _
    refine (flR_perm (l := l)).trans ?_
    by_cases h : w.memOf g = true ∧ w.c.k ≠ 3
    · rw [if_pos h, List.filter_cons_of_pos (by simp [h.1, h.2]), List.map_cons]
      refine (List.Perm.append_left _ insR_perm).trans ?_
      exact List.perm_middle
    · rw [if_neg h, List.filter_cons_of_neg (by
        intro hb
        rw [Bool.and_eq_true, Bool.not_eq_true', decide_eq_false_iff_not] at hb
        exact h hb)]
theorem flR_asc {g : Nat} : ∀ {l : List WrD} {acc : List ChD}, acc.Pairwise (fun a b => a.f ≤ b.f) → (flR g acc l).Pairwise (fun a b => a.f ≤ b.f)
  | [], acc, h => h
  | w :: l, acc, h => by
    show (flR g (if w.memOf g = true ∧ w.c.k ≠ 3 then insR w.c acc else acc) l).Pairwise _
    refine flR_asc ?_
    split
    · exact insR_asc h
    · exact h
def WOk (v : WrD) : Prop := v.z ≤ 3 ∧ ((v.z = 1 ∨ v.z = 2) → v.s = 0) ∧ (v.s = 0 → ((v.c.k = 1 ∨ v.c.k = 2 ∨ v.c.k = 4) ∧ v.c.f = v.c.t) ∨ (v.c.k = 3 ∧ v.c.f ≤ v.c.t ∧ v.c.t ≤ v.c.f + 3)) ∧ (0 < v.s → v.c.k = 1 ∧ v.c.f ≤ v.c.t ∧ v.c.t ≤ v.c.f + 2 * v.s) ∧ v.c.t < 18 ∧ (-4 ≤ v.c.v.toInt ∧ v.c.v.toInt ≤ 4)
theorem fl_all {g : Nat} {ws : List WrD} : ((flS g ws) ++ (flR g [] ws)).Perm ((ws.filter (fun w => w.memOf g)).map WrD.c) := by
  have h1 := @flR_perm g ws []
  rw [List.append_nil] at h1
  refine (List.Perm.append_left _ h1).trans ?_
  unfold flS
  rw [← List.map_append]
  refine List.Perm.map _ ?_
  have h2 := List.filter_append_perm (fun w : WrD => decide (w.c.k = 3)) (ws.filter (fun w => w.memOf g))
  rw [List.filter_filter, List.filter_filter] at h2
  have e1 : ws.filter (fun w => w.memOf g && decide (w.c.k = 3)) = ws.filter (fun a => decide (a.c.k = 3) && a.memOf g) := List.filter_congr (fun w _ => Bool.and_comm ..)
  have e2 : ws.filter (fun w => w.memOf g && !decide (w.c.k = 3)) = ws.filter (fun a => (!decide (a.c.k = 3)) && a.memOf g) := List.filter_congr (fun w _ => Bool.and_comm ..)
  rw [e1, e2]
  exact h2
theorem on_ov {v : WrD} {x : Int} (h : v.s = 0) : v.on x = v.c.ov x x := by
  unfold WrD.on ChD.ov
  congr 1
  apply propext
  constructor
  · intro q
    omega
  · intro q
    exact ⟨by omega, .inl (by omega)⟩
theorem NumW.lt {ws : List WrD} (hN : NumW ws) : ws.Pairwise (fun a b => a.c.n < b.c.n) := by
  rw [List.pairwise_iff_getElem]
  intro i j hi hj hij
  have h1 := hN i _ (List.getElem?_eq_getElem hi)
  have h2 := hN j _ (List.getElem?_eq_getElem hj)
  omega
theorem rev_dscS {ws : List WrD} (hN : NumW ws) {p : WrD → Bool} : DscS ((ws.reverse.filter p).map (fun v => es v.c)) := by
  unfold DscS
  rw [List.pairwise_map]
  refine List.Pairwise.sublist List.filter_sublist ?_
  rw [List.pairwise_reverse]
  exact hN.lt
theorem rE_dsc {r : RunD} {x : Int} : (rE r x).Pairwise (fun a b => b.2.1 ≤ a.2.1) := by
  unfold rE
  rw [List.pairwise_map]
  exact colW_dsc List.Pairwise.nil
theorem rE_perm {r : RunD} {x : Int} : (rE r x).Perm ((ovK x r.spans ++ ovK x r.rows).map es) := by
  have h := @colW_perm r x []
  rw [List.append_nil] at h
  exact h.map es
theorem rE_flush {g : Nat} {r : RunD} {ws : List WrD} {k : Nat} (hr : r.rows = flR g [] ws) (hs : r.spans = flS g ws) (hN : NumW ws) (hW : ∀ v, v ∈ ws → WOk v) : rE r k = mE g k ws.reverse := by
  refine dsc_eq ?_ rE_dsc (rev_dscS hN)
  refine rE_perm.trans ?_
  rw [hr, hs]
  unfold mE
  have h1 : (ovK (k : Int) (flS g ws) ++ ovK (k : Int) (flR g [] ws)).Perm (ovK (k : Int) ((ws.filter (fun w => w.memOf g)).map WrD.c)) := by
    unfold ovK
    rw [← List.filter_append]
    exact List.Perm.filter _ fl_all
  refine (h1.map es).trans ?_
  unfold ovK
  rw [List.filter_map, List.map_map, List.filter_filter]
  have e : ws.filter (fun a => ((fun c : ChD => c.ov (k : Int) (k : Int)) ∘ WrD.c) a && a.memOf g) = ws.filter (fun v => v.memOf g && v.on (k : Int)) := by
    refine List.filter_congr (fun v hv => ?_)
    cases hm : v.memOf g
    · rw [Bool.and_false, Bool.false_and]
    · have hm2 := of_decide_eq_true (show decide _ = true from hm)
      rw [Bool.and_true, Bool.true_and, on_ov ((hW v hv).2.1 hm2.2)]
      rfl
  rw [e, List.filter_reverse, List.map_reverse]
  exact (List.reverse_perm _).symm
theorem iE_flush {g : Nat} {x : Int} : ∀ {l : List WrD}, (∀ v, v ∈ l → v.z ≤ 3) → iE g x (l.map (flW g)) = aE g x l
  | [], _ => rfl
  | v :: l, hz => by
    have ih := iE_flush (g := g) (x := x) (fun v hv => hz v (List.mem_cons_of_mem _ hv))
    have hv := hz v (List.mem_cons_self ..)
    have e : (inRun g (flW g v) && (flW g v).on x) = (v.isOf g && v.on x) ∧ (flW g v).c = v.c := by
      unfold flW
      split
      · rename_i hm
        have hm2 := of_decide_eq_true (show decide _ = true from hm)
        refine ⟨?_, rfl⟩
        rw [show inRun g (v.a, v.g, v.c, v.s, 3) = true from decide_eq_true ⟨hm2.1, rfl⟩, show v.isOf g = true from decide_eq_true ⟨hm2.1, by omega⟩]
        rfl
      · rename_i hm
        refine ⟨?_, rfl⟩
        congr 1
        unfold inRun WrD.isOf
        have hm2 : ¬ (v.g = g ∧ (v.z = 1 ∨ v.z = 2)) := fun q => hm (decide_eq_true q)
        by_cases hg : v.g = g
        · have h3 : v.z = 3 ∨ v.z = 0 := by omega
          rcases h3 with h3 | h3 <;> simp [hg, h3]
        · simp [hg]
    unfold iE aE at ih ⊢
    rw [List.map_cons, List.filter_cons, List.filter_cons, e.1]
    split
    · rw [List.map_cons, List.map_cons, ih, e.2]
    · exact ih
theorem OrdW.at {ws : List WrD} (h : OrdW ws) (hN : NumW ws) {a b : WrD} (ha : a ∈ ws) (hb : b ∈ ws) (hlt : a.c.n < b.c.n) : a.g = b.g → (a.z = 1 ∨ a.z = 2) → b.z = 3 → ∀ x : Nat, a.on x = true → b.on x = true → False := by
  obtain ⟨i, hi⟩ := List.getElem?_of_mem ha
  obtain ⟨j, hj⟩ := List.getElem?_of_mem hb
  have h1 := hN i a hi
  have h2 := hN j b hj
  obtain ⟨hi1, rfl⟩ := List.getElem?_eq_some_iff.mp hi
  obtain ⟨hj1, rfl⟩ := List.getElem?_eq_some_iff.mp hj
  exact (List.pairwise_iff_getElem.mp h) i j hi1 hj1 (by omega)
theorem num_inj {ws : List WrD} (hN : NumW ws) {a b : WrD} (ha : a ∈ ws) (hb : b ∈ ws) (h : a.c.n = b.c.n) : a = b := by
  obtain ⟨i, hi⟩ := List.getElem?_of_mem ha
  obtain ⟨j, hj⟩ := List.getElem?_of_mem hb
  have h1 := hN i a hi
  have h2 := hN j b hj
  have : i = j := by omega
  subst this
  rw [hi] at hj
  exact Option.some.inj hj
theorem TI.flush {Mom : List Nat} {nf g o : Nat} {r0 : List RunD} {rt : List (List RunD)} {ws : List WrD} {r : RunD} (h : TI Mom nf g o (r0 :: rt) ws) (hN : NumW ws) (hO : OrdW ws) (hW : ∀ v, v ∈ ws → WOk v) (hr : r.rows = flR g [] ws) (hs : r.spans = flS g ws) (hid : r.id = nf + 1) (hmg : r.mg = false) (hn : 0 < cntM g ws) (h6 : r0.length ≤ 999) : TI Mom (nf + 1) g o ((r :: r0) :: rt) (ws.map (flW g)) := by
  obtain ⟨h1, h2, h3, h4, h5, h6', h7, h8⟩ := h
  have est : ∀ k : Nat, stkR ((r :: r0) :: rt) k = mE g k ws.reverse ++ stkR (r0 :: rt) k := by
    intro k
    unfold stkR stL
    rw [List.flatMap_cons, List.flatMap_cons, List.flatMap_cons, rE_flush hr hs hN hW, List.append_assoc]
  have eir : ∀ k : Nat, iE g k (ws.map (flW g)).reverse = mE g k ws.reverse ++ iE g k ws.reverse := by
    intro k
    rw [← List.map_reverse, iE_flush (fun v hv => (hW v (List.mem_reverse.mp hv)).1), aE_split (List.pairwise_reverse.mpr hO) (fun v hv => (hW v (List.mem_reverse.mp hv)).1)]
  have hmem : ∀ k e, e ∈ mE g k ws.reverse → ∃ v, v ∈ ws ∧ v.memOf g = true ∧ v.on k = true ∧ es v.c = e := by
    intro k e he
    obtain ⟨v, hv, rfl⟩ := List.mem_map.mp he
    obtain ⟨hv1, hv2⟩ := List.mem_filter.mp hv
    rw [Bool.and_eq_true] at hv2
    exact ⟨v, List.mem_reverse.mp hv1, hv2.1, hv2.2, rfl⟩
  refine ⟨fun k hk => ?_, fun k hk e he => ?_, fun k hk => ?_, ?_, ?_, ?_, ?_, ?_⟩
  · rw [est]
    refine List.pairwise_append.mpr ⟨rev_dscS hN, h1 k hk, fun a ha b hb => ?_⟩
    obtain ⟨v, v1, v2, v3, rfl⟩ := hmem k a ha
    obtain ⟨w, w1, w2, w3, w4, w5⟩ := h2 k hk b hb
    have v4 := of_decide_eq_true (show decide _ = true from v2)
    show b.2.1 < v.c.n
    by_cases hc : v.c.n < w.c.n
    · exact (hO.at hN v1 w1 hc (by omega) v4.2 w4 k v3 w5).elim
    · by_cases hc2 : v.c.n = w.c.n
      · have := num_inj hN v1 w1 hc2
        rw [this] at v4
        omega
      · omega
  · rw [est] at he
    rcases List.mem_append.mp he with he | he
    · obtain ⟨v, v1, v2, v3, rfl⟩ := hmem k e he
      have v4 := of_decide_eq_true (show decide _ = true from v2)
      refine ⟨flW g v, List.mem_map_of_mem v1, ?_, ?_, ?_, ?_⟩ <;> rw [flW_t v2]
      · rfl
      · exact v4.1
      · rfl
      · exact v3
    · obtain ⟨w, w1, w2, w3, w4, w5⟩ := h2 k hk e he
      have hf : w.memOf g = false := decide_eq_false (by omega)
      refine ⟨flW g w, List.mem_map_of_mem w1, ?_, ?_, ?_, ?_⟩ <;> rw [flW_f hf] <;> assumption
  · rw [est, eir]
    refine ⟨resO_app (h3 k hk).1, fun m hm => ?_⟩
    rw [upE_app, upE_app]
    exact resO_app ((h3 k hk).2 m hm)
  · intro j rs hj h0
    match j, hj with
    | j + 1, hj => exact h4 (j + 1) rs hj h0
  · intro rs hrs q hq
    have old : ∀ q, q ∈ r0 → RunOk q := fun q hq => h5 r0 (List.mem_cons_self ..) q hq
    rcases List.mem_cons.mp hrs with rfl | hrs
    · rcases List.mem_cons.mp hq with rfl | hq
      · have hfl : ∀ c, c ∈ flR g [] ws → ∃ v, v ∈ ws ∧ v.memOf g = true ∧ v.c.k ≠ 3 ∧ v.c = c := by
          intro c hc
          have h9 := (@flR_perm g ws []).mem_iff.mp hc
          rw [List.append_nil] at h9
          obtain ⟨v, hv, rfl⟩ := List.mem_map.mp h9
          obtain ⟨v1, v2⟩ := List.mem_filter.mp hv
          rw [Bool.and_eq_true, Bool.not_eq_true', decide_eq_false_iff_not] at v2
          exact ⟨v, v1, v2.1, v2.2, rfl⟩
        refine ⟨by rw [hr]; exact flR_asc List.Pairwise.nil, fun c hc => ?_, fun c hc => ?_, ?_, decide_eq_true (.inl hmg)⟩
        · rw [hr] at hc
          obtain ⟨v, v1, v2, v3, rfl⟩ := hfl c hc
          have v4 := of_decide_eq_true (show decide _ = true from v2)
          have hv := hW v v1
          rcases hv.2.2.1 (hv.2.1 v4.2) with q | q
          · exact q
          · exact absurd q.1 v3
        · rw [hs] at hc
          obtain ⟨v, hv, rfl⟩ := List.mem_map.mp hc
          obtain ⟨v1, v2⟩ := List.mem_filter.mp hv
          rw [Bool.and_eq_true] at v2
          have v3 := of_decide_eq_true v2.2
          have v4 := of_decide_eq_true (show decide _ = true from v2.1)
          have hv := hW v v1
          rcases hv.2.2.1 (hv.2.1 v4.2) with q | q
          · omega
          · exact ⟨v3, q.2.1⟩
        · have h9 := (@fl_all g ws).length_eq
          rw [List.length_append, List.length_map] at h9
          unfold RunD.wt
          rw [hr, hs]
          unfold cntM at hn
          omega
      · exact old q hq
    · exact h5 rs (List.mem_cons_of_mem _ hrs) q hq
  · show (r.id :: idsR (r0 :: rt)).Nodup
    refine List.nodup_cons.mpr ⟨fun hm => ?_, h6'⟩
    have := h7 _ hm
    omega
  · intro i hi
    rcases List.mem_cons.mp (show i ∈ r.id :: idsR (r0 :: rt) from hi) with rfl | hi
    · omega
    · have := h7 i hi
      omega
  · intro rs hrs
    cases hrs
    simp only [List.length_cons]
    omega
/-- a flush of another family -/
theorem TI.flushO {Mom : List Nat} {nf g g' o : Nat} {rss : List (List RunD)} {ws : List WrD} (h : TI Mom nf g' o rss ws) (hg : g' ≠ g) : TI Mom nf g' o rss (ws.map (flW g)) := by
  refine h.ws (fun k hk => ?_) (fun w hw h1 h2 => ⟨flW g w, List.mem_map_of_mem hw, ?_⟩)
  · rw [← List.map_reverse]
    refine iE_map (fun w hw => ?_)
    unfold flW
    split
    · rename_i hm
      have hm2 := of_decide_eq_true (show decide _ = true from hm)
      refine ⟨?_, rfl⟩
      rw [show inRun g' (w.a, w.g, w.c, w.s, 3) = false from decide_eq_false (fun q => hg (q.1.symm.trans hm2.1)), show inRun g' w = false from decide_eq_false (fun q => hg (q.1.symm.trans hm2.1))]
      rfl
    · exact ⟨rfl, rfl⟩
  · have hf : w.memOf g = false := decide_eq_false (by omega)
    rw [flW_f hf]
    exact ⟨rfl, h1, h2, rfl⟩
theorem OrdW.flush {g : Nat} {ws : List WrD} (h : OrdW ws) : OrdW (ws.map (flW g)) := by
  unfold OrdW at h ⊢
  rw [List.pairwise_map]
  refine h.imp (fun {a b} hab => ?_)
  intro e1 e2 e3 x e4 e5
  have key : ∀ w : WrD, (flW g w).g = w.g ∧ (flW g w).on x = w.on x ∧ (((flW g w).z = 1 ∨ (flW g w).z = 2) → flW g w = w ∧ w.memOf g = false) ∧ ((flW g w).z = 3 → w.z = 3 ∨ w.memOf g = true) := by
    intro w
    cases hm : w.memOf g with
    | true =>
      rw [flW_t hm]
      refine ⟨rfl, rfl, fun q => ?_, fun _ => .inr rfl⟩
      have q' : (3 : Nat) = 1 ∨ (3 : Nat) = 2 := q
      omega
    | false =>
      rw [flW_f hm]
      exact ⟨rfl, rfl, fun _ => ⟨rfl, rfl⟩, fun q => .inl q⟩
  obtain ⟨a1, a2, a3, -⟩ := key a
  obtain ⟨b1, b2, -, b4⟩ := key b
  obtain ⟨a5, a6⟩ := a3 e2
  rw [a5] at e1 e2 e4
  rw [b1] at e1
  rw [b2] at e5
  rcases b4 e3 with hb | hb
  · exact hab e1 e2 hb x e4 e5
  · have hb2 := of_decide_eq_true (show decide _ = true from hb)
    have ha2 := of_decide_eq_false (show decide _ = false from a6)
    exact ha2 ⟨by omega, e2⟩
theorem NumW.map {ws : List WrD} {φ : WrD → WrD} (h : NumW ws) (hφ : ∀ w, (φ w).c = w.c) : NumW (ws.map φ) := by
  intro i w hw
  rw [List.getElem?_map] at hw
  cases h0 : ws[i]? with
  | none => rw [h0] at hw; cases hw
  | some v =>
    rw [h0] at hw
    cases hw
    rw [hφ]
    exact h i v h0
