/-! WRITES AND LEVELS TOGETHER -/
def aE (g : Nat) (x : Int) (l : List WrD) : List E := (l.filter (fun v => v.isOf g && v.on x)).map (fun v => es v.c)
def mE (g : Nat) (x : Int) (l : List WrD) : List E := (l.filter (fun v => v.memOf g && v.on x)).map (fun v => es v.c)
def inRun (g : Nat) (v : WrD) : Bool := decide (v.g = g ∧ v.z = 3)
def iE (g : Nat) (x : Int) (l : List WrD) : List E := (l.filter (fun v => inRun g v && v.on x)).map (fun v => es v.c)
theorem an_es {g m : Nat} {x : Int} : ∀ {l : List WrD}, ((l.filter (fun v => v.isOf g && (decide (v.c.n ≤ m) && v.on x))).map WrD.c).map es = upE m (aE g x l)
  | [] => rfl
  | v :: l => by
    have ih := @an_es g m x l
    unfold aE upE at ih ⊢
    cases h1 : v.isOf g <;> cases h2 : v.on x <;> by_cases h3 : v.c.n ≤ m <;> simp [List.filter_cons, h1, h2, h3, es] at ih ⊢ <;> exact ih
theorem mm_es {g m : Nat} {x : Int} : ∀ {l : List WrD}, ((l.filter (fun v => v.memOf g && (decide (v.c.n ≤ m) && v.on x))).map WrD.c).map es = upE m (mE g x l)
  | [] => rfl
  | v :: l => by
    have ih := @mm_es g m x l
    unfold mE upE at ih ⊢
    cases h1 : v.memOf g <;> cases h2 : v.on x <;> by_cases h3 : v.c.n ≤ m <;> simp [List.filter_cons, h1, h2, h3, es] at ih ⊢ <;> exact ih
/-- no write in memory lies below one that is in a run, over a key -/
def OrdW (l : List WrD) : Prop := l.Pairwise (fun a b => a.g = b.g → (a.z = 1 ∨ a.z = 2) → b.z = 3 → ∀ x : Nat, a.on x = true → b.on x = true → False)
theorem aE_split {g : Nat} {x : Nat} : ∀ {l : List WrD}, l.Pairwise (fun b a => a.g = b.g → (a.z = 1 ∨ a.z = 2) → b.z = 3 → ∀ x : Nat, a.on x = true → b.on x = true → False) → (∀ v, v ∈ l → v.z ≤ 3) → aE g x l = mE g x l ++ iE g x l
  | [], _, _ => rfl
  | v :: l, h, hz => by
    obtain ⟨h1, h2⟩ := List.pairwise_cons.mp h
    have ih := aE_split (g := g) (x := x) h2 (fun v hv => hz v (List.mem_cons_of_mem _ hv))
    have hv := hz v (List.mem_cons_self ..)
    have cA : ∀ p : Bool, (v.isOf g && v.on x) = p → aE g x (v :: l) = if p then es v.c :: aE g x l else aE g x l := by
      intro p hp
      unfold aE
      rw [List.filter_cons, hp]
      cases p <;> rfl
    have cM : ∀ p : Bool, (v.memOf g && v.on x) = p → mE g x (v :: l) = if p then es v.c :: mE g x l else mE g x l := by
      intro p hp
      unfold mE
      rw [List.filter_cons, hp]
      cases p <;> rfl
    have cI : ∀ p : Bool, (inRun g v && v.on x) = p → iE g x (v :: l) = if p then es v.c :: iE g x l else iE g x l := by
      intro p hp
      unfold iE
      rw [List.filter_cons, hp]
      cases p <;> rfl
    by_cases ho : v.on x = true
    · by_cases hg : v.g = g
      · by_cases h3 : v.z = 3
        · rw [cA true (by rw [ho, Bool.and_true]; exact decide_eq_true ⟨hg, by omega⟩), cM false (by rw [ho, Bool.and_true]; exact decide_eq_false (by omega)), cI true (by rw [ho, Bool.and_true]; exact decide_eq_true ⟨hg, h3⟩), ih]
          have em : mE g x l = [] := by
            unfold mE
            rw [List.map_eq_nil_iff]
            refine List.filter_eq_nil_iff.mpr (fun u hu hb => ?_)
            rw [Bool.and_eq_true] at hb
            have hb1 := of_decide_eq_true (show decide _ = true from hb.1)
            exact h1 u hu (by omega) hb1.2 h3 x hb.2 ho
          rw [em]
          rfl
        · by_cases h0 : v.z = 0
          · rw [cA false (by rw [ho, Bool.and_true]; exact decide_eq_false (by omega)), cM false (by rw [ho, Bool.and_true]; exact decide_eq_false (by omega)), cI false (by rw [ho, Bool.and_true]; exact decide_eq_false (by omega))]
            exact ih
          · rw [cA true (by rw [ho, Bool.and_true]; exact decide_eq_true ⟨hg, h0⟩), cM true (by rw [ho, Bool.and_true]; exact decide_eq_true ⟨hg, by omega⟩), cI false (by rw [ho, Bool.and_true]; exact decide_eq_false (by omega)), ih]
            rfl
      · rw [cA false (by rw [ho, Bool.and_true]; exact decide_eq_false (by omega)), cM false (by rw [ho, Bool.and_true]; exact decide_eq_false (by omega)), cI false (by rw [ho, Bool.and_true]; exact decide_eq_false (by omega))]
        exact ih
    · have ho : v.on x = false := by simpa using ho
      rw [cA false (by rw [ho, Bool.and_false]), cM false (by rw [ho, Bool.and_false]), cI false (by rw [ho, Bool.and_false])]
      exact ih
def stkR (rss : List (List RunD)) (x : Int) : List E := rss.flatMap (fun rs => stL rs x)
theorem stk_R {x : Int} : ∀ {l : List LvD}, stk l x = stkR (l.map LvD.rs) x
  | [] => rfl
  | a :: l => by
    have ih := @stk_R x l
    unfold stk stkR at ih ⊢
    rw [List.map_cons, List.flatMap_cons, List.flatMap_cons, ih]
def RunOk (r : RunD) : Prop := r.rows.Pairwise (fun a b => a.f ≤ b.f) ∧ (∀ c, c ∈ r.rows → (c.k = 1 ∨ c.k = 2 ∨ c.k = 4) ∧ c.f = c.t) ∧ (∀ c, c ∈ r.spans → c.k = 3 ∧ c.f ≤ c.t) ∧ 0 < r.wt ∧ r.fair = true
def NumW (ws : List WrD) : Prop := ∀ i w, ws[i]? = some w → w.c.n = i + 1
def idsR (rss : List (List RunD)) : List Nat := rss.flatMap (fun rs => rs.map RunD.id)
/-- what holds of a family's levels and of all writes, at the moments that are held -/
def TI (Mom : List Nat) (nf g o : Nat) (rss : List (List RunD)) (ws : List WrD) : Prop :=
  (∀ k : Nat, k < 100 → DscS (stkR rss k)) ∧ (∀ k : Nat, k < 100 → ∀ e, e ∈ stkR rss k → ∃ w, w ∈ ws ∧ w.c.n = e.2.1 ∧ w.g = g ∧ w.z = 3 ∧ w.on k = true) ∧
  (∀ k : Nat, k < 100 → resO o (stkR rss k) = resO o (iE g k ws.reverse) ∧ ∀ m, m ∈ Mom → resO o (upE m (stkR rss k)) = resO o (upE m (iE g k ws.reverse))) ∧
  (∀ (j : Nat) (rs : List RunD), rss[j]? = some rs → 0 < j → isRis rs = true) ∧ (∀ rs, rs ∈ rss → ∀ r, r ∈ rs → RunOk r) ∧ (idsR rss).Nodup ∧ (∀ i, i ∈ idsR rss → 0 < i ∧ i ≤ nf) ∧ (∀ rs, rss[0]? = some rs → rs.length ≤ 1000)
theorem TI.mom {Mom Mom' : List Nat} {nf nf' g o : Nat} {rss : List (List RunD)} {ws : List WrD} (h : TI Mom nf g o rss ws) (hm : ∀ m, m ∈ Mom' → m ∈ Mom) (hn : nf ≤ nf') : TI Mom' nf' g o rss ws := by
  obtain ⟨h1, h2, h3, h4, h5, h6, h7, h8⟩ := h
  exact ⟨h1, h2, fun k hk => ⟨(h3 k hk).1, fun m hm9 => (h3 k hk).2 m (hm m hm9)⟩, h4, h5, h6, fun i hi => ⟨(h7 i hi).1, Nat.le_trans (h7 i hi).2 hn⟩, h8⟩
/-- all that a stack depends on in the writes -/
theorem TI.ws {Mom : List Nat} {nf g o : Nat} {rss : List (List RunD)} {ws ws' : List WrD} (h : TI Mom nf g o rss ws) (hi : ∀ k : Nat, k < 100 → iE g k ws'.reverse = iE g k ws.reverse) (hw : ∀ w, w ∈ ws → w.g = g → w.z = 3 → ∃ w', w' ∈ ws' ∧ w'.c = w.c ∧ w'.g = g ∧ w'.z = 3 ∧ w'.s = w.s) : TI Mom nf g o rss ws' := by
  obtain ⟨h1, h2, h3, h4⟩ := h
  refine ⟨h1, fun k hk e he => ?_, fun k hk => ?_, h4⟩
  · obtain ⟨w, a1, a2, a3, a4, a5⟩ := h2 k hk e he
    obtain ⟨w', b1, b2, b3, b4, b5⟩ := hw w a1 a3 a4
    refine ⟨w', b1, by rw [b2]; exact a2, b3, b4, ?_⟩
    unfold WrD.on at a5 ⊢
    rw [b2, b5]
    exact a5
  · rw [hi k hk]
    exact h3 k hk
theorem iE_num {g : Nat} {x : Int} {ws : List WrD} (hN : NumW ws) : ∀ e, e ∈ iE g x ws.reverse → e.2.1 ≤ ws.length := by
  intro e he
  obtain ⟨w, hw, rfl⟩ := List.mem_map.mp he
  have hw2 := List.mem_reverse.mp (List.mem_filter.mp hw).1
  obtain ⟨i, hi⟩ := List.getElem?_of_mem hw2
  have h1 := hN i w hi
  have h2 := (List.getElem?_eq_some_iff.mp hi).1
  show w.c.n ≤ _
  omega
theorem TI.num {Mom : List Nat} {nf g o : Nat} {rss : List (List RunD)} {ws : List WrD} (h : TI Mom nf g o rss ws) (hN : NumW ws) {k : Nat} (hk : k < 100) : ∀ e, e ∈ stkR rss k → e.2.1 ≤ ws.length := by
  intro e he
  obtain ⟨w, hw, h1, -⟩ := h.2.1 k hk e he
  obtain ⟨i, hi⟩ := List.getElem?_of_mem hw
  have h3 := hN i w hi
  have h2 := (List.getElem?_eq_some_iff.mp hi).1
  omega
/-- a new moment: that of now -/
theorem TI.now {Mom : List Nat} {nf g o m : Nat} {rss : List (List RunD)} {ws : List WrD} (h : TI Mom nf g o rss ws) (hN : NumW ws) (hm : ws.length ≤ m) : TI (m :: Mom) nf g o rss ws := by
  have hn := fun k hk => h.num hN (k := k) hk
  obtain ⟨h1, h2, h3, h4⟩ := h
  refine ⟨h1, h2, fun k hk => ⟨(h3 k hk).1, fun m' hm' => ?_⟩, h4⟩
  rcases List.mem_cons.mp hm' with rfl | hm'
  · rw [upE_all (fun e he => Nat.le_trans (hn k hk e he) hm), upE_all (fun e he => Nat.le_trans (iE_num hN e he) hm)]
    exact (h3 k hk).1
  · exact (h3 k hk).2 m' hm'
/-- looking finds what all writes give -/
theorem lk_an {Mom : List Nat} {nf m k : Nat} {g : FamD} {ws : List WrD} (h : TI Mom nf g.g g.o (g.lv.map LvD.rs) ws) (hN : NumW ws) (hO : OrdW ws) (hz : ∀ v, v ∈ ws → v.z ≤ 3) (hm : m ∈ Mom ∨ ws.length ≤ m) (hk : k < 100) : sameV (lkF g ws m k) (anF g ws m k) := by
  apply opt_same
  have e1 : opt (lkF g ws m k) = resO g.o (upE m (mE g.g k ws.reverse) ++ upE m (stkR (g.lv.map LvD.rs) k)) := by
    unfold lkF
    rw [goF_res0, List.map_append, lvL_es, stk_R]
    unfold mmL
    rw [mm_es]
  have e2 : opt (anF g ws m k) = resO g.o (upE m (mE g.g k ws.reverse) ++ upE m (iE g.g k ws.reverse)) := by
    unfold anF
    rw [goF_res0]
    unfold anL
    rw [an_es, aE_split (List.pairwise_reverse.mpr hO) (fun v hv => hz v (List.mem_reverse.mp hv)), upE_app]
  rw [e1, e2]
  refine resO_app ?_
  rcases hm with hm | hm
  · exact (h.2.2.1 k hk).2 m hm
  · have h2 := h.now hN hm
    exact (h2.2.2.1 k hk).2 m (List.mem_cons_self ..)
theorem iE_app {g : Nat} {x : Int} {a b : List WrD} : iE g x (a ++ b) = iE g x a ++ iE g x b := by
  unfold iE
  rw [List.filter_append, List.map_append]
/-- a write that comes, and is in no run of the family -/
theorem iE_snoc_no {g : Nat} {x : Int} {ws : List WrD} {w : WrD} (h : w.z ≠ 3 ∨ w.g ≠ g) : iE g x (ws ++ [w]).reverse = iE g x ws.reverse := by
  rw [List.reverse_append, iE_app]
  have : iE g x [w].reverse = [] := by
    unfold iE
    rw [List.map_eq_nil_iff]
    refine List.filter_eq_nil_iff.mpr (fun u hu hb => ?_)
    rw [List.mem_singleton.mp hu, Bool.and_eq_true] at hb
    have hb1 := of_decide_eq_true (show decide _ = true from hb.1)
    omega
  rw [this]
  rfl
theorem iE_map {g : Nat} {x : Int} {φ : WrD → WrD} : ∀ {ws : List WrD}, (∀ w, w ∈ ws → (inRun g (φ w) && (φ w).on x) = (inRun g w && w.on x) ∧ (φ w).c = w.c) → iE g x (ws.map φ) = iE g x ws
  | [], _ => rfl
  | w :: ws, h => by
    have ih := iE_map (fun w hw => h w (List.mem_cons_of_mem _ hw))
    obtain ⟨h1, h2⟩ := h w (List.mem_cons_self ..)
    unfold iE at ih ⊢
    rw [List.map_cons, List.filter_cons, List.filter_cons, h1]
    split
    · rw [List.map_cons, List.map_cons, ih, h2]
    · exact ih
