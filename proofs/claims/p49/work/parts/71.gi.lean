/-! ALL THAT HOLDS OF AN OBJECT, and that writing, flushing, bringing in, moments keep it -/
def MeI (Mom : List Nat) (fs : List FamD) (me : Option MeD) : Prop := ∀ mm, me = some mm → mm.lv ≤ 2 ∧ mm.key < 100 ∧ ∃ (i : Nat) (g : FamD), fs[i]? = some g ∧ mm.h = g.a ∧ MrQ mm.lv mm.ins (g.lv.map LvD.rs) ∧ KI Mom mm.lv mm.ins mm.kept mm.key (g.lv.map LvD.rs)
def GI (Mom : List Nat) (nf : Nat) (fs : List FamD) (ws : List WrD) (bs : List BkD) (me : Option MeD) : Prop :=
  NumW ws ∧ OrdW ws ∧ (∀ w, w ∈ ws → WOk w) ∧ (∀ (i : Nat) (g : FamD), fs[i]? = some g → g.g = i ∧ TI Mom nf g.g g.o (g.lv.map LvD.rs) ws) ∧ (∀ b, b ∈ bs → BI nf fs b ws) ∧ MeI Mom fs me
theorem MeI.none {Mom : List Nat} {fs : List FamD} : MeI Mom fs none := fun mm h => by cases h
theorem at_g {α : Type} {A B : List α} {x y : α} {i : Nat} : (A ++ x :: B)[i]? = if i = A.length then some x else (A ++ y :: B)[i]? := by
  by_cases h : i = A.length
  · rw [if_pos h, h, List.getElem?_append_right (Nat.le_refl _), Nat.sub_self]
    rfl
  · rw [if_neg h]
    by_cases h2 : i < A.length
    · rw [List.getElem?_append_left h2, List.getElem?_append_left h2]
    · rw [List.getElem?_append_right (by omega), List.getElem?_append_right (by omega)]
      obtain ⟨d, hd⟩ : ∃ d, i - A.length = d + 1 := ⟨i - A.length - 1, by omega⟩
      rw [hd]
      rfl
theorem way_num {Mom : List Nat} {nf g o j : Nat} {rss : List (List RunD)} {ws : List WrD} {ins : List RunD} (h : TI Mom nf g o rss ws) (hN : NumW ws) (hm : MrQ j ins rss) : ∀ k : Nat, k < 100 → ∀ c, c ∈ wayW k ins → c.n ≤ ws.length := by
  intro k hk c hc
  obtain ⟨r, hr, hrs, hov⟩ := wayW_mem.mp hc
  obtain ⟨rs, h1, h2⟩ := hm.mem r hr
  have he : es c ∈ rE r k := by
    refine rE_perm.mem_iff.mpr (List.mem_map_of_mem (List.mem_append.mpr ?_))
    unfold ovK
    rcases hrs with q | q
    · exact .inr (List.mem_filter.mpr ⟨q, hov⟩)
    · exact .inl (List.mem_filter.mpr ⟨q, hov⟩)
  exact h.num hN hk (es c) (List.mem_flatMap.mpr ⟨rs, h1, List.mem_flatMap.mpr ⟨r, h2, he⟩⟩)
section GIs
variable {Mom Mom' : List Nat} {nf : Nat} {fs : List FamD} {ws : List WrD} {bs : List BkD} {me : Option MeD} {g : FamD} {f1 f2 : List FamD}
/-- another row of writes, in which no write's place has changed but between memory's two -/
theorem GI.zmap {φ : WrD → WrD} (h : GI Mom nf fs ws bs me) (hφ : Zo φ) (h3 : ∀ w, (φ w).z = 3 ↔ w.z = 3) (h12 : ∀ w, ((φ w).z = 1 ∨ (φ w).z = 2) → (w.z = 1 ∨ w.z = 2)) (hz : ∀ w, w.z ≤ 3 → (φ w).z ≤ 3) : GI Mom nf fs (ws.map φ) bs me := by
  obtain ⟨a1, a2, a3, a4, a5, a6⟩ := h
  refine ⟨a1.map (fun w => (hφ w).2.2.1), a2.zmap hφ (fun w => (h3 w).mp) h12, fun w hw => ?_, fun i g hg => ⟨(a4 i g hg).1, (a4 i g hg).2.zmap hφ (fun w _ _ => h3 w)⟩, fun b hb => (a5 b hb).map hφ, a6⟩
  obtain ⟨v, hv, rfl⟩ := List.mem_map.mp hw
  exact (a3 v hv).zmap (hφ v).2.2.1 (hφ v).2.2.2 (hz v (a3 v hv).1) (h12 v)
theorem GI.sync (h : GI Mom nf fs ws bs me) : GI Mom nf fs (ws.map synW) bs me := h.zmap zo_syn (fun _ => syn_z.1) (fun _ => syn_z.2.1.mp) (fun _ => syn_z.2.2)
theorem GI.noMe (h : GI Mom nf fs ws bs me) : GI Mom nf fs ws bs none := ⟨h.1, h.2.1, h.2.2.1, h.2.2.2.1, h.2.2.2.2.1, MeI.none⟩
theorem GI.less (h : GI Mom nf fs ws bs me) (hm : ∀ m, m ∈ Mom' → m ∈ Mom) : GI Mom' nf fs ws bs me := by
  obtain ⟨a1, a2, a3, a4, a5, a6⟩ := h
  refine ⟨a1, a2, a3, fun i g hg => ⟨(a4 i g hg).1, (a4 i g hg).2.mom hm (Nat.le_refl _)⟩, a5, fun mm hmm => ?_⟩
  obtain ⟨b1, b2, i, g, b3, b4, b5, b6⟩ := a6 mm hmm
  exact ⟨b1, b2, i, g, b3, b4, b5, b6.to (fun m q => .inl (hm m q)) (fun _ _ _ q => q)⟩
theorem GI.crash (h : GI Mom nf fs ws bs me) : GI [] nf fs (ws.map crW) bs none := ((h.less (Mom' := []) (fun m q => by cases q)).noMe).zmap zo_cr (fun _ => cr_z.1) (fun _ => cr_z.2.1) (fun _ => cr_z.2.2)
/-- a new moment -/
theorem GI.snap (h : GI Mom nf fs ws bs me) : GI (Mom ++ [ws.length]) nf fs ws bs me := by
  obtain ⟨a1, a2, a3, a4, a5, a6⟩ := h
  have hm : ∀ m, m ∈ Mom ++ [ws.length] → m ∈ ws.length :: Mom := by
    intro m hm
    rcases List.mem_append.mp hm with q | q
    · exact List.mem_cons_of_mem _ q
    · rw [List.mem_singleton.mp q]
      exact List.mem_cons_self ..
  refine ⟨a1, a2, a3, fun i g hg => ⟨(a4 i g hg).1, ((a4 i g hg).2.now a1 (Nat.le_refl _)).mom hm (Nat.le_refl _)⟩, a5, fun mm hmm => ?_⟩
  obtain ⟨b1, b2, i, g, b3, b4, b5, b6⟩ := a6 mm hmm
  refine ⟨b1, b2, i, g, b3, b4, b5, b6.to (fun m q => ?_) (fun _ _ _ q => q)⟩
  rcases List.mem_append.mp q with q | q
  · exact .inl q
  · rw [List.mem_singleton.mp q]
    exact .inr (way_num (a4 i g b3).2 a1 b5)
/-- a write that goes into memory -/
theorem GI.write {w : WrD} (h : GI Mom nf fs ws bs me) (hw : WOk w) (hz : w.z ≠ 3) (hn : w.c.n = ws.length + 1) : GI Mom nf fs (ws ++ [w]) bs me := by
  obtain ⟨a1, a2, a3, a4, a5, a6⟩ := h
  refine ⟨a1.snoc hn, a2.snoc (fun q => absurd q hz), fun v hv => ?_, fun i g hg => ⟨(a4 i g hg).1, (a4 i g hg).2.ws (fun k hk => iE_snoc_no (.inl hz)) (fun v hv b1 b2 => ⟨v, List.mem_append_left _ hv, rfl, b1, b2, rfl⟩)⟩, fun b hb => (a5 b hb).snoc hw, a6⟩
  rcases List.mem_append.mp hv with hv | hv
  · exact a3 v hv
  · rw [List.mem_singleton.mp hv]
    exact hw
/-- one family's levels change -/
theorem GI.fam {nf' : Nat} {ws' : List WrD} {t : List LvD} (h : GI Mom nf fs ws bs me) (hf : fs = f1 ++ g :: f2) (hnf : nf ≤ nf') (hN : NumW ws') (hO : OrdW ws') (hW : ∀ w, w ∈ ws' → WOk w) (hT : TI Mom nf' g.g g.o (t.map LvD.rs) ws') (ho : ∀ (i : Nat) (x : FamD), fs[i]? = some x → x.g ≠ g.g → TI Mom nf' x.g x.o (x.lv.map LvD.rs) ws') (hb : ∀ b, b ∈ bs → BI nf' fs b ws')
    (hme : ∀ mm, me = some mm → mm.h = g.a → MrQ mm.lv mm.ins (g.lv.map LvD.rs) → KI Mom mm.lv mm.ins mm.kept mm.key (g.lv.map LvD.rs) → MrQ mm.lv mm.ins (t.map LvD.rs) ∧ KI Mom mm.lv mm.ins mm.kept mm.key (t.map LvD.rs)) : GI Mom nf' (f1 ++ setLv g t :: f2) ws' bs me := by
  obtain ⟨a1, a2, a3, a4, a5, a6⟩ := h
  have hgi : fs[f1.length]? = some g := by
    rw [hf, List.getElem?_append_right (Nat.le_refl _), Nat.sub_self]
    rfl
  have hgg := (a4 _ _ hgi).1
  have e : ∀ i : Nat, (f1 ++ setLv g t :: f2)[i]? = if i = f1.length then some (setLv g t) else fs[i]? := fun i => by rw [hf]; exact at_g
  refine ⟨hN, hO, hW, fun i x hx => ?_, fun b hb9 => (hb b hb9).fams (by rw [hf, List.length_append, List.length_append]; rfl) (fun i x hx => ?_), fun mm hmm => ?_⟩
  · rw [e] at hx
    by_cases hi : i = f1.length
    · rw [if_pos hi] at hx
      cases hx
      exact ⟨by rw [hi]; exact hgg, hT⟩
    · rw [if_neg hi] at hx
      have := (a4 i x hx).1
      exact ⟨this, ho i x hx (by omega)⟩
  · rw [e] at hx
    by_cases hi : i = f1.length
    · rw [if_pos hi] at hx
      cases hx
      exact ⟨g, by rw [hi]; exact hgi, rfl, rfl⟩
    · rw [if_neg hi] at hx
      exact ⟨x, hx, rfl, rfl⟩
  · obtain ⟨b1, b2, i, x, b3, b4, b5, b6⟩ := a6 mm hmm
    by_cases hi : i = f1.length
    · rw [hi, hgi] at b3
      cases b3
      obtain ⟨c1, c2⟩ := hme mm hmm b4 b5 b6
      exact ⟨b1, b2, f1.length, setLv g t, by rw [e, if_pos rfl], b4, c1, c2⟩
    · exact ⟨b1, b2, i, x, by rw [e, if_neg hi]; exact b3, b4, b5, b6⟩
theorem lv_mid {A B : List LvD} {l' : LvD} {rs : List RunD} (hl : l'.rs = rs) : (A ++ l' :: B).map LvD.rs = A.map LvD.rs ++ rs :: B.map LvD.rs := by
  rw [List.map_append, List.map_cons, hl]
/-- a flush -/
theorem GI.flush {l0 l0' : LvD} {lt : List LvD} {r : RunD} (h : GI Mom nf fs ws bs me) (hf : fs = f1 ++ g :: f2) (hg : g.lv = l0 :: lt) (hl : l0'.rs = r :: l0.rs) (hr : r.rows = flR g.g [] ws) (hs : r.spans = flS g.g ws) (hid : r.id = nf + 1) (hmg : r.mg = false) (hn : 0 < cntM g.g ws) (h6 : l0.rs.length ≤ 999) :
    GI Mom (nf + 1) (f1 ++ setLv g (l0' :: lt) :: f2) (ws.map (flW g.g)) bs me := by
  have h' := h
  obtain ⟨a1, a2, a3, a4, a5, a6⟩ := h'
  have hgi : fs[f1.length]? = some g := by
    rw [hf, List.getElem?_append_right (Nat.le_refl _), Nat.sub_self]
    rfl
  have hTg := (a4 _ _ hgi).2
  rw [hg, List.map_cons] at hTg
  have hT := hTg.flush a1 a2 a3 hr hs hid hmg hn h6
  refine h.fam hf (Nat.le_succ nf) (a1.map (fun w => (zo_fl w).2.2.1)) a2.flush (fun w hw => ?_) ?_ (fun i x hx hne => ((a4 i x hx).2.flushO hne).mom (fun _ q => q) (Nat.le_succ nf)) (fun b hb => ((a5 b hb).map zo_fl).mono (Nat.le_succ nf)) (fun mm hmm hh hq hk => ?_)
  · obtain ⟨v, hv, rfl⟩ := List.mem_map.mp hw
    have hv2 := a3 v hv
    cases hm : v.memOf g.g with
    | true =>
      rw [flW_t hm]
      refine hv2.zmap rfl rfl (Nat.le_refl 3) (fun q => ?_)
      have q' : (3 : Nat) = 1 ∨ (3 : Nat) = 2 := q
      omega
    | false =>
      rw [flW_f hm]
      exact hv2
  · rw [List.map_cons, hl]
    exact hT
  · have hfr := hq.fresh (nf := nf) (by rw [hg, List.map_cons]; exact fun i hi => (hTg.2.2.2.2.2.2.1 i hi).2)
    rw [hg, List.map_cons] at hq hk
    have e : (l0' :: lt).map LvD.rs = ([] : List (List RunD)) ++ insJ ([] : List (List RunD)).length r l0.rs :: lt.map LvD.rs := by
      rw [List.map_cons, hl]
      rfl
    rw [e]
    have hq' : MrQ mm.lv mm.ins (([] : List (List RunD)) ++ l0.rs :: lt.map LvD.rs) := hq
    refine ⟨hq'.ins (by rw [hid]; exact hfr) (fun q => by simp at q), hk.to (fun m q => .inl q) (fun k hk9 _ hb => ?_)⟩
    have hb' : Bel mm.lv (([] : List (List RunD)) ++ l0.rs :: lt.map LvD.rs) k k := hb
    exact hb'.ins (fun q => by simp at q)
/-- bringing in -/
theorem GI.bring {jl : Nat} {l l' : LvD} {r : RunD} {w : WrD} {first step cnt : Nat} {v : Int32} (h : GI Mom nf fs ws bs me) (hf : fs = f1 ++ g :: f2) (hgl : g.lv[jl]? = some l) (hl : l'.rs = insLv jl r l) (hjl : jl = lvF me g.a first ((first + step * (cnt - 1) : Nat) : Int) 0 0 g.lv) (hcf : w.c.f = first) (hct : w.c.t = first + step * (cnt - 1)) (hws : w.s = step) (hes : es w.c = (1, ws.length + 1, v)) (hwg : w.g = g.g) (hwz : w.z = 3) (hwo : WOk w)
    (hr : r.rows.map Prod.snd = brL (ws.length + 1) first step v cnt) (hs : r.spans = []) (hst : 1 ≤ step) (hc : 1 ≤ cnt) (hfs : first + step * (cnt - 1) < 100) (hid : r.id = nf + 1) (hmg : r.mg = false) (hno : ws.any (fun v => v.memOf g.g && v.c.ov first ((first + step * (cnt - 1) : Nat) : Int)) = false) (h6 : ∀ l0, g.lv[0]? = some l0 → l0.rs.length ≤ 999) :
    GI Mom (nf + 1) (f1 ++ setLv g (g.lv.take jl ++ l' :: g.lv.drop (jl + 1)) :: f2) (ws ++ [w]) bs me := by
  have h' := h
  obtain ⟨a1, a2, a3, a4, a5, a6⟩ := h'
  have hgi : fs[f1.length]? = some g := by
    rw [hf, List.getElem?_append_right (Nat.le_refl _), Nat.sub_self]
    rfl
  have hTg := (a4 _ _ hgi).2
  obtain ⟨em, eml⟩ := at_mid hgl
  have hAl : ((g.lv.take jl).map LvD.rs).length = jl := by rw [List.length_map]; exact eml
  have eold : g.lv.map LvD.rs = (g.lv.take jl).map LvD.rs ++ l.rs :: (g.lv.drop (jl + 1)).map LvD.rs := by
    have e9 := congrArg (List.map LvD.rs) em
    rw [List.map_append, List.map_cons] at e9
    exact e9
  have enew : (g.lv.take jl ++ l' :: g.lv.drop (jl + 1)).map LvD.rs = (g.lv.take jl).map LvD.rs ++ insJ ((g.lv.take jl).map LvD.rs).length r l.rs :: (g.lv.drop (jl + 1)).map LvD.rs := by
    rw [hAl, ← insLv_J]
    exact lv_mid hl
  have hwn : w.c.n = ws.length + 1 := congrArg (fun e : E => e.2.1) hes
  have hfree : 0 < jl → ∀ n, n ≤ jl → ∀ q, g.lv[n]? = some q → q.rs.any (fun r => r.ov first ((first + step * (cnt - 1) : Nat) : Int)) = false ∧ clm me g.a (n : Int) first ((first + step * (cnt - 1) : Nat) : Int) = false := by
    intro h0 n hn q hq
    rcases @lvF_free me g.a first ((first + step * (cnt - 1) : Nat) : Int) g.lv 0 0 with h9 | ⟨-, h9⟩
    · omega
    · have := h9 n (by omega) q hq
      rw [Nat.zero_add] at this
      exact this
  have hrow : ∀ c, c ∈ r.rows → (c.k = 1 ∧ c.f = c.t) ∧ first ≤ c.f ∧ c.f ≤ first + step * (cnt - 1) := by
    intro c hc9
    have h9 : c.2 ∈ r.rows.map Prod.snd := List.mem_map_of_mem hc9
    rw [hr] at h9
    obtain ⟨i, hi, e⟩ := List.mem_map.mp h9
    have hi2 := List.mem_range.mp hi
    have e1 : c.k = 1 := by show c.2.1 = 1; rw [← e]
    have e2 : c.f = first + step * i := by show c.2.2.2.1 = _; rw [← e]
    have e3 : c.t = first + step * i := by show c.2.2.2.2.1 = _; rw [← e]
    have hmul : step * i ≤ step * (cnt - 1) := Nat.mul_le_mul_left _ (by omega)
    exact ⟨⟨e1, by omega⟩, by omega, by omega⟩
  have hrl : r.rows.length = cnt := by
    have := congrArg List.length hr
    rw [List.length_map] at this
    rw [this]
    simp [brL]
  have hok : RunOk r := by
    refine ⟨?_, fun c hc9 => ⟨.inl (hrow c hc9).1.1, (hrow c hc9).1.2⟩, fun c hc9 => (by rw [hs] at hc9; cases hc9), (by unfold RunD.wt; omega), decide_eq_true (.inl hmg)⟩
    have h9 : (r.rows.map Prod.snd).Pairwise (fun a b => a.2.2.1 ≤ b.2.2.1) := by
      rw [hr]
      unfold brL
      rw [List.pairwise_map]
      refine List.Pairwise.imp ?_ List.pairwise_lt_range
      intro a b hab
      show first + step * a ≤ first + step * b
      have := Nat.mul_le_mul_left step (Nat.le_of_lt hab)
      omega
    rw [List.pairwise_map] at h9
    exact h9
  have hrg : (w.c.f : Int) ≤ r.least ∧ r.great ≤ (w.c.t : Int) := by
    refine run_in (by omega) (by omega) (fun c hc9 => ?_)
    rcases hc9 with hc9 | hc9
    · have := hrow c hc9
      omega
    · rw [hs] at hc9
      cases hc9
  have hT : TI Mom (nf + 1) g.g g.o ((g.lv.take jl ++ l' :: g.lv.drop (jl + 1)).map LvD.rs) (ws ++ [w]) := by
    rw [enew]
    rw [eold] at hTg
    refine hTg.bring a1 hwn hwg hwz (fun k hk => rE_bring (v := v) hr hs hcf hct hws hst hc (by rw [hes])) (fun hA rs' hrs' q hq hov => ?_) hrg hok hid (fun hA => ?_)
    · have hex : ∃ n q', n ≤ jl ∧ g.lv[n]? = some q' ∧ q'.rs = rs' := by
        rcases List.mem_append.mp hrs' with hrs' | hrs'
        · obtain ⟨q', hq', e⟩ := List.mem_map.mp hrs'
          obtain ⟨n, hn⟩ := List.getElem?_of_mem hq'
          have hn2 := (List.getElem?_eq_some_iff.mp hn).1
          rw [List.getElem?_take, if_pos (by omega)] at hn
          exact ⟨n, q', by omega, hn, e⟩
        · exact ⟨jl, l, Nat.le_refl _, hgl, (List.mem_singleton.mp hrs').symm⟩
      obtain ⟨n, q', n1, n2, n3⟩ := hex
      have h9 := (hfree (by omega) n n1 q' n2).1
      rw [n3] at h9
      rw [hcf, hct] at hov
      exact List.any_eq_false.mp h9 q hq hov
    · have hj0 : jl = 0 := by
        rw [← hAl, hA]
        rfl
      subst hj0
      exact h6 l hgl
  refine h.fam hf (Nat.le_succ nf) (a1.snoc hwn) (a2.brn (by rw [hwg, hcf, hct]; exact hno)) (fun u hu => ?_) hT (fun i x hx hne => ((a4 i x hx).2.ws (fun k hk => iE_snoc_no (.inr (fun q => hne (q.symm.trans hwg)))) (fun v hv b1 b2 => ⟨v, List.mem_append_left _ hv, rfl, b1, b2, rfl⟩)).mom (fun _ q => q) (Nat.le_succ nf)) (fun b hb => ((a5 b hb).snoc hwo).mono (Nat.le_succ nf)) (fun mm hmm hh hq hk => ?_)
  · rcases List.mem_append.mp hu with hu | hu
    · exact a3 u hu
    · rw [List.mem_singleton.mp hu]
      exact hwo
  · have hfr := hq.fresh (nf := nf) (fun i hi => (hTg.2.2.2.2.2.2.1 i hi).2)
    have hall : ∀ n : Nat, 0 < jl → n ≤ jl → (n = mm.lv ∨ n = mm.lv + 1) → ¬ (lstR 100 mm.ins ≤ ((first + step * (cnt - 1) : Nat) : Int) ∧ (first : Int) ≤ grtR (-1) mm.ins) := by
      intro n h0 hn hnl hc9
      have hlt : n < g.lv.length := Nat.lt_of_le_of_lt hn (List.getElem?_eq_some_iff.mp hgl).1
      have h9 := (hfree h0 n hn _ (List.getElem?_eq_getElem hlt)).2
      rw [hmm] at h9
      exact of_decide_eq_false (show decide _ = false from h9) ⟨hh, by omega, hc9.1, hc9.2⟩
    rw [enew]
    rw [eold] at hq hk
    refine ⟨hq.ins (by rw [hid]; exact hfr) (fun q hov => ?_), hk.to (fun m q => .inl q) (fun k hk9 hw hb => hb.ins (fun q hov => ?_))⟩
    · have ho := of_decide_eq_true (show decide _ = true from hov)
      exact hall jl (by omega) (Nat.le_refl _) (.inr (by omega)) (by omega)
    · have ho := of_decide_eq_true (show decide _ = true from hov)
      obtain ⟨c, hc9⟩ := hw
      obtain ⟨r9, hr9, hrs9, hov9⟩ := wayW_mem.mp hc9
      have b1 := run_of hrs9
      have b2 := of_decide_eq_true (show decide _ = true from hov9)
      have b3 := (@lstR_le mm.ins 100).2 r9 hr9
      have b4 := (@grtR_ge mm.ins (-1)).2 r9 hr9
      exact hall mm.lv (by omega) (by omega) (.inl rfl) (by omega)
end GIs
