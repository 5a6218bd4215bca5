/-! BACKUPS, RESTORING, MERGING keep it -/
section GIm
variable {Mom Mom' : List Nat} {nf : Nat} {fs : List FamD} {ws : List WrD} {bs : List BkD} {me : Option MeD} {mm : MeD} {g : FamD} {f1 f2 : List FamD}
theorem GI.at (h : GI Mom nf fs ws bs me) (hg : g ∈ fs) : TI Mom nf g.g g.o (g.lv.map LvD.rs) ws := by
  obtain ⟨i, hi⟩ := List.getElem?_of_mem hg
  exact (h.2.2.2.1 i g hi).2
theorem GI.backup {b : BkD} (h : GI Mom nf fs ws bs me) (hs : b.sts = stB ws) (hd : b.fams.map FamD.dat = fs.map FamD.dat) : GI Mom nf fs ws (bs ++ [b]) me := by
  have h' := h
  obtain ⟨a1, a2, a3, a4, a5, a6⟩ := h'
  refine ⟨a1, a2, a3, a4, fun x hx => ?_, a6⟩
  rcases List.mem_append.mp hx with hx | hx
  · exact a5 x hx
  · rw [List.mem_singleton.mp hx]
    exact BI.new a2 a3 hs hd (fun g hg => ⟨Mom, h.at hg⟩)
theorem GI.restore {b : BkD} {fs' : List FamD} (h : GI Mom nf fs ws bs me) (hb : b ∈ bs) (hR : Rs fs b.fams fs') : GI [] nf fs' (setSt b.sts 0 ws) bs none := by
  obtain ⟨a1, a2, a3, a4, a5, a6⟩ := h
  obtain ⟨b1, b2, b3, b4, b5⟩ := a5 b hb
  refine ⟨a1.setSt, b2, b3, fun i x hx => ?_, fun z hz => (a5 z hz).set.fams (Rs_len hR) (fun i x hx => ?_), MeI.none⟩
  · obtain ⟨y, z, h1, h2, h3, h4, -, h6⟩ := Rs_at hR hx
    rw [h3, h4, h6]
    exact ⟨(a4 i y h1).1, (b5 i z y h2 h1).2.2⟩
  · obtain ⟨y, z, h1, h2, h3, h4, -, -⟩ := Rs_at hR hx
    exact ⟨y, h1, h3, h4⟩
theorem GI.start {i : Nat} {l l2 : LvD} (h : GI Mom nf fs ws bs none) (hg : fs[i]? = some g) (hlv : mm.lv ≤ 2) (hl : g.lv[mm.lv]? = some l) (hl2 : g.lv[mm.lv + 1]? = some l2) (hh : mm.h = g.a) (hi : mm.ins = insOf mm.lv l l2) (hk : mm.kept = []) (hkey : mm.key = -1) : GI Mom nf fs ws bs (some mm) := by
  obtain ⟨a1, a2, a3, a4, a5, -⟩ := h
  refine ⟨a1, a2, a3, a4, a5, fun m hm => ?_⟩
  cases hm
  refine ⟨hlv, by omega, i, g, hg, hh, ?_, ?_⟩
  · rw [hi]
    exact MrQ.new (a4 i g hg).2 hl hl2
  · rw [hk, hkey]
    exact KI.new
/-- the family of a merging, its two levels -/
theorem GI.mrg (h : GI Mom nf fs ws bs (some mm)) (h4 : ∀ g, g ∈ fs → g.lv.length = 4) : ∃ f1 g f2 lv1 ls lt lv2, fs = f1 ++ g :: f2 ∧ mm.h = g.a ∧ g.lv = lv1 ++ ls :: lt :: lv2 ∧ lv1.length = mm.lv ∧ mm.lv ≤ 2 ∧ mm.key < 100 ∧ MrQ mm.lv mm.ins (g.lv.map LvD.rs) ∧ KI Mom mm.lv mm.ins mm.kept mm.key (g.lv.map LvD.rs) := by
  obtain ⟨b1, b2, i, g, b3, b4, b5, b6⟩ := h.2.2.2.2.2 mm rfl
  obtain ⟨e1, e2⟩ := at_mid b3
  have hl := h4 g (List.mem_of_getElem? b3)
  have hS : g.lv[mm.lv]? = some (g.lv[mm.lv]'(by omega)) := List.getElem?_eq_getElem _
  have hT : g.lv[mm.lv + 1]? = some (g.lv[mm.lv + 1]'(by omega)) := List.getElem?_eq_getElem _
  obtain ⟨e3, e4⟩ := at_mid hS
  have e5 : g.lv.drop (mm.lv + 1) = g.lv[mm.lv + 1]'(by omega) :: g.lv.drop (mm.lv + 2) := by
    rw [List.getElem_cons_drop]
  rw [e5] at e3
  exact ⟨_, g, _, g.lv.take mm.lv, _, _, g.lv.drop (mm.lv + 2), e1, b4, e3, e4, b1, b2, b5, b6⟩
theorem GI.insOk (h : GI Mom nf fs ws bs me) (hg : g ∈ fs) {j : Nat} {ins : List RunD} (hq : MrQ j ins (g.lv.map LvD.rs)) : ∀ r, r ∈ ins → RunOk r := by
  intro r hr
  obtain ⟨rs, h1, h2⟩ := hq.mem r hr
  exact (h.at hg).2.2.2.2.1 rs h1 r h2
/-- a step at a key -/
theorem GI.step {kk kc dn : Nat} (h : GI Mom nf fs ws bs (some mm)) (hf : fs = f1 ++ g :: f2) (hh : mm.h = g.a) (hlv : mm.lv ≤ 2) (hky : mm.key < 100) (hq : MrQ mm.lv mm.ins (g.lv.map LvD.rs)) (hk : KI Mom mm.lv mm.ins mm.kept mm.key (g.lv.map LvD.rs)) (hkey : nxK mm.key 100 mm.ins = (kk : Int)) (hk1 : kk < 100) :
    GI Mom nf fs ws bs (some ((mm.setS (nxK mm.key 100 mm.ins) dn).setK kc (mm.kept ++ selB (wayW (nxK mm.key 100 mm.ins) mm.ins) (sfK ws.length Mom (ovBl ((mm.lv : Int) + 1) (nxK mm.key 100 mm.ins) (nxK mm.key 100 mm.ins) 1 (g.lv.drop 1)) (wayW (nxK mm.key 100 mm.ins) mm.ins))))) := by
  have hgm : g ∈ fs := by rw [hf]; simp
  have hok := h.insOk hgm hq
  have hgi : fs[f1.length]? = some g := by
    rw [hf, List.getElem?_append_right (Nat.le_refl _), Nat.sub_self]
    rfl
  have hst := hk.step (ms := Mom) (nw := ws.length) (ovb := ovBl ((mm.lv : Int) + 1) (kk : Int) (kk : Int) 1 (g.lv.drop 1)) hok hky hkey hk1 (fun m q => q) (way_num (h.at hgm) h.1 hq kk hk1) (fun q => Bel_of q)
  refine ⟨h.1, h.2.1, h.2.2.1, h.2.2.2.1, h.2.2.2.2.1, fun m hm => ?_⟩
  cases hm
  rw [hkey]
  exact ⟨hlv, by show (kk : Int) < 100; omega, f1.length, g, hgi, hh, hq, hst⟩
/-- the last step -/
theorem GI.finish {nr : List RunD} {lv1 lv2 : List LvD} {ls lt ls' lt' : LvD} (h : GI Mom nf fs ws bs (some mm)) (hf : fs = f1 ++ g :: f2) (hg : g.lv = lv1 ++ ls :: lt :: lv2) (hl1 : lv1.length = mm.lv) (hq : MrQ mm.lv mm.ins (g.lv.map LvD.rs)) (hk : KI Mom mm.lv mm.ins mm.kept mm.key (g.lv.map LvD.rs)) (hkey : nxK mm.key 100 mm.ins = 100)
    (ht : ∀ r, r ∈ mm.ins → ∀ c, c ∈ r.spans → c.t < 100) (hs : SegA mm.kept (keptR mm g.lv mm.ins) nf nr) (hls : ls'.rs = kp mm.ins ls.rs) (hlt : lt'.rs = insBs (kp mm.ins lt.rs) nr) :
    GI Mom (nf + nr.length) (f1 ++ setLv g (lv1 ++ ls' :: lt' :: lv2) :: f2) ws bs none := by
  have hgm : g ∈ fs := by rw [hf]; simp
  have hok := h.insOk hgm hq
  have hT := h.at hgm
  have emap : ∀ a b : LvD, (lv1 ++ a :: b :: lv2).map LvD.rs = lv1.map LvD.rs ++ a.rs :: b.rs :: lv2.map LvD.rs := by
    intro a b
    rw [List.map_append, List.map_cons, List.map_cons]
  have hKA := hk.full hok hkey
  have hq2 := hq
  obtain ⟨S, T, q1, q2, q3, q4, q5⟩ := hq2
  have eS : S = ls.rs ∧ T = lt.rs := by
    rw [hg, emap, List.getElem?_append_right (by rw [List.length_map]; omega), List.length_map, hl1, Nat.sub_self] at q1
    rw [hg, emap, List.getElem?_append_right (by rw [List.length_map]; omega), List.length_map, hl1, Nat.add_sub_cancel_left] at q2
    cases q1
    cases q2
    exact ⟨rfl, rfl⟩
  rw [eS.1, eS.2] at q3
  rw [eS.1] at q4
  rw [eS.2] at q5
  have hρ : ∀ c : ChD, (ovBl ((mm.lv : Int) + 1) (c.f : Int) (c.t : Int) 1 (g.lv.drop 1) || keepU mm.kept c) = false → Bel mm.lv (lv1.map LvD.rs ++ ls.rs :: lt.rs :: lv2.map LvD.rs) c.f c.t ∧ ∀ e, e ∈ mm.kept → ¬ (e.n < c.n ∧ c.ov (e.f : Int) (e.f : Int) = true) := by
    intro c hc
    rw [Bool.or_eq_false_iff] at hc
    rw [← emap, ← hg]
    exact ⟨Bel_of hc.1, keepU_no hc.2⟩
  rw [hg, emap] at hT hKA
  have hM := hT.merge (j := mm.lv) (ins := mm.ins) (kept := mm.kept) (kr := keptR mm g.lv mm.ins) (nr := nr) (ρ := fun c => ovBl ((mm.lv : Int) + 1) (c.f : Int) (c.t : Int) 1 (g.lv.drop 1) || keepU mm.kept c) h.1 (by rw [List.length_map]; exact hl1) q3 q4 q5 ⟨hk.1, hk.2.1⟩ hKA ht rfl hρ hs
  refine h.noMe.fam hf (Nat.le_add_right _ _) h.1 h.2.1 h.2.2.1 ?_ (fun i x hx _ => (h.2.2.2.1 i x hx).2.mom (fun _ q => q) (Nat.le_add_right _ _)) (fun b hb => (h.2.2.2.2.1 b hb).mono (Nat.le_add_right _ _)) (fun m hm => by cases hm)
  rw [emap, hls, hlt]
  exact hM
/-! bounds -/
theorem stL_sub {a b : List RunD} {k : Int} (h : a.Sublist b) : (stL a k).length ≤ (stL b k).length := by
  induction h with
  | slnil => exact Nat.le_refl _
  | cons x h ih =>
    show _ ≤ (rE x k ++ stL _ k).length
    rw [List.length_append]
    omega
  | cons_cons x h ih =>
    show (rE x k ++ stL _ k).length ≤ (rE x k ++ stL _ k).length
    rw [List.length_append, List.length_append]
    omega
theorem ins_stk {j : Nat} {ins : List RunD} {rss : List (List RunD)} {k : Int} (hq : MrQ j ins rss) : (stL ins k).length ≤ (stkR rss k).length := by
  obtain ⟨S, T, q1, q2, q3, -⟩ := hq
  have e := congrArg (fun l => (stL l k).length) q3
  simp only [stL_app, List.length_append] at e
  have h1 : (stL (amg ins S) k).length ≤ (stL S k).length := stL_sub List.filter_sublist
  have h2 : (stL (amg ins T) k).length ≤ (stL T k).length := stL_sub List.filter_sublist
  have h3 : (stkR rss k).length = (stkR (rss.take j) k).length + ((stL S k).length + ((stL T k).length + (stkR (rss.drop (j + 2)) k).length)) := by
    have h4 := congrArg (fun l => (stkR l k).length) (two_at q1 q2).1
    rw [stkR_app, List.length_append] at h4
    have h5 : stkR (S :: T :: rss.drop (j + 2)) k = stL S k ++ (stL T k ++ stkR (rss.drop (j + 2)) k) := rfl
    rw [h5, List.length_append, List.length_append] at h4
    exact h4
  omega
theorem way_stk {j : Nat} {ins : List RunD} {rss : List (List RunD)} {k : Nat} (hq : MrQ j ins rss) : (wayW k ins).length ≤ (stkR rss (k : Nat)).length := by
  have h1 := ((@wayW_perm (k : Int) ins).map es).length_eq
  rw [List.map_flatMap, List.length_map] at h1
  have h2 := @ins_stk j ins rss (k : Int) hq
  unfold stL rE at h2
  omega
theorem ins_wt {o : Nat} {j nf gg : Nat} {ins : List RunD} {rss : List (List RunD)} (hT : TI Mom nf gg o rss ws) (hW : ∀ w, w ∈ ws → WOk w) (hq : MrQ j ins rss) (hc : ∀ r, r ∈ ins → ∀ c, c ∈ r.rows ∨ c ∈ r.spans → c.f < 100) : wtS ins ≤ 4 * ws.length := by
  have h1 := @wtS_sum ins (fun r hr => ⟨by
    obtain ⟨rs, h1, h2⟩ := hq.mem r hr
    exact hT.2.2.2.2.1 rs h1 r h2, hc r hr⟩)
  have h2 : sumK (fun k => (stL ins (k : Nat)).length) 100 ≤ sumK (fun k => (stkR rss (k : Nat)).length) 100 := sumK_mono (fun k _ => ins_stk hq)
  have h3 := hT.wt hW
  omega
theorem way_wn {o : Nat} {j nf gg k : Nat} {ins : List RunD} {rss : List (List RunD)} (hT : TI Mom nf gg o rss ws) (hq : MrQ j ins rss) (hk : k < 100) : (wayW k ins).length ≤ ws.length := by
  have h1 := way_stk (k := k) hq
  have h2 := stk_len hT hk
  have h3 := List.length_filter_le (fun w : WrD => w.on (k : Nat)) ws
  omega
theorem kept_len {o : Nat} {j nf gg : Nat} {ins : List RunD} {rss : List (List RunD)} {kept : List ChD} {key : Int} (hT : TI Mom nf gg o rss ws) (hW : ∀ w, w ∈ ws → WOk w) (hq : MrQ j ins rss) (hk : KI Mom j ins kept key rss) : kept.length ≤ 4 * ws.length := by
  obtain ⟨h1, h2, h3, h4⟩ := hk
  have a1 := @ovK_sum kept (fun c hc => ⟨by have := h2 c hc; omega, (h2 c hc).2.2⟩)
  have a2 : sumK (fun k => (ovK (k : Nat) kept).length) 100 ≤ sumK (fun k => (stkR rss (k : Nat)).length) 100 := by
    refine sumK_mono (fun k hk => ?_)
    rw [pts_ov h2]
    by_cases hkk : (k : Int) ≤ key
    · obtain ⟨K, -, -, k3, -⟩ := h4 k hk hkk
      rw [k3]
      have := @selB_len (wayW k ins) K
      have := way_stk (k := k) hq
      omega
    · rw [List.filter_eq_nil_iff.mpr (fun c hc hb => by
        have := h3 c hc
        have := of_decide_eq_true hb
        omega)]
      exact Nat.zero_le _
  have a3 := hT.wt hW
  omega
theorem ris_len : ∀ {l : List RunD} {a : Int}, l.Pairwise (fun a b => a.great < b.least) → (∀ r, r ∈ l → a < r.least ∧ r.least ≤ r.great ∧ r.great ≤ 99) → l ≠ [] → (l.length : Int) ≤ 99 - a
  | [], _, _, _, h => absurd rfl h
  | [r], a, _, h, _ => by
    have := h r (List.mem_cons_self ..)
    show ((1 : Nat) : Int) ≤ _
    omega
  | r :: q :: l, a, hp, h, _ => by
    obtain ⟨p1, p2⟩ := List.pairwise_cons.mp hp
    have h1 := h r (List.mem_cons_self ..)
    have ih := @ris_len (q :: l) r.great p2 (fun x hx => ⟨p1 x hx, (h x (List.mem_cons_of_mem _ hx)).2⟩) (by simp)
    simp only [List.length_cons] at ih ⊢
    omega
/-- no more than a hundred runs come of a merging -/
theorem seg_len {K kr nr} {id : Nat} (hK : ascF K) (hp : ptS K) (h3 : ∀ c : ChD, c ∈ kr → c.k = 3 ∧ c.f ≤ c.t ∧ c.t < 100) (hs : SegA K kr id nr) : nr.length ≤ 100 := by
  obtain ⟨n1, n2, n3⟩ := segA_ok hK hp h3 hs
  by_cases h0 : nr = []
  · rw [h0]
    exact Nat.zero_le _
  · have h9 := @ris_len nr (-1) n2 (fun r hr => by
      have h1 := n1 r hr
      have h2 := h1.1.lg
      have h4 : (0 : Int) ≤ r.least ∧ r.great ≤ 99 := run_in (by omega) (by omega) (fun c hc => by
        obtain ⟨q, q1, q2, q3⟩ := h1.2.2.2 c hc
        have : q.t < 100 := by
          rcases q1 with q1 | q1
          · have := hp q q1
            omega
          · exact (h3 q q1).2.2
        omega)
      omega) h0
    omega
end GIm
