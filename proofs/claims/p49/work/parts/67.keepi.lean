/-! WHAT A MERGING KEEPS, STEP BY STEP -/
theorem segA_stk {K kr nr} {id : Nat} (hK : ascF K) (hp : ptS K) (h3 : ∀ c : ChD, c ∈ kr → c.k = 3 ∧ c.f ≤ c.t ∧ c.t < 100) (hs : SegA K kr id nr) {k : Nat} (hk : k < 100) : (stL nr (k : Int)).Perm ((K.filter (fun c => decide (c.f = k))).map es ++ (ovK (k : Int) kr).map es) := by
  have h3' : ∀ c : ChD, c ∈ kr → c.k = 3 ∧ c.f ≤ c.t := fun c hc => ⟨(h3 c hc).1, (h3 c hc).2.1⟩
  rcases hs with ⟨hne, hs⟩ | ⟨rfl, ⟨he, rfl⟩ | ⟨r, rfl, h1, h2, h4, h5, h6⟩⟩
  · have := seg_stk hK hp h3' hk hs (Int.le_refl _) (fun c _ => by omega) (.inl (List.length_pos_iff.mpr hne))
    rw [if_pos (by omega)] at this
    exact this
  · have e : kr = [] := List.eq_nil_iff_forall_not_mem.mpr (fun c hc => by
      have := List.filter_eq_nil_iff.mp he c hc
      have h9 := h3 c hc
      exact this (decide_eq_true (by omega)))
    subst e
    exact List.Perm.refl _
  · have h9 := @rE_perm r (k : Int)
    rw [List.map_append, clip_ov h5 (by omega) (by omega) h3', h4, if_pos (by omega)] at h9
    show (rE r k ++ []).Perm _
    rw [List.append_nil]
    refine h9.trans ?_
    rw [show ovK (k : Int) ([] : List ChD) = [] from rfl, List.map_nil, List.append_nil]
    exact List.Perm.refl _
theorem segA_ok {K kr nr} {id : Nat} (hK : ascF K) (hp : ptS K) (h3 : ∀ c : ChD, c ∈ kr → c.k = 3 ∧ c.f ≤ c.t ∧ c.t < 100) (hs : SegA K kr id nr) : (∀ r, r ∈ nr → RunOk r ∧ id < r.id ∧ r.id ≤ id + nr.length ∧ ∀ c, c ∈ r.rows ∨ c ∈ r.spans → ∃ q, (q ∈ K ∨ q ∈ kr) ∧ q.f ≤ c.f ∧ c.t ≤ q.t) ∧ nr.Pairwise (fun a b => a.great < b.least) ∧ nr.Pairwise (fun a b => a.id < b.id) := by
  have h3' : ∀ c : ChD, c ∈ kr → c.k = 3 ∧ c.f ≤ c.t := fun c hc => ⟨(h3 c hc).1, (h3 c hc).2.1⟩
  rcases hs with ⟨hne, hs⟩ | ⟨rfl, ⟨he, rfl⟩ | ⟨r, rfl, h1, h2, h4, h5, h6⟩⟩
  · obtain ⟨g1, g2, g3⟩ := seg_ok hK hp h3' hs (Int.le_refl _) (fun c _ => by omega)
    exact ⟨fun r hr => ⟨(g1 r hr).1, (g1 r hr).2.2.1, (g1 r hr).2.2.2.1, (g1 r hr).2.2.2.2⟩, g2, g3⟩
  · exact ⟨fun r hr => (by cases hr), List.Pairwise.nil, List.Pairwise.nil⟩
  · have hck := clip_k h5 (by omega) (by omega) h3'
    refine ⟨fun q hq => ?_, List.pairwise_singleton .., List.pairwise_singleton ..⟩
    rw [List.mem_singleton.mp hq]
    refine ⟨⟨by rw [h4]; exact List.Pairwise.nil, fun c hc => (by rw [h4] at hc; cases hc), fun c hc => ⟨(hck c hc).1, (hck c hc).2.1⟩, h6, decide_eq_true (.inr (.inl (by rw [h4]; exact Nat.zero_le _)))⟩, by omega, by simp only [List.length_cons, List.length_nil]; omega, fun c hc => ?_⟩
    rcases hc with hc | hc
    · rw [h4] at hc
      cases hc
    · obtain ⟨-, -, -, -, q, q1, q2⟩ := hck c hc
      exact ⟨q, .inr q1, q2⟩
theorem wayW_mem {k : Int} {ins : List RunD} {c : ChD} : c ∈ wayW k ins ↔ ∃ r, r ∈ ins ∧ (c ∈ r.rows ∨ c ∈ r.spans) ∧ c.ov k k = true := by
  rw [wayW_perm.mem_iff, List.mem_flatMap]
  have h : ∀ r : RunD, c ∈ colW r k [] ↔ (c ∈ r.rows ∨ c ∈ r.spans) ∧ c.ov k k = true := by
    intro r
    rw [colW_perm.mem_iff, List.append_nil, List.mem_append]
    unfold ovK
    rw [List.mem_filter, List.mem_filter]
    constructor
    · rintro (h | h)
      · exact ⟨.inr h.1, h.2⟩
      · exact ⟨.inl h.1, h.2⟩
    · rintro ⟨h | h, h2⟩
      · exact .inr ⟨h, h2⟩
      · exact .inl ⟨h, h2⟩
  constructor
  · rintro ⟨r, h1, h2⟩
    exact ⟨r, h1, (h r).mp h2⟩
  · rintro ⟨r, h1, h2⟩
    exact ⟨r, h1, (h r).mpr h2⟩
theorem kbh_gt {x : Int} : ∀ {l : List ChD}, x < 100 → x < kbh x l
  | [], h => h
  | c :: l, h => by
    unfold kbh
    split
    · assumption
    · exact kbh_gt h
theorem kbh_le {x : Int} : ∀ {l : List ChD}, ascF l → ∀ c, c ∈ l → x < (c.f : Int) → kbh x l ≤ (c.f : Int)
  | a :: l, h, c, hc, hx => by
    obtain ⟨h1, h2⟩ := List.pairwise_cons.mp h
    unfold kbh
    split
    · rcases List.mem_cons.mp hc with rfl | hc
      · exact Int.le_refl _
      · have := h1 c hc
        omega
    · rename_i hn
      rcases List.mem_cons.mp hc with rfl | hc
      · exact absurd hx hn
      · exact kbh_le h2 c hc hx
theorem nxK_le {key : Int} : ∀ {l : List RunD} {m : Int}, nxK key m l ≤ m ∧ ∀ r, r ∈ l → nxK key m l ≤ kbh key r.rows
  | [], m => ⟨Int.le_refl _, fun r hr => by cases hr⟩
  | a :: l, m => by
    obtain ⟨h1, h2⟩ := @nxK_le key l (min m (kbh key a.rows))
    have e : nxK key m (a :: l) = nxK key (min m (kbh key a.rows)) l := rfl
    rw [e]
    refine ⟨by omega, fun r hr => ?_⟩
    rcases List.mem_cons.mp hr with rfl | hr
    · omega
    · exact h2 r hr
theorem nxK_gt {key : Int} (hk : key < 100) : ∀ {l : List RunD} {m : Int}, key < m → key < nxK key m l
  | [], m, h => h
  | a :: l, m, h => by
    have := @kbh_gt key a.rows hk
    exact nxK_gt hk (l := l) (m := min m (kbh key a.rows)) (by omega)
/-- nothing lies below over a key -/
def Bel (j : Nat) (rss : List (List RunD)) (x y : Int) : Prop := ∀ rs, rs ∈ rss.drop (j + 2) → ∀ r, r ∈ rs → ¬ r.ov x y = true
theorem KOm.imp {tn tn' : Prop} (ht : tn → tn') {m : Nat} : ∀ {w : List ChD} {K : List Bool}, KOm tn m w K → KOm tn' m w K
  | [], K, _ => by unfold KOm; trivial
  | c :: w, [], _ => trivial
  | c :: w, k :: K, h => by
    unfold KOm at h ⊢
    by_cases hm : c.n ≤ m
    · rw [if_pos hm] at h ⊢
      by_cases hk3 : c.k = 3
      · rw [if_pos hk3]
        trivial
      · rw [if_neg hk3] at h ⊢
        by_cases hk4 : c.k = 4
        · rw [if_pos hk4] at h ⊢
          exact ⟨h.1, h.2.imp ht⟩
        · rw [if_neg hk4] at h ⊢
          exact h.imp id (fun q => ⟨q.1, ht q.2.1, q.2.2⟩)
    · rw [if_neg hm] at h ⊢
      exact KOm.imp ht h
theorem KOm.all {tn : Prop} {m m' : Nat} : ∀ {w : List ChD} {K : List Bool}, KOm tn m w K → (∀ c, c ∈ w → c.n ≤ m) → (∀ c, c ∈ w → c.n ≤ m') → KOm tn m' w K
  | [], K, _, _, _ => by unfold KOm; trivial
  | c :: w, [], _, _, _ => trivial
  | c :: w, k :: K, h, h1, h2 => by
    have a1 := h1 c (List.mem_cons_self ..)
    have a2 := h2 c (List.mem_cons_self ..)
    have ih := @KOm.all tn m m' w K
    unfold KOm at h ⊢
    rw [if_pos a1] at h
    rw [if_pos a2]
    by_cases hk3 : c.k = 3
    · rw [if_pos hk3]
      trivial
    · rw [if_neg hk3] at h ⊢
      by_cases hk4 : c.k = 4
      · rw [if_pos hk4] at h ⊢
        exact ⟨h.1, ih h.2 (fun c hc => h1 c (List.mem_cons_of_mem _ hc)) (fun c hc => h2 c (List.mem_cons_of_mem _ hc))⟩
      · rw [if_neg hk4] at h ⊢
        exact h
theorem KOm_rg {tn : Prop} {m : Nat} : ∀ {w : List ChD} {K : List Bool}, (∀ c, c ∈ w → c.k = 3) → KOm tn m w K
  | [], K, _ => by unfold KOm; trivial
  | c :: w, [], _ => trivial
  | c :: w, k :: K, h => by
    unfold KOm
    by_cases hm : c.n ≤ m
    · rw [if_pos hm, if_pos (h c (List.mem_cons_self ..))]
      trivial
    · rw [if_neg hm]
      exact KOm_rg (fun c hc => h c (List.mem_cons_of_mem _ hc))
/-- over one key, what is kept suffices -/
def KA (Mom : List Nat) (j : Nat) (ins : List RunD) (kept : List ChD) (rss : List (List RunD)) (k : Nat) : Prop :=
  ∃ K : List Bool, K.length = (wayW k ins).length ∧ NR (wayW k ins) K ∧ kept.filter (fun c => decide (c.f = k)) = selB (wayW k ins) K ∧ ∀ m, (m ∈ Mom ∨ ∀ c, c ∈ wayW k ins → c.n ≤ m) → KOm (Bel j rss k k) m (wayW k ins) K
def KI (Mom : List Nat) (j : Nat) (ins : List RunD) (kept : List ChD) (key : Int) (rss : List (List RunD)) : Prop :=
  ascF kept ∧ ptS kept ∧ (∀ c, c ∈ kept → (c.f : Int) ≤ key) ∧ ∀ k : Nat, k < 100 → (k : Int) ≤ key → KA Mom j ins kept rss k
theorem KI.new {Mom : List Nat} {j : Nat} {ins : List RunD} {rss : List (List RunD)} : KI Mom j ins [] (-1) rss := ⟨List.Pairwise.nil, fun c hc => (by cases hc), fun c hc => (by cases hc), fun k _ h => (by omega)⟩
theorem selB_rep : ∀ {w : List ChD} {n : Nat}, selB w (List.replicate n false) = []
  | [], n => by cases n <;> rfl
  | c :: w, 0 => rfl
  | c :: w, n + 1 => selB_rep (w := w) (n := n)
/-- a key without rows -/
theorem KA.none {Mom : List Nat} {j : Nat} {ins : List RunD} {kept : List ChD} {rss : List (List RunD)} {k : Nat} (h : ∀ c, c ∈ wayW k ins → c.k = 3) (hk : ∀ c, c ∈ kept → c.f ≠ k) : KA Mom j ins kept rss k :=
  ⟨List.replicate (wayW k ins).length false, List.length_replicate, rep_NR, by rw [selB_rep]; exact List.filter_eq_nil_iff.mpr (fun c hc hb => hk c hc (of_decide_eq_true hb)), fun m _ => KOm_rg h⟩
theorem way_rg {ins : List RunD} {key : Int} {k : Nat} (hok : ∀ r, r ∈ ins → RunOk r) (h1 : key < (k : Int)) (h2 : (k : Int) < nxK key 100 ins) : ∀ c, c ∈ wayW k ins → c.k = 3 := by
  intro c hc
  obtain ⟨r, hr, hrs, hov⟩ := wayW_mem.mp hc
  have hr0 := hok r hr
  rcases hrs with hrs | hrs
  · have hft := (hr0.2.1 c hrs).2
    have ho := of_decide_eq_true (show decide _ = true from hov)
    have hb := kbh_le (x := key) hr0.1 c hrs (by omega)
    have hn := (@nxK_le key ins 100).2 r hr
    omega
  · exact (hr0.2.2.1 c hrs).1
theorem way_k {ins : List RunD} {k : Nat} (hok : ∀ r, r ∈ ins → RunOk r) : ∀ c, c ∈ wayW k ins → (c.k = 1 ∨ c.k = 2 ∨ c.k = 3 ∨ c.k = 4) ∧ (c.k ≠ 3 → c.f = k ∧ c.t = k) ∧ c.f ≤ k ∧ k ≤ c.t := by
  intro c hc
  obtain ⟨r, hr, hrs, hov⟩ := wayW_mem.mp hc
  have hr0 := hok r hr
  have ho := of_decide_eq_true (show decide _ = true from hov)
  rcases hrs with hrs | hrs
  · have := hr0.2.1 c hrs
    refine ⟨by omega, fun _ => by omega, by omega, by omega⟩
  · have := hr0.2.2.1 c hrs
    refine ⟨by omega, fun q => absurd this.1 q, by omega, by omega⟩
theorem KI.full {Mom : List Nat} {j : Nat} {ins : List RunD} {kept : List ChD} {key : Int} {rss : List (List RunD)} (h : KI Mom j ins kept key rss) (hok : ∀ r, r ∈ ins → RunOk r) (hn : nxK key 100 ins = 100) : ∀ k : Nat, k < 100 → KA Mom j ins kept rss k := by
  intro k hk
  by_cases hkk : (k : Int) ≤ key
  · exact h.2.2.2 k hk hkk
  · exact KA.none (way_rg (key := key) hok (by omega) (by omega)) (fun c hc => by have := h.2.2.1 c hc; omega)
theorem KI.step {Mom ms : List Nat} {j nw kk : Nat} {ins : List RunD} {kept : List ChD} {key : Int} {rss : List (List RunD)} {ovb : Bool} (h : KI Mom j ins kept key rss) (hok : ∀ r, r ∈ ins → RunOk r) (hkey : key < 100) (hkk : nxK key 100 ins = (kk : Int)) (hk1 : kk < 100) (hms : ∀ m, m ∈ Mom → m ∈ ms) (hnw : ∀ c, c ∈ wayW kk ins → c.n ≤ nw) (hov : ovb = false → Bel j rss kk kk) :
    KI Mom j ins (kept ++ selB (wayW kk ins) (sfK nw ms ovb (wayW kk ins))) kk rss := by
  obtain ⟨h1, h2, h3, h4⟩ := h
  obtain ⟨n1, n2⟩ := @sfK_ok nw ms ovb (wayW kk ins)
  have hgt := @nxK_gt key hkey ins 100 hkey
  have hsel : ∀ c, c ∈ selB (wayW kk ins) (sfK nw ms ovb (wayW kk ins)) → (c.k = 1 ∨ c.k = 2 ∨ c.k = 4) ∧ c.f = kk ∧ c.t = kk := by
    intro c hc
    have a1 := selB_k3 n1 c hc
    have a2 := way_k hok c (selB_mem hc)
    exact ⟨by omega, a2.2.1 a1⟩
  refine ⟨List.pairwise_append.mpr ⟨h1, ?_, fun a ha b hb => ?_⟩, fun c hc => ?_, fun c hc => ?_, fun k hk hkl => ?_⟩
  · refine List.pairwise_iff_forall_sublist.mpr (fun {a b} hab => ?_)
    have ha := hsel a (hab.subset (List.mem_cons_self ..))
    have hb := hsel b (hab.subset (List.mem_cons_of_mem _ (List.mem_cons_self ..)))
    omega
  · have := h3 a ha
    have := hsel b hb
    omega
  · rcases List.mem_append.mp hc with hc | hc
    · exact h2 c hc
    · have := hsel c hc
      exact ⟨this.1, by omega, by omega⟩
  · rcases List.mem_append.mp hc with hc | hc
    · have := h3 c hc
      omega
    · have := hsel c hc
      omega
  · by_cases hk2 : (k : Int) ≤ key
    · obtain ⟨K, k1, k2, k3, k4⟩ := h4 k hk hk2
      refine ⟨K, k1, k2, ?_, k4⟩
      rw [List.filter_append, k3, List.filter_eq_nil_iff.mpr (fun c hc hb => by
        have := hsel c hc
        have := of_decide_eq_true hb
        omega), List.append_nil]
    · by_cases hk3 : k = kk
      · subst hk3
        refine ⟨_, sfK_len, n1, ?_, fun m hm => ?_⟩
        · rw [List.filter_append, List.filter_eq_nil_iff.mpr (fun c hc hb => by
            have := h3 c hc
            have := of_decide_eq_true hb
            omega), List.nil_append]
          exact List.filter_eq_self.mpr (fun c hc => decide_eq_true (hsel c hc).2.1)
        · rcases hm with hm | hm
          · exact (n2 m (.inr (hms m hm))).imp hov
          · exact ((n2 nw (.inl rfl)).imp hov).all hnw hm
      · refine KA.none (way_rg (key := key) hok (by omega) (by omega)) (fun c hc => ?_)
        rcases List.mem_append.mp hc with hc | hc
        · have := h3 c hc
          omega
        · have := hsel c hc
          omega
/-- fewer moments, or a later one; levels that keep what lies below -/
theorem KI.to {Mom Mom' : List Nat} {j : Nat} {ins : List RunD} {kept : List ChD} {key : Int} {rss rss' : List (List RunD)} (h : KI Mom j ins kept key rss) (hm : ∀ m, m ∈ Mom' → m ∈ Mom ∨ ∀ k : Nat, k < 100 → ∀ c, c ∈ wayW k ins → c.n ≤ m) (hb : ∀ k : Nat, k < 100 → (∃ c, c ∈ wayW k ins) → Bel j rss k k → Bel j rss' k k) : KI Mom' j ins kept key rss' := by
  obtain ⟨h1, h2, h3, h4⟩ := h
  refine ⟨h1, h2, h3, fun k hk hkk => ?_⟩
  obtain ⟨K, k1, k2, k3, k4⟩ := h4 k hk hkk
  refine ⟨K, k1, k2, k3, fun m hm9 => ?_⟩
  have h5 : KOm (Bel j rss k k) m (wayW k ins) K := by
    rcases hm9 with hm9 | hm9
    · rcases hm m hm9 with q | q
      · exact k4 m (.inl q)
      · exact k4 m (.inr (q k hk))
    · exact k4 m (.inr hm9)
  by_cases hw : ∃ c, c ∈ wayW k ins
  · exact h5.imp (hb k hk hw)
  · have hnil : wayW k ins = [] := List.eq_nil_iff_forall_not_mem.mpr (fun c hc => hw ⟨c, hc⟩)
    rw [hnil]
    unfold KOm
    trivial
