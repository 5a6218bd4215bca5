/-! WHICH RUNS A MERGING TAKES -/
theorem ovBl_no {lvl x y : Int} : ∀ {t : List LvD} {i : Nat}, ovBl lvl x y i t = false → ∀ n l, t[n]? = some l → lvl < ((i + n : Nat) : Int) → ∀ r, r ∈ l.rs → ¬ r.ov x y = true
  | a :: t, i, h, 0, l, hl, hlt, r, hr => by
    cases hl
    unfold ovBl at h
    rw [Bool.or_eq_false_iff] at h
    intro hov
    have h1 := h.1
    rw [show decide (lvl < (i : Int)) = true from decide_eq_true (by omega), Bool.true_and] at h1
    exact List.any_eq_false.mp h1 r hr hov
  | a :: t, i, h, n + 1, l, hl, hlt, r, hr => by
    unfold ovBl at h
    rw [Bool.or_eq_false_iff] at h
    exact ovBl_no h.2 n l hl (by rw [show i + 1 + n = i + (n + 1) by omega]; exact hlt) r hr
theorem Bel_of {lvs : List LvD} {j : Nat} {x y : Int} (h : ovBl ((j : Int) + 1) x y 1 (lvs.drop 1) = false) : Bel j (lvs.map LvD.rs) x y := by
  intro rs hrs r hr
  rw [← List.map_drop] at hrs
  obtain ⟨l, hl, rfl⟩ := List.mem_map.mp hrs
  obtain ⟨n, hn⟩ := List.getElem?_of_mem hl
  rw [List.getElem?_drop] at hn
  exact ovBl_no h (j + 1 + n) l (by rw [List.getElem?_drop, show 1 + (j + 1 + n) = j + 2 + n by omega]; exact hn) (by omega) r hr
theorem keepU_no {kept : List ChD} {c : ChD} (h : keepU kept c = false) : ∀ e, e ∈ kept → ¬ (e.n < c.n ∧ c.ov (e.f : Int) (e.f : Int) = true) := by
  intro e he hb
  refine List.any_eq_false.mp h e he ?_
  rw [show decide (e.n < c.n) = true from decide_eq_true hb.1, hb.2]
  rfl
theorem among_app {a b : List RunD} {i : Nat} : among (a ++ b) i = (among a i || among b i) := List.any_append ..
theorem among_mem {a : List RunD} {i : Nat} : among a i = true ↔ i ∈ a.map RunD.id := by
  unfold among
  rw [List.any_eq_true, List.mem_map]
  constructor
  · rintro ⟨r, h1, h2⟩
    exact ⟨r, h1, by simpa using h2⟩
  · rintro ⟨r, h1, h2⟩
    exact ⟨r, h1, by simpa using h2⟩
theorem among_no {a : List RunD} {i : Nat} (h : i ∉ a.map RunD.id) : among a i = false := by
  cases hb : among a i with
  | false => rfl
  | true => exact absurd (among_mem.mp hb) h
theorem amg_sub {P l : List RunD} (h : P.Sublist l) : (l.map RunD.id).Nodup → l.filter (fun r => among P r.id) = P := by
  induction h with
  | slnil => intro _; rfl
  | cons a h ih =>
    intro hn
    rw [List.map_cons, List.nodup_cons] at hn
    have e := among_no (fun q => hn.1 ((h.map RunD.id).subset q))
    rw [List.filter_cons_of_neg (by simp [e])]
    exact ih hn.2
  | @cons_cons P l a h ih =>
    intro hn
    rw [List.map_cons, List.nodup_cons] at hn
    have e : among (a :: P) a.id = true := among_mem.mpr (List.mem_cons_self ..)
    rw [List.filter_cons_of_pos (p := fun r : RunD => among (a :: P) r.id) e]
    congr 1
    refine Eq.trans (List.filter_congr (fun r hr => ?_)) (ih hn.2)
    have hne : r.id ≠ a.id := fun q => hn.1 (by rw [← q]; exact List.mem_map_of_mem hr)
    show among ([a] ++ P) r.id = among P r.id
    rw [among_app]
    have : among [a] r.id = false := among_no (by simpa using hne)
    rw [this]
    rfl
/-- the runs taken from two levels, found again by their numbers -/
theorem amg_two {P Q S T : List RunD} (hP : P.Sublist S) (hQ : Q.Sublist T) (hn : (S.map RunD.id ++ T.map RunD.id).Nodup) : amg (P ++ Q) S = P ∧ amg (P ++ Q) T = Q := by
  obtain ⟨h1, h2, h3⟩ := List.nodup_append.mp hn
  have e1 : amg (P ++ Q) S = S.filter (fun r => among P r.id) := by
    refine List.filter_congr (fun r hr => ?_)
    rw [among_app, among_no (fun q => h3 _ (List.mem_map_of_mem hr) _ ((hQ.map RunD.id).subset q) rfl), Bool.or_false]
  have e2 : amg (P ++ Q) T = T.filter (fun r => among Q r.id) := by
    refine List.filter_congr (fun r hr => ?_)
    rw [among_app, among_no (a := P) (fun q => h3 _ ((hP.map RunD.id).subset q) _ (List.mem_map_of_mem hr) rfl), Bool.false_or]
  rw [e1, e2]
  exact ⟨amg_sub hP h1, amg_sub hQ h2⟩
theorem pick_sub {lv ch : Nat} : ∀ {l : List RunD} {i : Nat}, (pick lv ch i l).Sublist l
  | [], _ => List.Sublist.refl _
  | r :: l, i => by
    have ih := @pick_sub lv ch l (i + 1)
    unfold pick
    split
    · exact List.Sublist.cons_cons r ih
    · exact List.Sublist.cons r ih
theorem pick_all {ch : Nat} : ∀ {l : List RunD} {i : Nat}, pick 0 ch i l = l
  | [], _ => rfl
  | r :: l, i => by
    unfold pick
    rw [if_pos (.inl rfl), pick_all]
theorem lstR_at : ∀ {l : List RunD} {m : Int}, lstR m l = m ∨ ∃ q, q ∈ l ∧ lstR m l = q.least
  | [], m => .inl rfl
  | a :: l, m => by
    have e : lstR m (a :: l) = lstR (min m a.least) l := rfl
    rw [e]
    rcases @lstR_at l (min m a.least) with h | ⟨q, h1, h2⟩
    · rw [h]
      by_cases hm : m ≤ a.least
      · exact .inl (by omega)
      · exact .inr ⟨a, List.mem_cons_self .., by omega⟩
    · exact .inr ⟨q, List.mem_cons_of_mem _ h1, h2⟩
theorem grtR_at : ∀ {l : List RunD} {m : Int}, grtR m l = m ∨ ∃ q, q ∈ l ∧ grtR m l = q.great
  | [], m => .inl rfl
  | a :: l, m => by
    have e : grtR m (a :: l) = grtR (max m a.great) l := rfl
    rw [e]
    rcases @grtR_at l (max m a.great) with h | ⟨q, h1, h2⟩
    · rw [h]
      by_cases hm : a.great ≤ m
      · exact .inl (by omega)
      · exact .inr ⟨a, List.mem_cons_self .., by omega⟩
    · exact .inr ⟨q, List.mem_cons_of_mem _ h1, h2⟩
theorem ris_dis : ∀ {l : List RunD}, Ris l → ∀ r q, r ∈ l → q ∈ l → r.id ≠ q.id → r.great < q.least ∨ q.great < r.least
  | a :: l, h, r, q, hr0, hq, hne => by
    obtain ⟨h1, h2⟩ := List.pairwise_cons.mp h
    rcases List.mem_cons.mp hr0 with rfl | hr
    · rcases List.mem_cons.mp hq with rfl | hq
      · exact absurd rfl hne
      · exact .inl (h1 q hq)
    · rcases List.mem_cons.mp hq with rfl | hq
      · exact .inr (h1 r (by assumption))
      · exact ris_dis h2 r q (by assumption) hq hne
/-- what is left of the level below lies beside all that is taken -/
theorem hull_no {P T : List RunD} (hT : Ris T) (hlg : ∀ q, q ∈ T → q.least ≤ q.great) {r : RunD} (hr : r ∈ T) (hno : ¬ r.ov (lstR 100 P) (grtR (-1) P) = true) (hne : ∀ q, q ∈ T.filter (fun r => r.ov (lstR 100 P) (grtR (-1) P)) → r.id ≠ q.id) : ¬ r.ov (lstR 100 (P ++ T.filter (fun r => r.ov (lstR 100 P) (grtR (-1) P)))) (grtR (-1) (P ++ T.filter (fun r => r.ov (lstR 100 P) (grtR (-1) P)))) = true := by
  have hr1 := hlg r hr
  have h1 := (@lstR_le P 100)
  have h2 := (@grtR_ge P (-1))
  have ho := of_decide_eq_false (show decide _ = false from Bool.eq_false_iff.mpr hno)
  have hq : ∀ q, q ∈ T.filter (fun r => r.ov (lstR 100 P) (grtR (-1) P)) → q.least ≤ grtR (-1) P ∧ lstR 100 P ≤ q.great ∧ (r.great < q.least ∨ q.great < r.least) := by
    intro q hq
    obtain ⟨q1, q2⟩ := List.mem_filter.mp hq
    have q3 := of_decide_eq_true (show decide _ = true from q2)
    exact ⟨q3.1, q3.2, ris_dis hT r q hr q1 (hne q hq)⟩
  intro hov
  have hv := of_decide_eq_true (show decide _ = true from hov)
  by_cases hc : r.least ≤ grtR (-1) P
  · have hc2 : r.great < lstR 100 P := by omega
    rcases @lstR_at (P ++ T.filter (fun r => r.ov (lstR 100 P) (grtR (-1) P))) 100 with a1 | ⟨q, b1, b2⟩
    · omega
    · rcases List.mem_append.mp b1 with b1 | b1
      · have := h1.2 q b1
        omega
      · have := hq q b1
        omega
  · rcases @grtR_at (P ++ T.filter (fun r => r.ov (lstR 100 P) (grtR (-1) P))) (-1) with a2 | ⟨q, b1, b2⟩
    · omega
    · rcases List.mem_append.mp b1 with b1 | b1
      · have := h2.2 q b1
        omega
      · have := hq q b1
        omega
/-- what a merging holds of the levels -/
def MrQ (j : Nat) (ins : List RunD) (rss : List (List RunD)) : Prop :=
  ∃ S T, rss[j]? = some S ∧ rss[j + 1]? = some T ∧ ins = amg ins S ++ amg ins T ∧ (j = 0 → S = kp ins S ++ amg ins S) ∧ (∀ r, r ∈ T → among ins r.id = false → ¬ r.ov (lstR 100 ins) (grtR (-1) ins) = true)
theorem two_at {rss : List (List RunD)} {j : Nat} {S T : List RunD} (hS : rss[j]? = some S) (hT : rss[j + 1]? = some T) : rss = rss.take j ++ S :: T :: rss.drop (j + 2) ∧ (rss.take j).length = j := by
  obtain ⟨e1, e2⟩ := at_mid hS
  refine ⟨?_, e2⟩
  have e3 : rss.drop (j + 1) = T :: rss.drop (j + 2) := by
    obtain ⟨hj, rfl⟩ := List.getElem?_eq_some_iff.mp hT
    rw [List.getElem_cons_drop]
  rw [← e3]
  exact e1
theorem ids_two {rss : List (List RunD)} {j : Nat} {S T : List RunD} (hS : rss[j]? = some S) (hT : rss[j + 1]? = some T) (hn : (idsR rss).Nodup) : (S.map RunD.id ++ T.map RunD.id).Nodup := by
  rw [(two_at hS hT).1, idsR_app] at hn
  have hn2 := (List.nodup_append.mp hn).2.1
  have e : idsR (S :: T :: rss.drop (j + 2)) = (S.map RunD.id ++ T.map RunD.id) ++ idsR (rss.drop (j + 2)) := by
    show S.map RunD.id ++ (T.map RunD.id ++ idsR (rss.drop (j + 2))) = _
    rw [List.append_assoc]
  rw [e] at hn2
  exact (List.nodup_append.mp hn2).1
theorem MrQ.new {Mom : List Nat} {nf g o j : Nat} {lvs : List LvD} {ws : List WrD} {l l2 : LvD} (h : TI Mom nf g o (lvs.map LvD.rs) ws) (hl : lvs[j]? = some l) (hl2 : lvs[j + 1]? = some l2) : MrQ j (insOf j l l2) (lvs.map LvD.rs) := by
  have hS : (lvs.map LvD.rs)[j]? = some l.rs := by rw [List.getElem?_map, hl]; rfl
  have hT : (lvs.map LvD.rs)[j + 1]? = some l2.rs := by rw [List.getElem?_map, hl2]; rfl
  have hn := ids_two hS hT h.2.2.2.2.2.1
  have hlg : ∀ q, q ∈ l2.rs → q.least ≤ q.great := fun q hq => (h.2.2.2.2.1 _ (List.mem_of_getElem? hT) q hq).lg
  have hris : Ris l2.rs := (isRis_iff hlg).mp (h.2.2.2.1 (j + 1) _ hT (by omega))
  have hP : (pick j (chI l.mu 0 l.rs) 0 l.rs).Sublist l.rs := pick_sub
  have hQ : (l2.rs.filter (fun r => r.ov (lstR 100 (pick j (chI l.mu 0 l.rs) 0 l.rs)) (grtR (-1) (pick j (chI l.mu 0 l.rs) 0 l.rs)))).Sublist l2.rs := List.filter_sublist
  obtain ⟨e1, e2⟩ := amg_two hP hQ hn
  refine ⟨l.rs, l2.rs, hS, hT, ?_, fun hj => ?_, fun r hr hra => ?_⟩
  · unfold insOf
    rw [e1, e2]
  · unfold insOf
    rw [e1]
    subst hj
    rw [pick_all]
    have : kp (l.rs ++ l2.rs.filter (fun r => r.ov (lstR 100 l.rs) (grtR (-1) l.rs))) l.rs = [] := List.filter_eq_nil_iff.mpr (fun r hr hb => by
      rw [Bool.not_eq_true'] at hb
      have h9 : among l.rs r.id = true := among_mem.mpr (List.mem_map_of_mem hr)
      rw [among_app, h9] at hb
      cases hb)
    rw [this]
    rfl
  · have hno : ∀ q, q ∈ l2.rs.filter (fun r => r.ov (lstR 100 (pick j (chI l.mu 0 l.rs) 0 l.rs)) (grtR (-1) (pick j (chI l.mu 0 l.rs) 0 l.rs))) → r.id ≠ q.id := by
      intro q hq e
      have h9 : among (insOf j l l2) r.id = true := among_mem.mpr (by
        unfold insOf
        rw [List.map_append, e]
        exact List.mem_append_right _ (List.mem_map_of_mem hq))
      rw [h9] at hra
      cases hra
    refine hull_no hris hlg hr (fun hov => hno r (List.mem_filter.mpr ⟨hr, hov⟩) rfl) hno
theorem insB_filter {r : RunD} {p : RunD → Bool} (hp : p r = false) : ∀ {l : List RunD}, (insB r l).filter p = l.filter p
  | [] => by
    show [r].filter p = _
    rw [List.filter_cons_of_neg (by simp [hp])]
  | x :: l => by
    unfold insB
    split
    · rw [List.filter_cons, List.filter_cons, insB_filter hp]
    · rw [List.filter_cons_of_neg (by simp [hp])]
theorem insJ_amg {ins : List RunD} {r : RunD} {j : Nat} {rs : List RunD} (h : among ins r.id = false) : amg ins (insJ j r rs) = amg ins rs := by
  unfold amg insJ
  split
  · rw [List.filter_cons_of_neg (by simp [h])]
  · exact insB_filter h
theorem at_ins {A B : List (List RunD)} {x y : List RunD} {i : Nat} : (A ++ x :: B)[i]? = if i = A.length then some x else (A ++ y :: B)[i]? := by
  by_cases h : i = A.length
  · rw [if_pos h, h, List.getElem?_append_right (Nat.le_refl _), Nat.sub_self]
    rfl
  · rw [if_neg h]
    by_cases h2 : i < A.length
    · rw [List.getElem?_append_left h2, List.getElem?_append_left h2]
    · rw [List.getElem?_append_right (by omega), List.getElem?_append_right (by omega)]
      obtain ⟨d, hd⟩ : ∃ d, i - A.length = d + 1 := ⟨i - A.length - 1, by omega⟩
      rw [hd]
      rfl
/-- a run that comes to a level -/
theorem MrQ.ins {j : Nat} {ins : List RunD} {A B : List (List RunD)} {rs : List RunD} {r : RunD} (h : MrQ j ins (A ++ rs :: B)) (hf : among ins r.id = false) (hov : A.length = j + 1 → ¬ r.ov (lstR 100 ins) (grtR (-1) ins) = true) : MrQ j ins (A ++ insJ A.length r rs :: B) := by
  obtain ⟨S, T, h1, h2, h3, h4, h5⟩ := h
  have hS : ∃ S', (A ++ insJ A.length r rs :: B)[j]? = some S' ∧ amg ins S' = amg ins S ∧ (j = 0 → S' = kp ins S' ++ amg ins S') := by
    rw [at_ins (y := rs)]
    by_cases e : j = A.length
    · rw [if_pos e]
      rw [at_ins (y := rs), if_pos e] at h1
      cases h1
      refine ⟨_, rfl, insJ_amg hf, fun hj => ?_⟩
      rw [insJ_amg hf]
      have e2 : insJ A.length r rs = r :: rs := by
        unfold insJ
        rw [if_pos (by omega)]
      rw [e2]
      show r :: rs = kp ins (r :: rs) ++ amg ins rs
      unfold kp
      rw [List.filter_cons_of_pos (by simp [hf])]
      exact congrArg (r :: ·) (h4 hj)
    · rw [if_neg e]
      exact ⟨S, h1, rfl, h4⟩
  have hT : ∃ T', (A ++ insJ A.length r rs :: B)[j + 1]? = some T' ∧ amg ins T' = amg ins T ∧ (∀ q, q ∈ T' → among ins q.id = false → ¬ q.ov (lstR 100 ins) (grtR (-1) ins) = true) := by
    rw [at_ins (y := rs)]
    by_cases e : j + 1 = A.length
    · rw [if_pos e]
      rw [at_ins (y := rs), if_pos e] at h2
      cases h2
      refine ⟨_, rfl, insJ_amg hf, fun q hq hqa => ?_⟩
      rcases List.mem_cons.mp (insJ_perm.mem_iff.mp hq) with rfl | hq
      · exact hov e.symm
      · exact h5 q hq hqa
    · rw [if_neg e]
      exact ⟨T, h2, rfl, h5⟩
  obtain ⟨S', s1, s2, s3⟩ := hS
  obtain ⟨T', t1, t2, t3⟩ := hT
  exact ⟨S', T', s1, t1, by rw [s2, t2]; exact h3, s3, t3⟩
theorem Bel.ins {j : Nat} {A B : List (List RunD)} {rs : List RunD} {r : RunD} {x y : Int} (h : Bel j (A ++ rs :: B) x y) (hov : j + 2 ≤ A.length → ¬ r.ov x y = true) : Bel j (A ++ insJ A.length r rs :: B) x y := by
  intro q hq z hz
  obtain ⟨n, hn⟩ := List.getElem?_of_mem hq
  rw [List.getElem?_drop, at_ins (y := rs)] at hn
  by_cases e : j + 2 + n = A.length
  · rw [if_pos e] at hn
    cases hn
    rcases List.mem_cons.mp (insJ_perm.mem_iff.mp hz) with rfl | hz
    · exact hov (by omega)
    · refine h rs (List.mem_of_getElem? (i := n) ?_) z hz
      rw [List.getElem?_drop, at_ins (y := rs), if_pos e]
  · rw [if_neg e] at hn
    refine h q (List.mem_of_getElem? (i := n) ?_) z hz
    rw [List.getElem?_drop]
    exact hn
theorem MrQ.fresh {j nf : Nat} {ins : List RunD} {rss : List (List RunD)} (h : MrQ j ins rss) (hid : ∀ i, i ∈ idsR rss → i ≤ nf) : among ins (nf + 1) = false := by
  obtain ⟨S, T, h1, h2, h3, -⟩ := h
  refine among_no (fun hm => ?_)
  obtain ⟨r, hr, e⟩ := List.mem_map.mp hm
  have hr2 : ∃ rs, rs ∈ rss ∧ r ∈ rs := by
    rw [h3] at hr
    rcases List.mem_append.mp hr with hr | hr
    · exact ⟨S, List.mem_of_getElem? h1, amg_mem hr⟩
    · exact ⟨T, List.mem_of_getElem? h2, amg_mem hr⟩
  obtain ⟨rs, hrs, hr⟩ := hr2
  have := hid r.id (List.mem_flatMap.mpr ⟨rs, hrs, List.mem_map_of_mem hr⟩)
  omega
theorem MrQ.mem {j : Nat} {ins : List RunD} {rss : List (List RunD)} (h : MrQ j ins rss) : ∀ r, r ∈ ins → ∃ rs, rs ∈ rss ∧ r ∈ rs := by
  obtain ⟨S, T, h1, h2, h3, -⟩ := h
  intro r hr
  rw [h3] at hr
  rcases List.mem_append.mp hr with hr | hr
  · exact ⟨S, List.mem_of_getElem? h1, amg_mem hr⟩
  · exact ⟨T, List.mem_of_getElem? h2, amg_mem hr⟩
