/-! A MERGING'S LAST STEP KEEPS THE LEVELS -/
def amg (ins : List RunD) (l : List RunD) : List RunD := l.filter (fun r => among ins r.id)
theorem lstR_le : ∀ {l : List RunD} {m : Int}, lstR m l ≤ m ∧ ∀ r, r ∈ l → lstR m l ≤ r.least
  | [], m => ⟨Int.le_refl _, fun r hr => by cases hr⟩
  | a :: l, m => by
    obtain ⟨h1, h2⟩ := @lstR_le l (min m a.least)
    have e : lstR m (a :: l) = lstR (min m a.least) l := rfl
    rw [e]
    refine ⟨by omega, fun r hr => ?_⟩
    rcases List.mem_cons.mp hr with rfl | hr
    · omega
    · exact h2 r hr
theorem grtR_ge : ∀ {l : List RunD} {m : Int}, m ≤ grtR m l ∧ ∀ r, r ∈ l → r.great ≤ grtR m l
  | [], m => ⟨Int.le_refl _, fun r hr => by cases hr⟩
  | a :: l, m => by
    obtain ⟨h1, h2⟩ := @grtR_ge l (max m a.great)
    have e : grtR m (a :: l) = grtR (max m a.great) l := rfl
    rw [e]
    refine ⟨by omega, fun r hr => ?_⟩
    rcases List.mem_cons.mp hr with rfl | hr
    · omega
    · exact h2 r hr
theorem rE_cov {r : RunD} {k : Nat} (h : rE r k ≠ []) : r.least ≤ (k : Int) ∧ (k : Int) ≤ r.great := by
  by_cases ho : r.ov (k : Int) (k : Int) = true
  · have := of_decide_eq_true (show decide _ = true from ho)
    omega
  · exact absurd (rE_nil ho) h
theorem stL_app {a b : List RunD} {k : Int} : stL (a ++ b) k = stL a k ++ stL b k := List.flatMap_append
theorem stL_flt {p : RunD → Bool} {k : Int} : ∀ {l : List RunD}, (∀ r, r ∈ l → p r = false → rE r k = []) → stL (l.filter p) k = stL l k
  | [], _ => rfl
  | r :: l, h => by
    have ih := stL_flt (p := p) (k := k) (l := l) (fun r hr => h r (List.mem_cons_of_mem _ hr))
    have e : stL (r :: l) k = rE r k ++ stL l k := rfl
    cases hp : p r with
    | true =>
      rw [List.filter_cons_of_pos hp]
      show rE r k ++ stL (l.filter p) k = _
      rw [ih, e]
    | false =>
      rw [List.filter_cons_of_neg (by simp [hp]), ih, e, h r (List.mem_cons_self ..) hp]
      rfl
/-- in rising runs, at most one lies over a key -/
theorem ris_one {k : Nat} {r : RunD} {l : List RunD} (h : Ris (r :: l)) (hl : ∀ q, q ∈ l → q.least ≤ q.great) (hr : rE r k ≠ []) : ∀ q, q ∈ l → rE q k = [] := by
  intro q hq
  have h1 := (List.pairwise_cons.mp h).1 q hq
  have h2 := rE_cov hr
  refine rE_nil (fun hov => ?_)
  have := of_decide_eq_true (show decide _ = true from hov)
  omega
theorem stL_parts {p : RunD → Bool} {k : Nat} : ∀ {l : List RunD}, Ris l → (∀ q, q ∈ l → q.least ≤ q.great) → stL l k = stL (l.filter (fun r => !p r)) k ++ stL (l.filter p) k
  | [], _, _ => rfl
  | r :: l, h, hl => by
    have ih := stL_parts (p := p) (k := k) (List.pairwise_cons.mp h).2 (fun q hq => hl q (List.mem_cons_of_mem _ hq))
    have e : stL (r :: l) k = rE r k ++ stL l k := rfl
    by_cases hr : rE r k = []
    · rw [e, hr, List.nil_append, ih]
      cases hp : p r with
      | true =>
        rw [List.filter_cons_of_pos hp, List.filter_cons_of_neg (by simp [hp])]
        show _ = _ ++ (rE r k ++ stL (l.filter p) k)
        rw [hr]
        rfl
      | false =>
        rw [List.filter_cons_of_neg (p := p) (by simp [hp]), List.filter_cons_of_pos (by simp [hp])]
        show _ = (rE r k ++ stL (l.filter (fun r => !p r)) k) ++ _
        rw [hr]
        rfl
    · have h0 := ris_one h (fun q hq => hl q (List.mem_cons_of_mem _ hq)) hr
      have n1 : ∀ p : RunD → Bool, stL (l.filter p) k = [] := fun p => stL_nil (fun r hr => h0 r (List.mem_filter.mp hr).1)
      rw [e, stL_nil h0, List.append_nil]
      cases hp : p r with
      | true =>
        rw [List.filter_cons_of_pos hp, List.filter_cons_of_neg (by simp [hp]), n1]
        show _ = [] ++ (rE r k ++ stL (l.filter p) k)
        rw [n1, List.append_nil, List.nil_append]
      | false =>
        rw [List.filter_cons_of_neg (p := p) (by simp [hp]), List.filter_cons_of_pos (by simp [hp]), n1]
        show _ = (rE r k ++ stL (l.filter (fun r => !p r)) k) ++ []
        rw [n1, List.append_nil, List.append_nil]
theorem stL_ris {k : Nat} : ∀ {l : List RunD}, Ris l → (∀ q, q ∈ l → q.least ≤ q.great) → (stL l k).Pairwise (fun a b => b.2.1 ≤ a.2.1)
  | [], _, _ => List.Pairwise.nil
  | r :: l, h, hl => by
    have e : stL (r :: l) k = rE r k ++ stL l k := rfl
    by_cases hr : rE r k = []
    · rw [e, hr, List.nil_append]
      exact stL_ris (List.pairwise_cons.mp h).2 (fun q hq => hl q (List.mem_cons_of_mem _ hq))
    · rw [e, stL_nil (ris_one h (fun q hq => hl q (List.mem_cons_of_mem _ hq)) hr), List.append_nil]
      exact rE_dsc
theorem insBs_mem {y : RunD} : ∀ {nr rs : List RunD}, y ∈ insBs rs nr ↔ y ∈ nr ∨ y ∈ rs
  | [], rs => ⟨.inr, fun h => h.elim (fun q => by cases q) id⟩
  | r :: nr, rs => by
    show y ∈ insBs (insB r rs) nr ↔ _
    rw [insBs_mem, insB_mem, List.mem_cons]
    constructor
    · rintro (h | h | h)
      · exact .inl (.inr h)
      · exact .inl (.inl h)
      · exact .inr h
    · rintro ((h | h) | h)
      · exact .inr (.inl h)
      · exact .inl h
      · exact .inr (.inr h)
theorem insBs_perm : ∀ {nr rs : List RunD}, (insBs rs nr).Perm (nr ++ rs)
  | [], rs => List.Perm.refl _
  | r :: nr, rs => by
    show (insBs (insB r rs) nr).Perm _
    refine insBs_perm.trans ?_
    refine (List.Perm.append_left nr insB_perm).trans ?_
    exact List.perm_middle
theorem insBs_ris : ∀ {nr rs : List RunD}, (∀ r, r ∈ nr → r.least ≤ r.great) → nr.Pairwise (fun a b => a.great < b.least) → (∀ q, q ∈ rs → q.least ≤ q.great) → Ris rs → (∀ r, r ∈ nr → ∀ q, q ∈ rs → ¬ q.ov r.least r.great = true) → Ris (insBs rs nr)
  | [], rs, _, _, _, h, _ => h
  | r :: nr, rs, h1, h2, h3, h4, h5 => by
    obtain ⟨p1, p2⟩ := List.pairwise_cons.mp h2
    have hr := h1 r (List.mem_cons_self ..)
    refine insBs_ris (nr := nr) (rs := insB r rs) (fun r hr => h1 r (List.mem_cons_of_mem _ hr)) p2 (fun q hq => ?_) (insB_ris hr h3 h4 (fun q hq => h5 r (List.mem_cons_self ..) q hq)) (fun x hx q hq => ?_)
    · rcases insB_mem.mp hq with rfl | hq
      · exact hr
      · exact h3 q hq
    · rcases insB_mem.mp hq with rfl | hq
      · intro hov
        have := of_decide_eq_true (show decide _ = true from hov)
        have := p1 x hx
        omega
      · exact h5 x (List.mem_cons_of_mem _ hx) q hq
theorem stL_perm {a b : List RunD} {k : Int} (h : a.Perm b) : (stL a k).Perm (stL b k) := by
  unfold stL
  exact List.Perm.flatMap_right _ h
theorem idsR_app {a b : List (List RunD)} : idsR (a ++ b) = idsR a ++ idsR b := List.flatMap_append
theorem amg_mem {ins : List RunD} {r : RunD} {l : List RunD} (h : r ∈ amg ins l) : r ∈ l := (List.mem_filter.mp h).1
section FIN
variable {Mom : List Nat} {nf g o j : Nat} {A B : List (List RunD)} {S T ins nr : List RunD} {ws : List WrD} {kept kr : List ChD} {key : Int} {ρ : ChD → Bool}
/-- the stack over a key: what stays above, what goes in, what stays below -/
theorem mrg_stk {k : Nat} (hTI : TI Mom nf g o (A ++ S :: T :: B) ws) (hk : k < 100) (hj : A.length = j) (hins : ins = amg ins S ++ amg ins T) (h0 : j = 0 → S = kp ins S ++ amg ins S) (hT : ∀ r, r ∈ T → among ins r.id = false → ¬ r.ov (lstR 100 ins) (grtR (-1) ins) = true) :
    stL S k ++ stL T k = stL (kp ins S) k ++ ((wayW k ins).map es ++ stL (kp ins T) k) ∧ ((∃ c, c ∈ wayW k ins) → stL (kp ins T) k = []) := by
  have hS5 : ∀ q, q ∈ S → q.least ≤ q.great := fun q hq => (hTI.2.2.2.2.1 S (by simp) q hq).lg
  have hT5 : ∀ q, q ∈ T → q.least ≤ q.great := fun q hq => (hTI.2.2.2.2.1 T (by simp) q hq).lg
  have hd := hTI.1 k hk
  have hway : ((wayW k ins).map es).Perm (stL ins k) := by
    have h1 := (@wayW_perm (k : Int) ins).map es
    rw [List.map_flatMap] at h1
    exact h1
  by_cases hc : ∃ r, r ∈ ins ∧ rE r k ≠ []
  · obtain ⟨r, hr, hre⟩ := hc
    have hcv := rE_cov hre
    have a1 := (@lstR_le ins 100).2 r hr
    have a2 := (@grtR_ge ins (-1)).2 r hr
    have hTn : ∀ q, q ∈ T → among ins q.id = false → rE q k = [] := by
      intro q hq hqa
      refine rE_nil (fun hov => hT q hq hqa ?_)
      have := of_decide_eq_true (show decide _ = true from hov)
      exact decide_eq_true (by omega)
    have eT : stL T k = stL (amg ins T) k := (stL_flt hTn).symm
    have eT0 : stL (kp ins T) k = [] := stL_nil (fun q hq => by
      obtain ⟨q1, q2⟩ := List.mem_filter.mp hq
      exact hTn q q1 (by simpa using q2))
    have eS : stL S k = stL (kp ins S) k ++ stL (amg ins S) k := by
      by_cases hj0 : j = 0
      · have h1 := h0 hj0
        have h2 := congrArg (fun l => stL l (k : Int)) h1
        simp only [stL_app] at h2
        exact h2
      · have hris : Ris S := (isRis_iff hS5).mp (hTI.2.2.2.1 j S (by rw [List.getElem?_append_right (by omega), hj, Nat.sub_self]; rfl) (by omega))
        exact stL_parts hris hS5
    have ei : stL ins k = stL (amg ins S) k ++ stL (amg ins T) k := by
      have h2 := congrArg (fun l => stL l (k : Int)) hins
      simp only [stL_app] at h2
      exact h2
    have hsub : (stL ins k).Sublist (stkR (A ++ S :: T :: B) k) := by
      rw [stkR_app, ei]
      refine List.Sublist.trans ?_ (List.sublist_append_right _ _)
      show List.Sublist _ (stL S k ++ (stL T k ++ stkR B k))
      rw [eS, eT, List.append_assoc]
      refine List.Sublist.trans ?_ (List.sublist_append_right _ _)
      exact List.Sublist.append_left (List.sublist_append_left _ _) _
    have ew : (wayW k ins).map es = stL ins k := by
      refine dsc_eq hway ?_ (hd.sublist hsub)
      rw [List.pairwise_map]
      exact wayW_dsc List.Pairwise.nil
    refine ⟨?_, fun _ => eT0⟩
    rw [eS, eT, eT0, ew, ei, List.append_nil, List.append_assoc]
  · have hn : ∀ r, r ∈ ins → rE r k = [] := fun r hr => Decidable.byContradiction (fun h => hc ⟨r, hr, h⟩)
    have ew : wayW k ins = [] := by
      rw [stL_nil hn] at hway
      exact List.map_eq_nil_iff.mp (List.perm_nil.mp hway)
    have hin : ∀ q l, q ∈ amg ins l → (l = S ∨ l = T) → q ∈ ins := by
      rintro q l hq (rfl | rfl)
      · rw [hins]
        exact List.mem_append_left _ hq
      · rw [hins]
        exact List.mem_append_right _ hq
    have e : ∀ l, (l = S ∨ l = T) → stL (kp ins l) k = stL l k := by
      intro l hl
      refine stL_flt (fun r hr hp => hn r (hin r l ?_ hl))
      exact List.mem_filter.mpr ⟨hr, by simpa using hp⟩
    rw [ew, e S (.inl rfl), e T (.inr rfl)]
    exact ⟨rfl, fun ⟨c, hc⟩ => by cases hc⟩
end FIN
