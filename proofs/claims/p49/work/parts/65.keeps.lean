/-! WHAT IS KEPT GIVES WHAT ALL GAVE -/
/-- the new row at a key: marked, or a range that is kept -/
def NW (ρ : ChD → Bool) : List ChD → List Bool → List ChD
  | c :: w, k :: K => if (if c.k = 3 then ρ c else k) = true then c :: NW ρ w K else NW ρ w K
  | _, _ => []
theorem NW_sub {ρ : ChD → Bool} : ∀ {w : List ChD} {K : List Bool}, (NW ρ w K).Sublist w
  | [], K => by cases K <;> exact List.Sublist.refl _
  | c :: w, [] => List.nil_sublist _
  | c :: w, k :: K => by
    unfold NW
    by_cases h : (if c.k = 3 then ρ c else k) = true
    · rw [if_pos h]
      exact List.Sublist.cons_cons c NW_sub
    · rw [if_neg h]
      exact List.Sublist.cons c NW_sub
/-- a row of ranges finds nothing -/
theorem rg_none {o m : Nat} : ∀ {l : List ChD}, (∀ c, c ∈ l → c.k = 3) → resO o (upE m (l.map es)) = none
  | [], _ => rfl
  | c :: l, h => by
    have hc := h c (List.mem_cons_self ..)
    have ih := @rg_none o m l (fun c hc => h c (List.mem_cons_of_mem _ hc))
    rw [List.map_cons]
    unfold upE at ih ⊢
    by_cases hm : (es c).2.1 ≤ m
    · rw [List.filter_cons_of_pos (by simpa using hm)]
      show (if (es c).1 = 1 then _ else if (es c).1 = 4 then _ else none) = none
      have : (es c).1 = 3 := hc
      rw [if_neg (by omega), if_neg (by omega)]
    · rw [List.filter_cons_of_neg (by simpa using hm)]
      exact ih
theorem NW_noK {ρ : ChD → Bool} : ∀ {w : List ChD} {K : List Bool}, (∀ b, b ∈ K → b = false) → ∀ c, c ∈ NW ρ w K → c.k = 3
  | [], K, _, c, hc => by cases K <;> cases hc
  | a :: w, [], _, c, hc => by cases hc
  | a :: w, k :: K, h, c, hc => by
    have hk := h k (List.mem_cons_self ..)
    unfold NW at hc
    by_cases h3 : a.k = 3
    · rw [if_pos h3] at hc
      split at hc
      · rcases List.mem_cons.mp hc with rfl | hc
        · exact h3
        · exact NW_noK (fun b hb => h b (List.mem_cons_of_mem _ hb)) c hc
      · exact NW_noK (fun b hb => h b (List.mem_cons_of_mem _ hb)) c hc
    · rw [if_neg h3, hk] at hc
      exact NW_noK (fun b hb => h b (List.mem_cons_of_mem _ hb)) c hc
theorem selB_no : ∀ {w : List ChD} {K : List Bool}, K.length = w.length → selB w K = [] → ∀ b, b ∈ K → b = false
  | [], K, h, _, b, hb => by
    have : K = [] := List.length_eq_zero_iff.mp h
    subst this
    cases hb
  | c :: w, [], h, _, b, hb => by cases hb
  | c :: w, k :: K, h, hs, b, hb => by
    cases k with
    | true => simp [selB] at hs
    | false =>
      rcases List.mem_cons.mp hb with rfl | hb
      · rfl
      · exact selB_no (by simpa using h) (by simpa [selB] using hs) b hb
theorem upE_cons {m : Nat} {e : E} {l : List E} : upE m (e :: l) = if e.2.1 ≤ m then e :: upE m l else upE m l := by
  unfold upE
  by_cases h : e.2.1 ≤ m
  · rw [List.filter_cons_of_pos (by simpa using h), if_pos h]
  · rw [List.filter_cons_of_neg (by simpa using h), if_neg h]
theorem keep_sem {o m : Nat} {tn : Prop} {ρ : ChD → Bool} {D : List E} : ∀ {w : List ChD} {K : List Bool}, K.length = w.length → NR w K → w.Pairwise (fun a b => b.n < a.n) → KOm tn m w K → (tn → D = []) → (∀ c, c ∈ w → c.k = 1 ∨ c.k = 2 ∨ c.k = 3 ∨ c.k = 4) → (∀ c, c ∈ w → c.k = 3 → ρ c = false → D = [] ∧ ∀ e, e ∈ selB w K → ¬ e.n < c.n) →
    resO o (upE m (w.map es) ++ D) = resO o (upE m ((NW ρ w K).map es) ++ D)
  | [], K, _, _, _, _, _, _, _ => by cases K <;> rfl
  | c :: w, [], h, _, _, _, _, _, _ => by simp at h
  | c :: w, k :: K, h1, h2, h3, h4, h5, h6, h7 => by
    have e1 : K.length = w.length := by simpa using h1
    obtain ⟨p1, p2⟩ := List.pairwise_cons.mp h3
    have hsub : ∀ e, e ∈ selB w K → e ∈ selB (c :: w) (k :: K) := by
      intro e he
      unfold selB
      split
      · exact List.mem_cons_of_mem _ he
      · exact he
    have h6' : ∀ c, c ∈ w → c.k = 1 ∨ c.k = 2 ∨ c.k = 3 ∨ c.k = 4 := fun c hc => h6 c (List.mem_cons_of_mem _ hc)
    have h7' : ∀ c, c ∈ w → c.k = 3 → ρ c = false → D = [] ∧ ∀ e, e ∈ selB w K → ¬ e.n < c.n := fun c hc a b => ⟨(h7 c (List.mem_cons_of_mem _ hc) a b).1, fun e he => (h7 c (List.mem_cons_of_mem _ hc) a b).2 e (hsub e he)⟩
    unfold KOm at h4
    have hcn : (es c).2.1 = c.n := rfl
    have hck : (es c).1 = c.k := rfl
    rw [List.map_cons, upE_cons, hcn]
    unfold NW
    by_cases hm : c.n ≤ m
    · rw [if_pos hm] at h4 ⊢
      by_cases hk3 : c.k = 3
      · have eL : resO o (es c :: upE m (w.map es) ++ D) = none := by
          show (if (es c).1 = 1 then _ else if (es c).1 = 4 then _ else none) = none
          rw [if_neg (by omega), if_neg (by omega)]
        rw [eL, if_pos hk3]
        cases hr : ρ c with
        | true =>
          rw [if_pos rfl, List.map_cons, upE_cons, hcn, if_pos hm]
          show none = (if (es c).1 = 1 then _ else if (es c).1 = 4 then _ else none)
          rw [if_neg (by omega), if_neg (by omega)]
        | false =>
          rw [if_neg (by decide)]
          obtain ⟨g1, g2⟩ := h7 c (List.mem_cons_self ..) hk3 hr
          have g3 : selB w K = [] := List.eq_nil_iff_forall_not_mem.mpr (fun e he => g2 e (hsub e he) (p1 e (selB_mem he)))
          rw [g1, List.append_nil, rg_none (NW_noK (selB_no e1 g3))]
      · rw [if_neg hk3] at h4 ⊢
        by_cases hk4 : c.k = 4
        · rw [if_pos hk4] at h4
          rw [h4.1, if_pos rfl, List.map_cons, upE_cons, hcn, if_pos hm]
          have ih := keep_sem (o := o) (m := m) e1 h2.2 p2 h4.2 h5 h6' h7'
          exact resO_app (P := [es c]) ih
        · rw [if_neg hk4] at h4
          rcases h4 with h4 | ⟨g1, g2, g3⟩
          · rw [h4, if_pos rfl, List.map_cons, upE_cons, hcn, if_pos hm]
            show (if (es c).1 = 1 then some (es c).2.2 else if (es c).1 = 4 then _ else none) = (if (es c).1 = 1 then some (es c).2.2 else if (es c).1 = 4 then _ else none)
            rw [hck, if_neg hk4, if_neg hk4]
          · have eL : resO o (es c :: upE m (w.map es) ++ D) = none := by
              show (if (es c).1 = 1 then _ else if (es c).1 = 4 then _ else none) = none
              rw [if_neg (by omega), if_neg (by omega)]
            rw [eL, h5 g2, List.append_nil]
            cases hk : k with
            | true =>
              rw [if_pos rfl, List.map_cons, upE_cons, hcn, if_pos hm]
              show none = (if (es c).1 = 1 then _ else if (es c).1 = 4 then _ else none)
              rw [if_neg (by omega), if_neg (by omega)]
            | false => rw [if_neg (by decide), rg_none (NW_noK g3)]
    · rw [if_neg hm] at h4 ⊢
      have ih := keep_sem (o := o) (m := m) (ρ := ρ) e1 h2.2 p2 h4 h5 h6' h7'
      rw [ih]
      by_cases hb : (if c.k = 3 then ρ c else k) = true
      · rw [if_pos hb, List.map_cons, upE_cons, hcn, if_neg hm]
      · rw [if_neg hb]
/-- the new row, as a perm -/
theorem NW_perm {ρ : ChD → Bool} : ∀ {w : List ChD} {K : List Bool}, K.length = w.length → NR w K → (NW ρ w K).Perm (selB w K ++ w.filter (fun c => decide (c.k = 3) && ρ c))
  | [], K, h, _ => by
    have : K = [] := List.length_eq_zero_iff.mp h
    subst this
    exact List.Perm.refl _
  | c :: w, [], h, _ => by simp at h
  | c :: w, k :: K, h, hn => by
    have ih := @NW_perm ρ w K (by simpa using h) hn.2
    unfold NW selB
    by_cases h3 : c.k = 3
    · rw [if_pos h3, hn.1 h3, if_neg (show ¬ (false = true) by decide)]
      by_cases hr : ρ c = true
      · rw [if_pos hr, List.filter_cons_of_pos (p := fun c : ChD => decide (c.k = 3) && ρ c) (by simp [h3, hr])]
        exact (List.Perm.cons c ih).trans List.perm_middle.symm
      · rw [if_neg hr, List.filter_cons_of_neg (p := fun c : ChD => decide (c.k = 3) && ρ c) (by simp [hr])]
        exact ih
    · rw [if_neg h3, List.filter_cons_of_neg (p := fun c : ChD => decide (c.k = 3) && ρ c) (by simp [h3])]
      cases k with
      | true => exact List.Perm.cons c ih
      | false => exact ih
theorem selB_sub : ∀ {w : List ChD} {K : List Bool}, (selB w K).Sublist w
  | [], K => by cases K <;> exact List.Sublist.refl _
  | c :: w, [] => List.nil_sublist _
  | c :: w, k :: K => by
    unfold selB
    split
    · exact List.Sublist.cons_cons c selB_sub
    · exact List.Sublist.cons c selB_sub
theorem selB_k3 : ∀ {w : List ChD} {K : List Bool}, NR w K → ∀ c, c ∈ selB w K → c.k ≠ 3
  | [], K, _, c, hc => by cases K <;> cases hc
  | a :: w, [], _, c, hc => by cases hc
  | a :: w, k :: K, hn, c, hc => by
    unfold selB at hc
    by_cases hk : k = true
    · rw [if_pos hk] at hc
      rcases List.mem_cons.mp hc with rfl | hc
      · intro h3
        rw [hn.1 h3] at hk
        cases hk
      · exact selB_k3 hn.2 c hc
    · rw [if_neg hk] at hc
      exact selB_k3 hn.2 c hc
