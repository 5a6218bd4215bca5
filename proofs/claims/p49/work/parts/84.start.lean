/-! THE START -/
theorem TI.nil {Mom : List Nat} {nf g o : Nat} {rss : List (List RunD)} (h : ∀ rs, rs ∈ rss → rs = []) : TI Mom nf g o rss [] := by
  have e : ∀ x : Int, stkR rss x = [] := fun x => List.flatMap_eq_nil_iff.mpr (fun rs hrs => by rw [h rs hrs]; rfl)
  have ei : idsR rss = [] := List.flatMap_eq_nil_iff.mpr (fun rs hrs => by rw [h rs hrs]; rfl)
  refine ⟨fun k hk => by rw [e]; exact List.Pairwise.nil, fun k hk z hz => (by rw [e] at hz; cases hz), fun k hk => ⟨by rw [e]; rfl, fun m hm => by rw [e]; rfl⟩, fun j rs hj h0 => ?_, fun rs hrs q hq => ?_, by rw [ei]; exact List.nodup_nil, fun i hi => (by rw [ei] at hi; cases hi), fun rs hrs => ?_⟩
  · rw [h rs (List.mem_of_getElem? hj)]
    rfl
  · rw [h rs hrs] at hq
    cases hq
  · rw [h rs (List.mem_of_getElem? hrs)]
    exact Nat.zero_le _
theorem GI.new0 : GI [] 0 [] [] [] none := ⟨fun i w hw => (by simp at hw), List.Pairwise.nil, fun w hw => (by cases hw), fun i g hg => (by simp at hg), fun b hb => (by cases hb), MeI.none⟩
theorem GI.addF {Mom : List Nat} {nf : Nat} {fs : List FamD} {g : FamD} (h : GI Mom nf fs [] [] none) (hg : g.g = fs.length) (hlv : ∀ l, l ∈ g.lv → l.rs = []) : GI Mom nf (fs ++ [g]) [] [] none := by
  obtain ⟨a1, a2, a3, a4, a5, a6⟩ := h
  refine ⟨a1, a2, a3, fun i x hx => ?_, fun b hb => (by cases hb), MeI.none⟩
  by_cases hi : i < fs.length
  · rw [List.getElem?_append_left hi] at hx
    exact a4 i x hx
  · have h2 := (List.getElem?_eq_some_iff.mp hx).1
    rw [List.length_append] at h2
    have h3 : i = fs.length := by
      have : ([g] : List FamD).length = 1 := rfl
      omega
    subst h3
    rw [List.getElem?_append_right (Nat.le_refl _), Nat.sub_self] at hx
    cases hx
    refine ⟨hg, TI.nil (fun rs hrs => ?_)⟩
    obtain ⟨l, hl, rfl⟩ := List.mem_map.mp hrs
    exact hlv l hl
