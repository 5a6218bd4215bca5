/-! BOUNDS, levels that rise, bringing in keeps it -/
theorem lst_lb {a : Int} : ∀ {l : List ChD} {m : Int}, a ≤ m → (∀ c, c ∈ l → a ≤ (c.f : Int)) → a ≤ lstOf m l
  | [], m, h, _ => h
  | c :: l, m, h, hc => by
    have h1 := hc c (List.mem_cons_self ..)
    exact lst_lb (l := l) (m := min m (c.f : Int)) (by omega) (fun c hc9 => hc c (List.mem_cons_of_mem _ hc9))
theorem grt_ub {a : Int} : ∀ {l : List ChD} {m : Int}, m ≤ a → (∀ c, c ∈ l → (c.t : Int) ≤ a) → grtOf m l ≤ a
  | [], m, h, _ => h
  | c :: l, m, h, hc => by
    have h1 := hc c (List.mem_cons_self ..)
    exact grt_ub (l := l) (m := max m (c.t : Int)) (by omega) (fun c hc9 => hc c (List.mem_cons_of_mem _ hc9))
theorem lst_le : ∀ {l : List ChD} {m : Int}, lstOf m l ≤ m ∧ ∀ c, c ∈ l → lstOf m l ≤ (c.f : Int)
  | [], m => ⟨Int.le_refl _, fun c hc => by cases hc⟩
  | a :: l, m => by
    obtain ⟨h1, h2⟩ := @lst_le l (min m (a.f : Int))
    have e : lstOf m (a :: l) = lstOf (min m (a.f : Int)) l := rfl
    rw [e]
    refine ⟨by omega, fun c hc => ?_⟩
    rcases List.mem_cons.mp hc with rfl | hc
    · omega
    · exact h2 c hc
theorem grt_ge : ∀ {l : List ChD} {m : Int}, m ≤ grtOf m l ∧ ∀ c, c ∈ l → (c.t : Int) ≤ grtOf m l
  | [], m => ⟨Int.le_refl _, fun c hc => by cases hc⟩
  | a :: l, m => by
    obtain ⟨h1, h2⟩ := @grt_ge l (max m (a.t : Int))
    have e : grtOf m (a :: l) = grtOf (max m (a.t : Int)) l := rfl
    rw [e]
    refine ⟨by omega, fun c hc => ?_⟩
    rcases List.mem_cons.mp hc with rfl | hc
    · omega
    · exact h2 c hc
theorem run_in {r : RunD} {a b : Int} (ha : a ≤ 100) (hb : -1 ≤ b) (h : ∀ c, c ∈ r.rows ∨ c ∈ r.spans → a ≤ (c.f : Int) ∧ (c.t : Int) ≤ b) : a ≤ r.least ∧ r.great ≤ b := by
  have h1 := lst_lb (l := r.rows) ha (fun c hc => (h c (.inl hc)).1)
  have h2 := lst_lb (l := r.spans) ha (fun c hc => (h c (.inr hc)).1)
  have h3 := grt_ub (l := r.rows) hb (fun c hc => (h c (.inl hc)).2)
  have h4 := grt_ub (l := r.spans) hb (fun c hc => (h c (.inr hc)).2)
  unfold RunD.least RunD.great
  omega
theorem run_of {r : RunD} {c : ChD} (h : c ∈ r.rows ∨ c ∈ r.spans) : r.least ≤ (c.f : Int) ∧ (c.t : Int) ≤ r.great := by
  have h1 := (@lst_le r.rows 100).2 c
  have h2 := (@lst_le r.spans 100).2 c
  have h3 := (@grt_ge r.rows (-1)).2 c
  have h4 := (@grt_ge r.spans (-1)).2 c
  unfold RunD.least RunD.great
  rcases h with h | h
  · have := h1 h
    have := h3 h
    omega
  · have := h2 h
    have := h4 h
    omega
theorem RunOk.lg {r : RunD} (h : RunOk r) : r.least ≤ r.great := by
  obtain ⟨-, h2, h3, h4, -⟩ := h
  have hex : ∃ c, (c ∈ r.rows ∨ c ∈ r.spans) ∧ c.f ≤ c.t := by
    unfold RunD.wt at h4
    cases hr : r.rows with
    | cons c t =>
      refine ⟨c, .inl (List.mem_cons_self ..), ?_⟩
      have := (h2 c (by rw [hr]; exact List.mem_cons_self ..)).2
      omega
    | nil =>
      cases hs : r.spans with
      | nil => rw [hr, hs] at h4; simp at h4
      | cons c t => exact ⟨c, .inr (List.mem_cons_self ..), (h3 c (by rw [hs]; exact List.mem_cons_self ..)).2⟩
  obtain ⟨c, hc, hft⟩ := hex
  have := run_of hc
  omega
def Ris (l : List RunD) : Prop := l.Pairwise (fun a b => a.great < b.least)
theorem rising_iff : ∀ {l : List RunD} {g : Int}, (∀ r, r ∈ l → r.least ≤ r.great) → (rising g l = true ↔ (∀ r, r ∈ l → g < r.least) ∧ Ris l)
  | [], g, _ => by
    refine ⟨fun _ => ⟨fun r hr => (by cases hr), List.Pairwise.nil⟩, fun _ => rfl⟩
  | r :: l, g, h => by
    have ih := @rising_iff l r.great (fun r hr => h r (List.mem_cons_of_mem _ hr))
    have hr := h r (List.mem_cons_self ..)
    unfold rising
    rw [Bool.and_eq_true, decide_eq_true_eq, ih]
    unfold Ris
    rw [List.pairwise_cons]
    constructor
    · rintro ⟨h1, h2, h3⟩
      refine ⟨fun q hq => ?_, h2, h3⟩
      rcases List.mem_cons.mp hq with rfl | hq
      · exact h1
      · have := h2 q hq
        omega
    · rintro ⟨h1, h2, h3⟩
      exact ⟨h1 r (List.mem_cons_self ..), h2, h3⟩
theorem isRis_iff : ∀ {l : List RunD}, (∀ r, r ∈ l → r.least ≤ r.great) → (isRis l = true ↔ Ris l)
  | [], _ => ⟨fun _ => List.Pairwise.nil, fun _ => rfl⟩
  | r :: l, h => by
    unfold isRis
    rw [rising_iff (fun r hr => h r (List.mem_cons_of_mem _ hr))]
    unfold Ris
    rw [List.pairwise_cons]
theorem insB_ris {r : RunD} (hr : r.least ≤ r.great) : ∀ {l : List RunD}, (∀ q, q ∈ l → q.least ≤ q.great) → Ris l → (∀ q, q ∈ l → ¬ q.ov r.least r.great = true) → Ris (insB r l)
  | [], _, _, _ => List.pairwise_singleton ..
  | x :: l, h1, h2, h3 => by
    obtain ⟨h4, h5⟩ := List.pairwise_cons.mp h2
    have hx := h1 x (List.mem_cons_self ..)
    have hxo : ¬ (x.least ≤ r.great ∧ r.least ≤ x.great) := fun q => h3 x (List.mem_cons_self ..) (decide_eq_true q)
    unfold insB
    split
    · rename_i hlt
      refine List.pairwise_cons.mpr ⟨fun y hy => ?_, insB_ris hr (fun q hq => h1 q (List.mem_cons_of_mem _ hq)) h5 (fun q hq => h3 q (List.mem_cons_of_mem _ hq))⟩
      rcases insB_mem.mp hy with rfl | hy
      · omega
      · exact h4 y hy
    · rename_i hlt
      refine List.pairwise_cons.mpr ⟨fun y hy => ?_, h2⟩
      rcases List.mem_cons.mp hy with rfl | hy
      · omega
      · have := h4 y hy
        omega
theorem rE_nil {r : RunD} {k : Nat} (h : ¬ r.ov k k = true) : rE r k = [] := by
  unfold rE
  rw [rE_ov h]
  rfl
theorem stL_nil {l : List RunD} {k : Nat} (h : ∀ r, r ∈ l → rE r k = []) : stL l k = [] := List.flatMap_eq_nil_iff.mpr h
theorem stL_insB {r : RunD} {k : Nat} : ∀ {l : List RunD}, (rE r k = [] ∨ ∀ q, q ∈ l → rE q k = []) → stL (insB r l) k = rE r k ++ stL l k
  | [], _ => by
    show stL [r] k = _
    unfold stL
    rw [List.flatMap_cons, List.flatMap_nil]
  | x :: l, h => by
    unfold insB
    split
    · have ih := @stL_insB r k l (h.imp id (fun h q hq => h q (List.mem_cons_of_mem _ hq)))
      show rE x k ++ stL (insB r l) k = rE r k ++ (rE x k ++ stL l k)
      rw [ih]
      rcases h with h | h
      · rw [h]
        rfl
      · rw [h x (List.mem_cons_self ..)]
        rfl
    · rfl
theorem insB_perm {r : RunD} : ∀ {l : List RunD}, (insB r l).Perm (r :: l)
  | [] => List.Perm.refl _
  | x :: l => by
    unfold insB
    split
    · exact (List.Perm.cons x insB_perm).trans (List.Perm.swap r x l)
    · exact List.Perm.refl _
/-- a run among the runs of a level -/
def insJ (j : Nat) (r : RunD) (rs : List RunD) : List RunD := if j = 0 then r :: rs else insB r rs
theorem insLv_J {j : Nat} {r : RunD} {l : LvD} : insLv j r l = insJ j r l.rs := rfl
theorem insJ_perm {j : Nat} {r : RunD} {rs : List RunD} : (insJ j r rs).Perm (r :: rs) := by
  unfold insJ
  split
  · exact List.Perm.refl _
  · exact insB_perm
theorem stkR_app {a b : List (List RunD)} {x : Int} : stkR (a ++ b) x = stkR a x ++ stkR b x := List.flatMap_append
theorem stkR_nil {a : List (List RunD)} {k : Nat} (h : ∀ rs, rs ∈ a → ∀ r, r ∈ rs → rE r k = []) : stkR a k = [] := List.flatMap_eq_nil_iff.mpr (fun rs hrs => stL_nil (h rs hrs))
theorem stkR_ins {A B : List (List RunD)} {rs : List RunD} {r : RunD} {k : Nat} (h : 0 < A.length → rE r k = [] ∨ ∀ rs', rs' ∈ A ++ [rs] → ∀ q, q ∈ rs' → rE q k = []) : stkR (A ++ insJ A.length r rs :: B) k = rE r k ++ stkR (A ++ rs :: B) k := by
  rw [stkR_app, stkR_app]
  show stkR A k ++ (stL (insJ A.length r rs) k ++ stkR B k) = rE r k ++ (stkR A k ++ (stL rs k ++ stkR B k))
  unfold insJ
  by_cases h0 : A.length = 0
  · rw [if_pos h0]
    have : A = [] := List.length_eq_zero_iff.mp h0
    subst this
    show [] ++ ((rE r k ++ stL rs k) ++ _) = _
    rw [List.nil_append, List.append_assoc]
    rfl
  · rw [if_neg h0]
    have h1 := h (by omega)
    have h2 : rE r k = [] ∨ ∀ q, q ∈ rs → rE q k = [] := h1.imp id (fun h q hq => h rs (List.mem_append_right _ (List.mem_singleton.mpr rfl)) q hq)
    rw [stL_insB h2]
    rcases h1 with h1 | h1
    · rw [h1]
      rfl
    · rw [stkR_nil (fun rs' h' => h1 rs' (List.mem_append_left _ h'))]
      rw [List.nil_append, List.nil_append, List.append_assoc]
theorem idsR_perm {A B : List (List RunD)} {rs rs' : List RunD} {r : RunD} (h : rs'.Perm (r :: rs)) : (idsR (A ++ rs' :: B)).Perm (r.id :: idsR (A ++ rs :: B)) := by
  unfold idsR
  rw [List.flatMap_append, List.flatMap_append, List.flatMap_cons, List.flatMap_cons]
  have h1 : (rs'.map RunD.id).Perm (r.id :: rs.map RunD.id) := h.map RunD.id
  refine (List.Perm.append_left _ (List.Perm.append_right _ h1)).trans ?_
  exact List.perm_middle
theorem range_one {first step k : Nat} (hs : 1 ≤ step) : ∀ {cnt : Nat}, (((List.range cnt).filter (fun j => decide (first + step * j = k))).length = if (first ≤ k ∧ (k - first) % step = 0 ∧ (k - first) / step < cnt) then 1 else 0)
  | 0 => by simp
  | cnt + 1 => by
    have ih := @range_one first step k hs cnt
    rw [List.range_succ, List.filter_append, List.length_append, ih]
    have hm := Nat.div_add_mod (k - first) step
    by_cases hc : first + step * cnt = k
    · have e1 : (k - first) / step = cnt := by
        rw [← hc, Nat.add_sub_cancel_left, Nat.mul_div_cancel_left _ (by omega)]
      have e2 : (k - first) % step = 0 := by
        rw [← hc, Nat.add_sub_cancel_left, Nat.mul_mod_right]
      rw [List.filter_cons_of_pos (by simpa using hc), if_neg (by omega), if_pos ⟨by rw [← hc]; omega, e2, by omega⟩]
      rfl
    · rw [List.filter_cons_of_neg (by simpa using hc)]
      by_cases hp : first ≤ k ∧ (k - first) % step = 0 ∧ (k - first) / step < cnt
      · rw [if_pos hp, if_pos ⟨hp.1, hp.2.1, by omega⟩]
        rfl
      · rw [if_neg hp, if_neg ?_]
        · rfl
        · rintro ⟨h1, h2, h3⟩
          by_cases h4 : (k - first) / step < cnt
          · exact hp ⟨h1, h2, h4⟩
          · have : (k - first) / step = cnt := by omega
            rw [this, h2] at hm
            omega
