/-! BRINGING IN KEEPS IT -/
theorem lvF_free {me : Option MeD} {ga : Nat} {x y : Int} : ∀ {t : List LvD} {i dp : Nat}, lvF me ga x y i dp t = dp ∨ (i ≤ lvF me ga x y i dp t ∧ ∀ n, i + n ≤ lvF me ga x y i dp t → ∀ l, t[n]? = some l → l.rs.any (fun r => r.ov x y) = false ∧ clm me ga ((i + n : Nat) : Int) x y = false)
  | [], i, dp => .inl rfl
  | a :: t, i, dp => by
    have ih := @lvF_free me ga x y t (i + 1) i
    by_cases hc : (!(a.rs.any (fun r => r.ov x y)) && !(clm me ga i x y)) = true
    · have e : lvF me ga x y i dp (a :: t) = lvF me ga x y (i + 1) i t := by
        simp only [lvF]
        rw [if_pos hc]
      rw [e]
      rw [Bool.and_eq_true, Bool.not_eq_true', Bool.not_eq_true'] at hc
      refine .inr ⟨by rcases ih with ih | ih <;> omega, fun n hn l hl => ?_⟩
      match n, hn, hl with
      | 0, _, hl =>
        cases hl
        exact hc
      | n + 1, hn, hl =>
        rcases ih with ih | ih
        · omega
        · have h9 := ih.2 n (by omega) l hl
          rw [show i + (n + 1) = i + 1 + n by omega]
          exact h9
    · have e : lvF me ga x y i dp (a :: t) = dp := by
        simp only [lvF]
        rw [if_neg hc]
      exact .inl e
theorem eS {c : ChD} : es c = (c.2.1, c.2.2.1, if c.2.1 = 3 then 0 else c.2.2.2.2.2) := rfl
theorem rows_es {l : List ChD} {k : Nat} : (ovK (k : Int) l).map es = ((l.map Prod.snd).filter (fun d => decide (((d.2.2.1 : Nat) : Int) ≤ (k : Int) ∧ (k : Int) ≤ ((d.2.2.2.1 : Nat) : Int)))).map (fun d => ((d.1, d.2.1, if d.1 = 3 then 0 else d.2.2.2.2) : E)) := by
  rw [List.filter_map, List.map_map]
  rfl
theorem brL_es {n first step k cnt : Nat} {v : Int32} : ((brL n first step v cnt).filter (fun d => decide (((d.2.2.1 : Nat) : Int) ≤ (k : Int) ∧ (k : Int) ≤ ((d.2.2.2.1 : Nat) : Int)))).map (fun d => ((d.1, d.2.1, if d.1 = 3 then 0 else d.2.2.2.2) : E)) = List.replicate ((List.range cnt).filter (fun j => decide (first + step * j = k))).length ((1, n, v) : E) := by
  unfold brL
  rw [List.filter_map, List.map_map]
  rw [show (List.range cnt).filter ((fun d : Nat × Nat × Nat × Nat × Int32 => decide (((d.2.2.1 : Nat) : Int) ≤ (k : Int) ∧ (k : Int) ≤ ((d.2.2.2.1 : Nat) : Int))) ∘ fun j => (1, n, first + step * j, first + step * j, v)) = (List.range cnt).filter (fun j => decide (first + step * j = k)) from List.filter_congr (fun j _ => by
    show decide _ = decide _
    congr 1
    apply propext
    show (((first + step * j : Nat) : Int) ≤ (k : Int) ∧ (k : Int) ≤ ((first + step * j : Nat) : Int)) ↔ _
    omega)]
  refine List.eq_replicate_iff.mpr ⟨List.length_map _, fun b hb => ?_⟩
  obtain ⟨j, -, rfl⟩ := List.mem_map.mp hb
  rfl
theorem on_br {w : WrD} {first step cnt k : Nat} (hf : w.c.f = first) (ht : w.c.t = first + step * (cnt - 1)) (hs : w.s = step) (hst : 1 ≤ step) (hc : 1 ≤ cnt) : w.on k = decide (first ≤ k ∧ (k - first) % step = 0 ∧ (k - first) / step < cnt) := by
  unfold WrD.on
  rw [hf, ht, hs]
  congr 1
  apply propext
  by_cases hk : first ≤ k
  · have e : ((k : Int) - (first : Int)) % (step : Int) = (((k - first) % step : Nat) : Int) := by
      rw [Int.natCast_emod, Int.natCast_sub hk]
    rw [e]
    have hm := Nat.div_add_mod (k - first) step
    constructor
    · rintro ⟨⟨h1, h2⟩, h3⟩
      have h0 : (k - first) % step = 0 := by omega
      refine ⟨hk, h0, ?_⟩
      have h4 : step * ((k - first) / step) ≤ step * (cnt - 1) := by omega
      have := Nat.le_of_mul_le_mul_left h4 (by omega)
      omega
    · rintro ⟨h1, h2, h3⟩
      have h4 : step * ((k - first) / step) ≤ step * (cnt - 1) := Nat.mul_le_mul_left _ (by omega)
      omega
  · constructor
    · rintro ⟨⟨h1, h2⟩, h3⟩
      omega
    · rintro ⟨h1, h2, h3⟩
      omega
theorem rE_bring {r : RunD} {w : WrD} {n first step cnt k : Nat} {v : Int32} (hr : r.rows.map Prod.snd = brL n first step v cnt) (hs : r.spans = []) (hf : w.c.f = first) (ht : w.c.t = first + step * (cnt - 1)) (hws : w.s = step) (hst : 1 ≤ step) (hc : 1 ≤ cnt) (he : es w.c = (1, n, v)) : rE r k = if w.on k = true then [es w.c] else [] := by
  have hp := @rE_perm r k
  rw [hs, show ovK (k : Int) ([] : List ChD) = [] from rfl, List.nil_append, rows_es, hr, brL_es, range_one hst] at hp
  rw [on_br hf ht hws hst hc, he]
  by_cases h : first ≤ k ∧ (k - first) % step = 0 ∧ (k - first) / step < cnt
  · rw [if_pos h] at hp
    rw [if_pos (decide_eq_true h)]
    exact List.perm_singleton.mp hp
  · rw [if_neg h] at hp
    rw [if_neg (fun q => h (of_decide_eq_true q))]
    exact List.perm_nil.mp hp
theorem on_rg {w : WrD} {k : Nat} (h : w.on k = true) : w.c.f ≤ k ∧ k ≤ w.c.t := by
  have := of_decide_eq_true (show decide _ = true from h)
  omega
theorem NumW.snoc {ws : List WrD} {w : WrD} (h : NumW ws) (hw : w.c.n = ws.length + 1) : NumW (ws ++ [w]) := by
  intro i v hv
  by_cases hi : i < ws.length
  · rw [List.getElem?_append_left hi] at hv
    exact h i v hv
  · have h2 := (List.getElem?_eq_some_iff.mp hv).1
    rw [List.length_append] at h2
    have h3 : i = ws.length := by
      have : ([w] : List WrD).length = 1 := rfl
      omega
    subst h3
    rw [List.getElem?_append_right (Nat.le_refl _), Nat.sub_self] at hv
    cases hv
    exact hw
theorem OrdW.snoc {ws : List WrD} {w : WrD} (h : OrdW ws) (hw : w.z = 3 → ∀ a, a ∈ ws → a.memOf w.g = true → ∀ k : Nat, a.on k = true → w.on k = true → False) : OrdW (ws ++ [w]) := by
  refine List.pairwise_append.mpr ⟨h, List.pairwise_singleton .., fun a ha b hb => ?_⟩
  rw [List.mem_singleton.mp hb]
  intro e1 e2 e3 k e4 e5
  exact hw e3 a ha (decide_eq_true ⟨e1, e2⟩) k e4 e5
theorem OrdW.brn {ws : List WrD} {w : WrD} (h : OrdW ws) (hw : ws.any (fun v => v.memOf w.g && v.c.ov w.c.f w.c.t) = false) : OrdW (ws ++ [w]) := by
  refine h.snoc (fun _ a ha hm k h1 h2 => ?_)
  have h3 := List.any_eq_false.mp hw a ha
  apply h3
  rw [hm, Bool.true_and]
  have := on_rg h1
  have := on_rg h2
  exact decide_eq_true (by omega)
/-- after the flush, none of the family's writes is in memory -/
theorem any_flush {g : Nat} {ws : List WrD} {p : WrD → Bool} : (ws.map (flW g)).any (fun v => v.memOf g && p v) = false := by
  refine List.any_eq_false.mpr (fun v hv hb => ?_)
  obtain ⟨u, -, rfl⟩ := List.mem_map.mp hv
  rw [Bool.and_eq_true] at hb
  have h1 := of_decide_eq_true (show decide _ = true from hb.1)
  cases hm : u.memOf g with
  | true =>
    rw [flW_t hm] at h1
    have h2 : (3 : Nat) = 1 ∨ (3 : Nat) = 2 := h1.2
    omega
  | false =>
    rw [flW_f hm] at h1
    exact (of_decide_eq_false (show decide _ = false from hm)) h1
theorem TI.bring {Mom : List Nat} {nf g o : Nat} {A B : List (List RunD)} {rs : List RunD} {ws : List WrD} {r : RunD} {w : WrD} (h : TI Mom nf g o (A ++ rs :: B) ws) (hN : NumW ws) (hwn : w.c.n = ws.length + 1) (hwg : w.g = g) (hwz : w.z = 3) (hE : ∀ k : Nat, k < 100 → rE r k = if w.on k = true then [es w.c] else [])
    (hfr : 0 < A.length → ∀ rs', rs' ∈ A ++ [rs] → ∀ q, q ∈ rs' → ¬ q.ov w.c.f w.c.t = true) (hrg : (w.c.f : Int) ≤ r.least ∧ r.great ≤ (w.c.t : Int)) (hok : RunOk r) (hid : r.id = nf + 1) (h6 : A = [] → rs.length ≤ 999) : TI Mom (nf + 1) g o (A ++ insJ A.length r rs :: B) (ws ++ [w]) := by
  have hnum := fun k hk => h.num hN (k := k) hk
  obtain ⟨h1, h2, h3, h4, h5, h6', h7, h8⟩ := h
  have est : ∀ k : Nat, k < 100 → stkR (A ++ insJ A.length r rs :: B) k = rE r k ++ stkR (A ++ rs :: B) k := by
    intro k hk
    refine stkR_ins (fun hA => ?_)
    by_cases ho : w.on k = true
    · refine .inr (fun rs' h' q hq => rE_nil (fun hov => hfr hA rs' h' q hq ?_))
      have := on_rg ho
      have := of_decide_eq_true (show decide _ = true from hov)
      exact decide_eq_true (by omega)
    · left
      rw [hE k hk, if_neg ho]
  have ei : ∀ k : Nat, k < 100 → iE g k (ws ++ [w]).reverse = rE r k ++ iE g k ws.reverse := by
    intro k hk
    rw [List.reverse_append, iE_app, hE k hk]
    congr 1
    unfold iE
    rw [List.reverse_singleton]
    by_cases ho : w.on k = true
    · rw [if_pos ho, List.filter_cons_of_pos (by rw [ho, Bool.and_true]; exact decide_eq_true ⟨hwg, hwz⟩)]
      rfl
    · rw [if_neg ho, List.filter_cons_of_neg (by rw [Bool.and_eq_true]; exact fun q => ho q.2)]
      rfl
  have hrE : ∀ k : Nat, k < 100 → ∀ e, e ∈ rE r k → w.on k = true ∧ e = es w.c := by
    intro k hk e he
    rw [hE k hk] at he
    by_cases ho : w.on k = true
    · rw [if_pos ho] at he
      exact ⟨ho, List.mem_singleton.mp he⟩
    · rw [if_neg ho] at he
      cases he
  refine ⟨fun k hk => ?_, fun k hk e he => ?_, fun k hk => ?_, ?_, ?_, ?_, ?_, ?_⟩
  · rw [est k hk]
    refine List.pairwise_append.mpr ⟨?_, h1 k hk, fun a ha b hb => ?_⟩
    · rw [hE k hk]
      split
      · exact List.pairwise_singleton ..
      · exact List.Pairwise.nil
    · obtain ⟨-, rfl⟩ := hrE k hk a ha
      have := hnum k hk b hb
      show b.2.1 < w.c.n
      omega
  · rw [est k hk] at he
    rcases List.mem_append.mp he with he | he
    · obtain ⟨ho, rfl⟩ := hrE k hk e he
      exact ⟨w, List.mem_append_right _ (List.mem_singleton.mpr rfl), rfl, hwg, hwz, ho⟩
    · obtain ⟨v, v1, v2⟩ := h2 k hk e he
      exact ⟨v, List.mem_append_left _ v1, v2⟩
  · rw [est k hk, ei k hk]
    refine ⟨resO_app (h3 k hk).1, fun m hm => ?_⟩
    rw [upE_app, upE_app]
    exact resO_app ((h3 k hk).2 m hm)
  · intro j rs9 hj h0
    by_cases hjA : j < A.length
    · rw [List.getElem?_append_left hjA] at hj
      exact h4 j rs9 (by rw [List.getElem?_append_left hjA]; exact hj) h0
    · rw [List.getElem?_append_right (by omega)] at hj
      have h40 := h4 j
      rw [List.getElem?_append_right (by omega)] at h40
      match hd : j - A.length, hj, h40 with
      | 0, hj, h40 =>
        cases hj
        have hA : 0 < A.length := by omega
        have hris := h40 rs rfl h0
        have ho1 : ∀ q, q ∈ rs → q.least ≤ q.great := fun q hq => (h5 rs (List.mem_append_right _ (List.mem_cons_self ..)) q hq).lg
        unfold insJ
        rw [if_neg (by omega)]
        refine (isRis_iff (fun q hq => ?_)).mpr (insB_ris hok.lg ho1 ((isRis_iff ho1).mp hris) (fun q hq hov => ?_))
        · rcases insB_mem.mp hq with rfl | hq
          · exact hok.lg
          · exact ho1 q hq
        · refine hfr hA rs (List.mem_append_right _ (List.mem_singleton.mpr rfl)) q hq ?_
          have := of_decide_eq_true (show decide _ = true from hov)
          exact decide_eq_true (by omega)
      | d + 1, hj, h40 => exact h40 rs9 hj h0
  · intro rs9 hrs q hq
    rcases List.mem_append.mp hrs with hrs | hrs
    · exact h5 rs9 (List.mem_append_left _ hrs) q hq
    · rcases List.mem_cons.mp hrs with rfl | hrs
      · rcases List.mem_cons.mp (insJ_perm.mem_iff.mp hq) with rfl | hq
        · exact hok
        · exact h5 rs (List.mem_append_right _ (List.mem_cons_self ..)) q hq
      · exact h5 rs9 (List.mem_append_right _ (List.mem_cons_of_mem _ hrs)) q hq
  · refine (idsR_perm insJ_perm).nodup_iff.mpr (List.nodup_cons.mpr ⟨fun hm => ?_, h6'⟩)
    have := h7 _ hm
    omega
  · intro i hi
    rcases List.mem_cons.mp ((idsR_perm insJ_perm).mem_iff.mp hi) with rfl | hi
    · omega
    · have := h7 i hi
      omega
  · intro rs9 hrs
    cases A with
    | nil =>
      cases hrs
      have := h6 rfl
      show (r :: rs).length ≤ 1000
      simp only [List.length_cons]
      omega
    | cons a A => exact h8 rs9 hrs
