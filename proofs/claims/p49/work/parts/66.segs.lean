/-! THE RUNS THAT A MERGING MAKES -/
def ascF (l : List ChD) : Prop := l.Pairwise (fun a b => a.f ≤ b.f)
def ptS (l : List ChD) : Prop := ∀ c, c ∈ l → (c.k = 1 ∨ c.k = 2 ∨ c.k = 4) ∧ c.f = c.t ∧ c.f < 100
theorem take_drop_mem {α : Type} {l : List α} {e st : Nat} {x : α} : x ∈ (l.take e).drop st ↔ ∃ i, st ≤ i ∧ i < e ∧ l[i]? = some x := by
  rw [List.mem_iff_getElem?]
  constructor
  · rintro ⟨i, hi⟩
    rw [List.getElem?_drop, List.getElem?_take] at hi
    by_cases h : st + i < e
    · rw [if_pos h] at hi
      exact ⟨st + i, by omega, h, hi⟩
    · rw [if_neg h] at hi
      cases hi
  · rintro ⟨i, h1, h2, h3⟩
    refine ⟨i - st, ?_⟩
    rw [List.getElem?_drop, List.getElem?_take, show st + (i - st) = i by omega, if_pos h2]
    exact h3
theorem asc_at {l : List ChD} (h : ascF l) {i j : Nat} {a b : ChD} (hij : i ≤ j) (ha : l[i]? = some a) (hb : l[j]? = some b) : a.f ≤ b.f := by
  obtain ⟨hi, rfl⟩ := List.getElem?_eq_some_iff.mp ha
  obtain ⟨hj, rfl⟩ := List.getElem?_eq_some_iff.mp hb
  by_cases e : i = j
  · subst e
    exact Nat.le_refl _
  · exact (List.pairwise_iff_getElem.mp h) i j hi hj (by omega)
/-- within a piece, keys lie between its ends -/
theorem seg_rg {K : List ChD} (hK : ascF K) (hp : ptS K) {st e : Nat} {fr : Int} (he : EndP K st e) (hfr : ∀ c, K[st]? = some c → fr ≤ (c.f : Int)) : 0 ≤ toI K e ∧ toI K e ≤ 99 ∧ (∀ c, c ∈ (K.take e).drop st → fr ≤ (c.f : Int) ∧ (c.f : Int) ≤ toI K e) ∧ (e < K.length ∧ (∀ c, K[e]? = some c → toI K e + 1 ≤ (c.f : Int)) ∨ e = K.length ∧ toI K e = 99) := by
  obtain ⟨h1, h2, -, h4⟩ := he
  have lo : ∀ c, c ∈ (K.take e).drop st → fr ≤ (c.f : Int) := by
    intro c hc
    obtain ⟨i, i1, i2, i3⟩ := take_drop_mem.mp hc
    obtain ⟨z, hz⟩ : ∃ z, K[st]? = some z := ⟨K[st]'(by omega), List.getElem?_eq_getElem _⟩
    have a1 := hfr z hz
    have a2 := asc_at hK i1 hz i3
    omega
  rcases h4 with h4 | ⟨x, z, hx, hz, hne⟩
  · have et : toI K e = 99 := by
      unfold toI
      rw [List.getElem?_eq_none (by omega)]
    rw [et]
    refine ⟨by omega, by omega, fun c hc => ⟨lo c hc, ?_⟩, .inr ⟨h4, rfl⟩⟩
    have := (hp c (List.mem_of_mem_take (List.mem_of_mem_drop hc))).2.2
    omega
  · have et : toI K e = (z.f : Int) - 1 := by
      unfold toI
      rw [hz]
    have hxz := asc_at hK (show e - 1 ≤ e by omega) hx hz
    have hzl := (hp z (List.mem_of_getElem? hz)).2.2
    rw [et]
    refine ⟨by omega, by omega, fun c hc => ⟨lo c hc, ?_⟩, .inl ⟨(List.getElem?_eq_some_iff.mp hz).1, fun c hc => ?_⟩⟩
    · obtain ⟨i, i1, i2, i3⟩ := take_drop_mem.mp hc
      have := asc_at hK (show i ≤ e - 1 by omega) i3 hx
      omega
    · rw [hz] at hc
      cases hc
      omega
/-- spans of a piece, over a key -/
theorem clip_ov {l : List ChD} {kr : List ChD} {fr to_ : Int} {k : Nat} (hs : l.map Prod.snd = (kr.filter (fun c => c.ov fr to_)).map (clip fr to_)) (h0 : 0 ≤ fr) (h1 : 0 ≤ to_) (h3 : ∀ c, c ∈ kr → c.k = 3 ∧ c.f ≤ c.t) : (ovK (k : Int) l).map es = if fr ≤ (k : Int) ∧ (k : Int) ≤ to_ then (ovK (k : Int) kr).map es else [] := by
  rw [rows_es, hs, List.filter_map, List.map_map, List.filter_filter]
  by_cases hk : fr ≤ (k : Int) ∧ (k : Int) ≤ to_
  · rw [if_pos hk]
    unfold ovK
    have e : kr.filter (fun a => ((fun d : Nat × Nat × Nat × Nat × Int32 => decide (((d.2.2.1 : Nat) : Int) ≤ (k : Int) ∧ (k : Int) ≤ ((d.2.2.2.1 : Nat) : Int))) ∘ clip fr to_) a && a.ov fr to_) = kr.filter (fun c => c.ov (k : Int) (k : Int)) := by
      refine List.filter_congr (fun c hc => ?_)
      have hf := (h3 c hc).2
      show (decide ((((max (c.f : Int) fr).toNat : Nat) : Int) ≤ (k : Int) ∧ (k : Int) ≤ (((min (c.t : Int) to_).toNat : Nat) : Int)) && decide ((c.f : Int) ≤ to_ ∧ fr ≤ (c.t : Int))) = decide ((c.f : Int) ≤ (k : Int) ∧ (k : Int) ≤ (c.t : Int))
      rw [← Bool.decide_and]
      congr 1
      apply propext
      omega
    rw [e]
    refine List.map_congr_left (fun c hc => ?_)
    have hc3 := (h3 c (List.mem_filter.mp hc).1).1
    show ((3, c.n, if (3 : Nat) = 3 then 0 else (0 : Int32)) : E) = (c.k, c.n, if c.k = 3 then 0 else c.v)
    rw [hc3]
    rfl
  · rw [if_neg hk]
    rw [List.map_eq_nil_iff]
    refine List.filter_eq_nil_iff.mpr (fun c hc hb => ?_)
    rw [Bool.and_eq_true] at hb
    have hf := (h3 c hc).2
    have b1 := of_decide_eq_true (show decide ((((max (c.f : Int) fr).toNat : Nat) : Int) ≤ (k : Int) ∧ (k : Int) ≤ (((min (c.t : Int) to_).toNat : Nat) : Int)) = true from hb.1)
    have b2 := of_decide_eq_true (show decide ((c.f : Int) ≤ to_ ∧ fr ≤ (c.t : Int)) = true from hb.2)
    omega
theorem pts_ov {l : List ChD} {k : Nat} (h : ptS l) : ovK (k : Int) l = l.filter (fun c => decide (c.f = k)) := by
  refine List.filter_congr (fun c hc => ?_)
  have := h c hc
  show decide ((c.f : Int) ≤ (k : Int) ∧ (k : Int) ≤ (c.t : Int)) = _
  congr 1
  apply propext
  omega
/-- over a key, the new runs have what is kept there -/
theorem seg_stk {K kr : List ChD} (hK : ascF K) (hp : ptS K) (h3 : ∀ c, c ∈ kr → c.k = 3 ∧ c.f ≤ c.t) {k : Nat} (hk : k < 100) : ∀ {nr : List RunD} {id st : Nat} {fr : Int}, Seg K kr id st fr nr → 0 ≤ fr → (∀ c, K[st]? = some c → fr ≤ (c.f : Int)) → (st < K.length ∨ fr = 100) →
    (stL nr (k : Int)).Perm (((K.drop st).filter (fun c => decide (c.f = k))).map es ++ (if fr ≤ (k : Int) then (ovK (k : Int) kr).map es else []))
  | [], id, st, fr, hs, h0, hfr, hst => by
    have hs2 : st = K.length := hs
    have : fr = 100 := by omega
    rw [if_neg (by omega), hs2, List.drop_length]
    exact List.Perm.refl _
  | r :: nr, id, st, fr, hs, h0, hfr, hst => by
    obtain ⟨e, he, -, -, hr, hsp, hrest⟩ := hs
    obtain ⟨t1, t2, t3, t4⟩ := seg_rg hK hp he hfr
    have ih := seg_stk hK hp h3 hk hrest (by omega) (by
      rcases t4 with t4 | t4
      · exact t4.2
      · intro c hc
        rw [List.getElem?_eq_none (by omega)] at hc
        cases hc) (by
      rcases t4 with t4 | t4
      · exact .inl t4.1
      · exact .inr (by omega))
    have hst9 := he.1
    have hel9 := he.2.1
    obtain ⟨z, hz⟩ : ∃ z, K[st]? = some z := ⟨K[st]'(by omega), List.getElem?_eq_getElem _⟩
    have hzr := t3 z (take_drop_mem.mpr ⟨st, Nat.le_refl _, hst9, hz⟩)
    have hpr : ptS r.rows := by
      rw [hr]
      exact fun c hc => hp c (List.mem_of_mem_take (List.mem_of_mem_drop hc))
    have h1 := @rE_perm r (k : Int)
    rw [List.map_append, clip_ov hsp h0 t1 h3, pts_ov hpr, hr] at h1
    have ed : K.drop st = (K.take e).drop st ++ K.drop e := by
      have : K.drop st = (K.take e ++ K.drop e).drop st := by rw [List.take_append_drop]
      rw [this, List.drop_append_of_le_length (by rw [List.length_take]; have := he.1; have := he.2.1; omega)]
    show (rE r k ++ stL nr k).Perm _
    refine (List.Perm.append h1 ih).trans ?_
    rw [ed, List.filter_append, List.map_append]
    generalize ((K.take e).drop st).filter (fun c => decide (c.f = k)) = P
    generalize (K.drop e).filter (fun c => decide (c.f = k)) = Q
    by_cases hk1 : fr ≤ (k : Int)
    · by_cases hk2 : (k : Int) ≤ toI K e
      · rw [if_pos ⟨hk1, hk2⟩, if_neg (by omega), if_pos hk1, List.append_nil, List.append_assoc]
        generalize (ovK (k : Int) kr).map es = Z
        exact List.perm_append_comm
      · rw [if_neg (by omega), if_pos (by omega), if_pos hk1, List.nil_append, List.append_assoc]
    · rw [if_neg (by omega), if_neg (by omega), if_neg hk1, List.nil_append, List.append_nil, List.append_nil]
theorem dif_same {k : Nat} : ∀ {l : List ChD}, (∀ c, c ∈ l → c.f = k) → dif (k : Int) l = 0
  | [], _ => rfl
  | c :: l, h => by
    have hc := h c (List.mem_cons_self ..)
    have ih := @dif_same k l (fun c hc => h c (List.mem_cons_of_mem _ hc))
    unfold dif
    rw [hc, if_pos rfl, ih]
theorem dif_one {k : Nat} : ∀ {l : List ChD}, (∀ c, c ∈ l → c.f = k) → dif (-1) l ≤ 1
  | [], _ => Nat.zero_le _
  | c :: l, h => by
    have hc := h c (List.mem_cons_self ..)
    have ih := @dif_same k l (fun c hc => h c (List.mem_cons_of_mem _ hc))
    unfold dif
    rw [hc, ih]
    split <;> omega
theorem clip_k {l : List ChD} {kr : List ChD} {fr to_ : Int} (hs : l.map Prod.snd = (kr.filter (fun c => c.ov fr to_)).map (clip fr to_)) (h0 : 0 ≤ fr) (h1 : fr ≤ to_) (h3 : ∀ c, c ∈ kr → c.k = 3 ∧ c.f ≤ c.t) : ∀ c, c ∈ l → c.k = 3 ∧ c.f ≤ c.t ∧ fr ≤ (c.f : Int) ∧ (c.t : Int) ≤ to_ ∧ ∃ q, q ∈ kr ∧ q.f ≤ c.f ∧ c.t ≤ q.t := by
  intro c hc
  have h2 : c.2 ∈ l.map Prod.snd := List.mem_map_of_mem hc
  rw [hs] at h2
  obtain ⟨q, hq, e⟩ := List.mem_map.mp h2
  obtain ⟨q1, q2⟩ := List.mem_filter.mp hq
  have q3 := (h3 q q1).2
  have q4 := of_decide_eq_true (show decide _ = true from q2)
  have e1 : c.k = 3 := by show c.2.1 = 3; rw [← e]; rfl
  have e2 : c.f = (max (q.f : Int) fr).toNat := by show c.2.2.2.1 = _; rw [← e]; rfl
  have e3 : c.t = (min (q.t : Int) to_).toNat := by show c.2.2.2.2.1 = _; rw [← e]; rfl
  refine ⟨e1, by omega, by omega, by omega, q, q1, by omega, by omega⟩
/-- the new runs are in order, in their pieces -/
theorem seg_ok {K kr : List ChD} (hK : ascF K) (hp : ptS K) (h3 : ∀ c, c ∈ kr → c.k = 3 ∧ c.f ≤ c.t) : ∀ {nr : List RunD} {id st : Nat} {fr : Int}, Seg K kr id st fr nr → 0 ≤ fr → (∀ c, K[st]? = some c → fr ≤ (c.f : Int)) →
    (∀ r, r ∈ nr → RunOk r ∧ fr ≤ r.least ∧ id < r.id ∧ r.id ≤ id + nr.length ∧ ∀ c, c ∈ r.rows ∨ c ∈ r.spans → ∃ q, (q ∈ K ∨ q ∈ kr) ∧ q.f ≤ c.f ∧ c.t ≤ q.t) ∧ nr.Pairwise (fun a b => a.great < b.least) ∧ nr.Pairwise (fun a b => a.id < b.id)
  | [], id, st, fr, hs, h0, hfr => ⟨fun r hr => (by cases hr), List.Pairwise.nil, List.Pairwise.nil⟩
  | r :: nr, id, st, fr, hs, h0, hfr => by
    obtain ⟨e, he, hid, hmg, hr, hsp, hrest⟩ := hs
    obtain ⟨t1, t2, t3, t4⟩ := seg_rg hK hp he hfr
    obtain ⟨g1, g2, g3⟩ := seg_ok hK hp h3 hrest (by omega) (by
      rcases t4 with t4 | t4
      · exact t4.2
      · intro c hc
        rw [List.getElem?_eq_none (by omega)] at hc
        cases hc)
    have hst := he.1
    have hel := he.2.1
    obtain ⟨z, hz⟩ : ∃ z, K[st]? = some z := ⟨K[st]'(by omega), List.getElem?_eq_getElem _⟩
    have hzm : z ∈ (K.take e).drop st := take_drop_mem.mpr ⟨st, Nat.le_refl _, hst, hz⟩
    have hzr := t3 z hzm
    have hck := clip_k hsp h0 (by omega) h3
    have hrl : r.rows.length = e - st := by
      rw [hr, List.length_drop, List.length_take]
      omega
    have hrow : ∀ c, c ∈ r.rows → (c.k = 1 ∨ c.k = 2 ∨ c.k = 4) ∧ c.f = c.t ∧ fr ≤ (c.f : Int) ∧ (c.f : Int) ≤ toI K e ∧ c ∈ K := by
      intro c hc
      rw [hr] at hc
      have hcK := List.mem_of_mem_take (List.mem_of_mem_drop hc)
      have a := hp c hcK
      have b := t3 c hc
      exact ⟨a.1, a.2.1, b.1, b.2, hcK⟩
    have hok : RunOk r := by
      refine ⟨?_, fun c hc => ⟨(hrow c hc).1, (hrow c hc).2.1⟩, fun c hc => ⟨(hck c hc).1, (hck c hc).2.1⟩, ?_, ?_⟩
      · rw [hr]
        exact List.Pairwise.sublist ((List.drop_sublist _ _).trans (List.take_sublist _ _)) hK
      · unfold RunD.wt
        omega
      · refine decide_eq_true ?_
        rcases he.2.2.1 with h | h
        · exact .inr (.inl (by omega))
        · right
          right
          obtain ⟨c, c1, c2, c3, c4, c5, c6⟩ := eok_lt (l := K) (s := st) (by omega)
          refine dif_one (k := c.f) (fun x hx => ?_)
          rw [hr] at hx
          obtain ⟨i, i1, i2, i3⟩ := take_drop_mem.mp hx
          exact c5 i x i1 (by omega) i3
    have hin : fr ≤ r.least ∧ r.great ≤ toI K e := by
      refine run_in (by omega) (by omega) (fun c hc => ?_)
      rcases hc with hc | hc
      · have := hrow c hc
        omega
      · have := hck c hc
        omega
    refine ⟨fun q hq => ?_, List.pairwise_cons.mpr ⟨fun q hq => ?_, g2⟩, List.pairwise_cons.mpr ⟨fun q hq => ?_, g3⟩⟩
    · rcases List.mem_cons.mp hq with rfl | hq
      · refine ⟨hok, hin.1, by omega, by simp only [List.length_cons]; omega, fun c hc => ?_⟩
        rcases hc with hc | hc
        · exact ⟨c, .inl (hrow c hc).2.2.2.2, Nat.le_refl _, Nat.le_refl _⟩
        · obtain ⟨-, -, -, -, q, q1, q2⟩ := hck c hc
          exact ⟨q, .inr q1, q2⟩
      · obtain ⟨a1, a2, a3, a4, a5⟩ := g1 q hq
        refine ⟨a1, by omega, by omega, by simp only [List.length_cons]; omega, a5⟩
    · have := (g1 q hq).2.1
      omega
    · have := (g1 q hq).2.2.1
      omega
