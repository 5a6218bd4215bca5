/-! RUN'S METHODS, addRow, endOfKey, endOfRun -/
def insW (c : ChD) : List ChD → List ChD
  | [] => [c]
  | x :: l => if c.n < x.n then x :: insW c l else c :: x :: l
def insR (c : ChD) : List ChD → List ChD
  | [] => [c]
  | x :: l => if x.f < c.f then x :: insR c l else c :: x :: l
def addW (x : Int) (w : List ChD) (c : ChD) : List ChD := if c.ov x x then insW c w else w
def colW (r : RunD) (x : Int) (w : List ChD) : List ChD := r.spans.foldl (addW x) (r.rows.foldl (addW x) w)
theorem insW_mem {c y : ChD} : ∀ {l : List ChD}, y ∈ insW c l ↔ y = c ∨ y ∈ l
  | [] => by simp [insW]
  | x :: l => by
    unfold insW
    split
    · rw [List.mem_cons, insW_mem, List.mem_cons]
      constructor
      · rintro (h | h | h)
        · exact .inr (.inl h)
        · exact .inl h
        · exact .inr (.inr h)
      · rintro (h | h | h)
        · exact .inr (.inl h)
        · exact .inl h
        · exact .inr (.inr h)
    · simp
theorem insW_len {c : ChD} : ∀ {l : List ChD}, (insW c l).length = l.length + 1
  | [] => rfl
  | x :: l => by
    unfold insW
    split
    · simp [insW_len]
    · simp
theorem insR_mem {c y : ChD} : ∀ {l : List ChD}, y ∈ insR c l ↔ y = c ∨ y ∈ l
  | [] => by simp [insR]
  | x :: l => by
    unfold insR
    split
    · rw [List.mem_cons, insR_mem, List.mem_cons]
      constructor
      · rintro (h | h | h)
        · exact .inr (.inl h)
        · exact .inl h
        · exact .inr (.inr h)
      · rintro (h | h | h)
        · exact .inr (.inl h)
        · exact .inl h
        · exact .inr (.inr h)
    · simp
theorem insR_len {c : ChD} : ∀ {l : List ChD}, (insR c l).length = l.length + 1
  | [] => rfl
  | x :: l => by
    unfold insR
    split
    · simp [insR_len]
    · simp
theorem addW_mem {x : Int} {w : List ChD} {c y : ChD} (h : y ∈ addW x w c) : y = c ∨ y ∈ w := by
  unfold addW at h
  split at h
  · exact insW_mem.mp h
  · exact .inr h
theorem addW_len {x : Int} {w : List ChD} {c : ChD} : w.length ≤ (addW x w c).length ∧ (addW x w c).length ≤ w.length + 1 := by
  unfold addW
  split
  · rw [insW_len]
    omega
  · omega
theorem foldW_mem {x : Int} {y : ChD} : ∀ {l w : List ChD}, y ∈ l.foldl (addW x) w → y ∈ l ∨ y ∈ w
  | [], w, h => .inr h
  | c :: l, w, h => by
    rcases foldW_mem (l := l) h with h | h
    · exact .inl (List.mem_cons_of_mem _ h)
    · rcases addW_mem h with rfl | h
      · exact .inl (List.mem_cons_self ..)
      · exact .inr h
theorem foldW_len {x : Int} : ∀ {l w : List ChD}, w.length ≤ (l.foldl (addW x) w).length ∧ (l.foldl (addW x) w).length ≤ w.length + l.length
  | [], w => ⟨Nat.le_refl _, Nat.le_refl _⟩
  | c :: l, w => by
    have h1 := @foldW_len x l (addW x w c)
    have h2 := @addW_len x w c
    simp only [List.foldl_cons, List.length_cons]
    omega
theorem colW_mem {r : RunD} {x : Int} {w : List ChD} {y : ChD} (h : y ∈ colW r x w) : y ∈ r.rows ∨ y ∈ r.spans ∨ y ∈ w := by
  rcases foldW_mem h with h | h
  · exact .inr (.inl h)
  · rcases foldW_mem h with h | h
    · exact .inl h
    · exact .inr (.inr h)
theorem colW_len {r : RunD} {x : Int} {w : List ChD} : w.length ≤ (colW r x w).length ∧ (colW r x w).length ≤ w.length + r.wt := by
  have h1 := @foldW_len x r.spans (r.rows.foldl (addW x) w)
  have h2 := @foldW_len x r.rows w
  unfold colW RunD.wt
  omega
def kbh (x : Int) : List ChD → Int
  | [] => 100
  | c :: l => if x < (c.f : Int) then (c.f : Int) else kbh x l
def runLen (k : Nat) : List ChD → Nat
  | [] => 0
  | c :: l => if c.f = k then 1 + runLen k l else 0
def eok (l : List ChD) (s : Nat) : Nat := match l.drop s with
  | [] => s
  | c :: _ => s + runLen c.f (l.drop s)
theorem ins_map {l : List ChD} {c : ChD} {i : Nat} : (l.map ChD.a).take i ++ c.a :: (l.map ChD.a).drop i = (l.take i ++ c :: l.drop i).map ChD.a := by simp [List.map_take, List.map_drop]
section C3
variable {sc : gSc} {d : Nat} {A : gA} {c : ChD} {x y : Int} {r : RunD} {F : Nat → Option vC}
theorem c137_l {l : List ChD} {wa lc : Nat} (hl : A.1 wa = some (vL lc (l.map ChD.a))) (hk : ∀ c, c ∈ l → okCh A.1 c) (hc : okCh A.1 c) (hlen : l.length < 2600) : ∀ (k i : Nat), i + k = l.length →
    Wv sc 6 137 12 [some (.ref c.a), some (.int (zI x)), some (.ref wa), some (.int (zI i))] [] A (fun o A' => o = .inl none ∧ LsTo A wa lc ((l.take i ++ insW c (l.drop i)).map ChD.a) A')
  | 0, i, hik => by
    have e : l.drop i = [] := List.drop_of_length_le (by omega)
    have hc1 := hc.1
    have hll : (l.map ChD.a).length = l.length := List.length_map _
    refine wv_s f137_12 rfl (fun _ => rfl) ?_
    refine wv_s f137_13 rfl (fun _ => rfl) ?_
    refine wv_lsize f137_14 (by assumption) (by omega) (by simp) (fun hs => ?_)
    rw [List.length_map] at hs ⊢
    refine wv_cT_ge f137_17 (by omega) (by omega) (by omega) ?_
    refine wv_s f137_44 rfl (fun _ => rfl) ?_
    refine wv_s f137_45 rfl (fun _ => rfl) ?_
    refine wv_s f137_46 rfl (fun _ => rfl) ?_
    refine wv_lins f137_47 (by assumption) (by first | rfl | omega) (by omega) (by assumption) (by decide +kernel) (by omega) (by omega) (by simp) (fun c1 k1 s1 hlg => ?_)
    exact wv_vret f137_50 (by decide +kernel) (⟨rfl, c1, k1, s1, lg_mono hlg (by rw [e]; simp [insW]; omega), by rw [ins_map, e]; rfl⟩)
  | k + 1, i, hik => by
    have hi : i < l.length := by omega
    obtain ⟨z, hzm, hz0, hz1, hzd, hzt⟩ := at_i hi
    have hz := (hk z hzm).1
    have hc1 := hc.1
    have hzn := (hk z hzm).2.2.1
    have hcn := hc.2.2.1
    have hll : (l.map ChD.a).length = l.length := List.length_map _
    refine wv_s f137_12 rfl (fun _ => rfl) ?_
    refine wv_s f137_13 rfl (fun _ => rfl) ?_
    refine wv_lsize f137_14 (by assumption) (by omega) (by simp) (fun hs => ?_)
    rw [List.length_map] at hs ⊢
    refine wv_cF_ge f137_17 (by omega) (by omega) (by omega) ?_
    refine wv_s f137_20 rfl (fun _ => rfl) ?_
    refine wv_s f137_21 rfl (fun _ => rfl) ?_
    refine wv_lget f137_22 (by assumption) (by first | rfl | omega) (hz1 _) (by omega) (by simp) ?_
    refine wv_cast f137_25 (by assumption) ?_
    refine wv_getfield f137_28 (by assumption) (by rfl) ?_
    refine wv_s f137_31 rfl (fun _ => rfl) ?_
    refine wv_getfield f137_32 (by assumption) (by rfl) ?_
    refine wv_cX_le f137_35 (by omega) (by omega) (fun hb => ?_) (fun hb => ?_)
    · refine wv_s f137_44 rfl (fun _ => rfl) ?_
      refine wv_s f137_45 rfl (fun _ => rfl) ?_
      refine wv_s f137_46 rfl (fun _ => rfl) ?_
      refine wv_lins f137_47 (by assumption) (by first | rfl | omega) (by omega) (by assumption) (by decide +kernel) (by omega) (by omega) (by simp) (fun c1 k1 s1 hlg => ?_)
      exact wv_vret f137_50 (by decide +kernel) (⟨rfl, c1, k1, s1, lg_mono hlg (by rw [hzd]; unfold insW; rw [if_neg (by omega)]; simp; omega), by rw [ins_map, hzd]; simp only [insW]; rw [if_neg (by omega)]⟩)
    · refine wv_inc3 f137_38 ?_
      refine wv_s (pc' := 12) f137_41 rfl (fun _ => rfl) ?_
      refine (c137_l hl hk hc hlen k (i + 1) (by omega)).up (Nat.le_refl _) (fun o A' h => ?_)
      rw [hzd]
      unfold insW
      rw [if_pos (by omega)]
      rw [hzt, List.append_assoc] at h
      exact h
theorem c137 {l : List ChD} {wa lc : Nat} (hl : A.1 wa = some (vL lc (l.map ChD.a))) (hk : ∀ c, c ∈ l → okCh A.1 c) (hc : okCh A.1 c) (hlen : l.length < 2600) (hx : i32 x) :
    Wc sc 6 137 [.ref c.a, .int (zI x), .ref wa] A (fun o A' => o = .inl none ∧ LsTo A wa lc ((addW x l c).map ChD.a) A') := by
  show Wv sc 6 137 0 [some (.ref c.a), some (.int (zI x)), some (.ref wa), none] [] A _
  have hc1 := hc.1
  unfold addW
  refine wv_s f137_0 rfl (fun _ => rfl) ?_
  refine wv_s f137_1 rfl (fun _ => rfl) ?_
  refine wv_s f137_2 rfl (fun _ => rfl) ?_
  refine wv_valV f137_3 (by decide) (by simp) (by simp) (by decide +kernel) (by assumption) (by rfl) (by decide +kernel) rfl (c102 hc hx hx) (by omega) ?_
  by_cases ho : c.ov x x = true
  · rw [if_pos ho]
    refine wv_nT f137_6 (ho) ?_
    refine wv_icon f137_10 ?_
    refine wv_st3 f137_11 rfl (fun _ _ => rfl) ?_
    exact (c137_l hl hk hc hlen l.length 0 (by omega))
  · rw [if_neg ho]
    have ho : c.ov x x = false := by simpa using ho
    refine wv_nF f137_6 (ho) ?_
    exact wv_vret f137_9 (by decide +kernel) (⟨rfl, LsTo.refl hl⟩)
theorem c20_l {l : List ChD} {wa lc : Nat} (hl : A.1 wa = some (vL lc (l.map ChD.a))) (hk : ∀ c, c ∈ l → okCh A.1 c) (hc : okCh A.1 c) (hlen : l.length < 2600) : ∀ (k i : Nat), i + k = l.length →
    Wv sc 6 20 2 [some (.ref wa), some (.ref c.a), some (.int (zI i))] [] A (fun o A' => o = .inl none ∧ LsTo A wa lc ((l.take i ++ insR c (l.drop i)).map ChD.a) A')
  | 0, i, hik => by
    have e : l.drop i = [] := List.drop_of_length_le (by omega)
    have hc1 := hc.1
    have hll : (l.map ChD.a).length = l.length := List.length_map _
    refine wv_s f20_2 rfl (fun _ => rfl) ?_
    refine wv_s f20_3 rfl (fun _ => rfl) ?_
    refine wv_lsize f20_4 (by assumption) (by omega) (by simp) (fun hs => ?_)
    rw [List.length_map] at hs ⊢
    refine wv_cT_ge f20_7 (by omega) (by omega) (by omega) ?_
    refine wv_s f20_34 rfl (fun _ => rfl) ?_
    refine wv_s f20_35 rfl (fun _ => rfl) ?_
    refine wv_s f20_36 rfl (fun _ => rfl) ?_
    refine wv_lins f20_37 (by assumption) (by first | rfl | omega) (by omega) (by assumption) (by decide +kernel) (by omega) (by omega) (by simp) (fun c1 k1 s1 hlg => ?_)
    exact wv_vret f20_40 (by decide +kernel) (⟨rfl, c1, k1, s1, lg_mono hlg (by rw [e]; simp [insR]; omega), by rw [ins_map, e]; rfl⟩)
  | k + 1, i, hik => by
    have hi : i < l.length := by omega
    obtain ⟨z, hzm, hz0, hz1, hzd, hzt⟩ := at_i hi
    have hz := (hk z hzm).1
    have hc1 := hc.1
    have hzn := (hk z hzm).2.2.2.1
    have hcn := hc.2.2.2.1
    have hll : (l.map ChD.a).length = l.length := List.length_map _
    refine wv_s f20_2 rfl (fun _ => rfl) ?_
    refine wv_s f20_3 rfl (fun _ => rfl) ?_
    refine wv_lsize f20_4 (by assumption) (by omega) (by simp) (fun hs => ?_)
    rw [List.length_map] at hs ⊢
    refine wv_cF_ge f20_7 (by omega) (by omega) (by omega) ?_
    refine wv_s f20_10 rfl (fun _ => rfl) ?_
    refine wv_s f20_11 rfl (fun _ => rfl) ?_
    refine wv_lget f20_12 (by assumption) (by first | rfl | omega) (hz1 _) (by omega) (by simp) ?_
    refine wv_cast f20_15 (by assumption) ?_
    refine wv_getfield f20_18 (by assumption) (by rfl) ?_
    refine wv_s f20_21 rfl (fun _ => rfl) ?_
    refine wv_getfield f20_22 (by assumption) (by rfl) ?_
    refine wv_cX_ge f20_25 (by omega) (by omega) (fun hb => ?_) (fun hb => ?_)
    · refine wv_s f20_34 rfl (fun _ => rfl) ?_
      refine wv_s f20_35 rfl (fun _ => rfl) ?_
      refine wv_s f20_36 rfl (fun _ => rfl) ?_
      refine wv_lins f20_37 (by assumption) (by first | rfl | omega) (by omega) (by assumption) (by decide +kernel) (by omega) (by omega) (by simp) (fun c1 k1 s1 hlg => ?_)
      exact wv_vret f20_40 (by decide +kernel) (⟨rfl, c1, k1, s1, lg_mono hlg (by rw [hzd]; unfold insR; rw [if_neg (by omega)]; simp; omega), by rw [ins_map, hzd]; simp only [insR]; rw [if_neg (by omega)]⟩)
    · refine wv_inc2 f20_28 ?_
      refine wv_s (pc' := 2) f20_31 rfl (fun _ => rfl) ?_
      refine (c20_l hl hk hc hlen k (i + 1) (by omega)).up (Nat.le_refl _) (fun o A' h => ?_)
      rw [hzd]
      unfold insR
      rw [if_pos (by omega)]
      rw [hzt, List.append_assoc] at h
      exact h
theorem c20 {l : List ChD} {wa lc : Nat} (hl : A.1 wa = some (vL lc (l.map ChD.a))) (hk : ∀ c, c ∈ l → okCh A.1 c) (hc : okCh A.1 c) (hlen : l.length < 2600) :
    Wc sc 6 20 [.ref wa, .ref c.a] A (fun o A' => o = .inl none ∧ LsTo A wa lc ((insR c l).map ChD.a) A') := by
  show Wv sc 6 20 0 [some (.ref wa), some (.ref c.a), none] [] A _
  refine wv_icon f20_0 ?_
  refine wv_st2 f20_1 rfl (fun _ _ => rfl) ?_
  exact (c20_l hl hk hc hlen l.length 0 (by omega))
theorem c139_1 {Q : gO → gA → Prop} {wa : Nat} (hw : F wa = none) (hr : okRun F r) (hx : i32 x) : ∀ (k i lc : Nat) (A : gA) (w : List ChD), i + k = r.rows.length → Sub F A → A.1 wa = some (vL lc (w.map ChD.a)) → (∀ c, c ∈ w → okCh F c) → w.length + k < 2600 →
    (∀ A', LsTo A wa lc (((r.rows.drop i).foldl (addW x) w).map ChD.a) A' → Wv sc 7 139 35 [some (.ref r.a), some (.int (zI x)), some (.ref wa), some (.int (zI r.rows.length))] [] A' Q) →
    Wv sc 7 139 2 [some (.ref r.a), some (.int (zI x)), some (.ref wa), some (.int (zI i))] [] A Q
  | 0, i, lc, A, w, hik, hF, hl, hk, hlen, hn => by
    have hA := hr.ext hF
    obtain ⟨h1, h2, -⟩ := hA
    have e : r.rows.drop i = [] := List.drop_of_length_le (by omega)
    have e2 : i = r.rows.length := by omega
    rw [e] at hn
    have hn := hn A (LsTo.refl hl)
    refine wv_s f139_2 rfl (fun _ => rfl) ?_
    refine wv_s f139_3 rfl (fun _ => rfl) ?_
    refine wv_getfield f139_4 (by assumption) (by rfl) ?_
    refine wv_lsize f139_7 (by assumption) (by omega) (by simp) (fun hs => ?_)
    rw [List.length_map] at hs ⊢
    refine wv_cT_ge f139_10 (by omega) (by omega) (by omega) ?_
    rw [e2]
    exact hn
  | k + 1, i, lc, A, w, hik, hF, hl, hk, hlen, hn => by
    have hA := hr.ext hF
    obtain ⟨h1, h2, -⟩ := hA
    have hi : i < r.rows.length := by omega
    obtain ⟨z, hzm, hz0, hz1, hzd, hzt⟩ := at_i hi
    have hzF := hr.2.2.2.1 z hzm
    have hz := (hzF.ext hF).1
    refine wv_s f139_2 rfl (fun _ => rfl) ?_
    refine wv_s f139_3 rfl (fun _ => rfl) ?_
    refine wv_getfield f139_4 (by assumption) (by rfl) ?_
    refine wv_lsize f139_7 (by assumption) (by omega) (by simp) (fun hs => ?_)
    rw [List.length_map] at hs ⊢
    refine wv_cF_ge f139_10 (by omega) (by omega) (by omega) ?_
    refine wv_s f139_13 rfl (fun _ => rfl) ?_
    refine wv_getfield f139_14 (by assumption) (by rfl) ?_
    refine wv_s f139_17 rfl (fun _ => rfl) ?_
    refine wv_lget f139_18 (by assumption) (by first | rfl | omega) (hz1 _) (by omega) (by simp) ?_
    refine wv_cast f139_21 (by assumption) ?_
    refine wv_s f139_24 rfl (fun _ => rfl) ?_
    refine wv_s f139_25 rfl (fun _ => rfl) ?_
    refine wv_effS f139_26 (by decide) (by simp) (by simp) (by decide +kernel) (c137 hl (fun c hc => (hk c hc).ext hF) (hzF.ext hF) (by omega) hx) (by omega) (fun A1 hA1 => ?_)
    refine wv_inc3 f139_29 ?_
    refine wv_s (pc' := 2) f139_32 rfl (fun _ => rfl) ?_
    obtain ⟨lc1, hl1⟩ := hA1.at
    have hlw := @addW_len x w z
    refine c139_1 hw hr hx k (i + 1) lc1 A1 (addW x w z) (by omega) (hA1.sub hF hw) hl1 (fun c hc => ?_) (by omega) (fun A' hA' => hn A' ?_)
    · rcases addW_mem hc with rfl | hc
      · exact hzF
      · exact hk c hc
    · rw [hzd]
      refine hA1.trans (fun c1 hc1 => ?_) ?_
      · rw [hl1] at hc1
        obtain ⟨rfl, -⟩ := vL_inj (Option.some.inj hc1)
        exact hA'
      · simp only [List.length_map]
        exact (@foldW_len x (r.rows.drop (i + 1)) (addW x w z)).1
theorem c139_2 {Q : gO → gA → Prop} {wa : Nat} (hw : F wa = none) (hr : okRun F r) (hx : i32 x) : ∀ (k i lc : Nat) (A : gA) (w : List ChD), i + k = r.spans.length → Sub F A → A.1 wa = some (vL lc (w.map ChD.a)) → (∀ c, c ∈ w → okCh F c) → w.length + k < 2600 →
    (∀ A', LsTo A wa lc (((r.spans.drop i).foldl (addW x) w).map ChD.a) A' → Q (.inl none) A') →
    Wv sc 7 139 37 [some (.ref r.a), some (.int (zI x)), some (.ref wa), some (.int (zI i))] [] A Q
  | 0, i, lc, A, w, hik, hF, hl, hk, hlen, hn => by
    have hA := hr.ext hF
    obtain ⟨h1, -, h2, -⟩ := hA
    have e : r.spans.drop i = [] := List.drop_of_length_le (by omega)
    rw [e] at hn
    have hn := hn A (LsTo.refl hl)
    refine wv_s f139_37 rfl (fun _ => rfl) ?_
    refine wv_s f139_38 rfl (fun _ => rfl) ?_
    refine wv_getfield f139_39 (by assumption) (by rfl) ?_
    refine wv_lsize f139_42 (by assumption) (by omega) (by simp) (fun hs => ?_)
    rw [List.length_map] at hs ⊢
    refine wv_cT_ge f139_45 (by omega) (by omega) (by omega) ?_
    exact wv_vret f139_70 (by decide +kernel) (hn)
  | k + 1, i, lc, A, w, hik, hF, hl, hk, hlen, hn => by
    have hA := hr.ext hF
    obtain ⟨h1, -, h2, -⟩ := hA
    have hi : i < r.spans.length := by omega
    obtain ⟨z, hzm, hz0, hz1, hzd, hzt⟩ := at_i hi
    have hzF := hr.2.2.2.2.1 z hzm
    have hz := (hzF.ext hF).1
    refine wv_s f139_37 rfl (fun _ => rfl) ?_
    refine wv_s f139_38 rfl (fun _ => rfl) ?_
    refine wv_getfield f139_39 (by assumption) (by rfl) ?_
    refine wv_lsize f139_42 (by assumption) (by omega) (by simp) (fun hs => ?_)
    rw [List.length_map] at hs ⊢
    refine wv_cF_ge f139_45 (by omega) (by omega) (by omega) ?_
    refine wv_s f139_48 rfl (fun _ => rfl) ?_
    refine wv_getfield f139_49 (by assumption) (by rfl) ?_
    refine wv_s f139_52 rfl (fun _ => rfl) ?_
    refine wv_lget f139_53 (by assumption) (by first | rfl | omega) (hz1 _) (by omega) (by simp) ?_
    refine wv_cast f139_56 (by assumption) ?_
    refine wv_s f139_59 rfl (fun _ => rfl) ?_
    refine wv_s f139_60 rfl (fun _ => rfl) ?_
    refine wv_effS f139_61 (by decide) (by simp) (by simp) (by decide +kernel) (c137 hl (fun c hc => (hk c hc).ext hF) (hzF.ext hF) (by omega) hx) (by omega) (fun A1 hA1 => ?_)
    refine wv_inc3 f139_64 ?_
    refine wv_s (pc' := 37) f139_67 rfl (fun _ => rfl) ?_
    obtain ⟨lc1, hl1⟩ := hA1.at
    have hlw := @addW_len x w z
    refine c139_2 hw hr hx k (i + 1) lc1 A1 (addW x w z) (by omega) (hA1.sub hF hw) hl1 (fun c hc => ?_) (by omega) (fun A' hA' => hn A' ?_)
    · rcases addW_mem hc with rfl | hc
      · exact hzF
      · exact hk c hc
    · rw [hzd]
      refine hA1.trans (fun c1 hc1 => ?_) ?_
      · rw [hl1] at hc1
        obtain ⟨rfl, -⟩ := vL_inj (Option.some.inj hc1)
        exact hA'
      · simp only [List.length_map]
        exact (@foldW_len x (r.spans.drop (i + 1)) (addW x w z)).1
theorem c139 {wa lc : Nat} {w : List ChD} (hw : F wa = none) (hr : okRun F r) (hx : i32 x) (hF : Sub F A) (hl : A.1 wa = some (vL lc (w.map ChD.a))) (hk : ∀ c, c ∈ w → okCh F c) (hlen : w.length + r.wt < 2600) :
    Wc sc 7 139 [.ref r.a, .int (zI x), .ref wa] A (fun o A' => o = .inl none ∧ LsTo A wa lc ((colW r x w).map ChD.a) A') := by
  show Wv sc 7 139 0 [some (.ref r.a), some (.int (zI x)), some (.ref wa), none] [] A _
  unfold RunD.wt at hlen
  refine wv_icon f139_0 ?_
  refine wv_st3 f139_1 rfl (fun _ _ => rfl) ?_
  refine c139_1 hw hr hx r.rows.length 0 lc A w (by omega) hF hl hk (by omega) (fun A1 hA1 => ?_)
  obtain ⟨lc1, hl1⟩ := hA1.at
  have hlw := @foldW_len x r.rows w
  refine wv_icon f139_35 ?_
  refine wv_st3 f139_36 rfl (fun _ _ => rfl) ?_
  refine c139_2 hw hr hx r.spans.length 0 lc1 A1 (r.rows.foldl (addW x) w) (by omega) (hA1.sub hF hw) hl1 (fun c hc => ?_) (by omega) (fun A' hA' => ⟨rfl, ?_⟩)
  · rcases foldW_mem hc with hc | hc
    · exact hr.2.2.2.1 c hc
    · exact hk c hc
  · refine LsTo.trans hA1 (fun c1 hc1 => ?_) ?_
    · rw [show A1.1 wa = some (vL lc1 (List.map ChD.a (List.foldl (addW x) w r.rows))) from hl1] at hc1
      obtain ⟨rfl, -⟩ := vL_inj (Option.some.inj hc1)
      exact hA'
    · simp only [List.length_map]
      exact (@foldW_len x r.spans (r.rows.foldl (addW x) w)).1
end C3
