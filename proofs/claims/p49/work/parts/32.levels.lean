/-! LEVELS: cell, how far merged, list (cell, room, runs) -/
abbrev LvD : Type := Nat × Int × Nat × Nat × List RunD
def LvD.a (l : LvD) : Nat := l.1
def LvD.mu (l : LvD) : Int := l.2.1
def LvD.la (l : LvD) : Nat := l.2.2.1
def LvD.lc (l : LvD) : Nat := l.2.2.2.1
def LvD.rs (l : LvD) : List RunD := l.2.2.2.2
def cLv (l : LvD) : vC := vO 6 [.ref l.la, .int (zI l.mu)]
def cLl (l : LvD) : vC := vL l.lc (l.rs.map RunD.a)
def okLv (V : Nat → Option vC) (l : LvD) : Prop := V l.a = some (cLv l) ∧ V l.la = some (cLl l) ∧ (-1 ≤ l.mu ∧ l.mu ≤ 100) ∧ ∀ r, r ∈ l.rs → okRun V r
def rising : Int → List RunD → Bool
  | _, [] => true
  | g, r :: l => decide (g < r.least) && rising r.great l
def isRis : List RunD → Bool
  | [] => true
  | r :: l => rising r.great l
def among (l : List RunD) (id : Nat) : Bool := l.any (fun r => r.id == id)
def insB (r : RunD) : List RunD → List RunD
  | [] => [r]
  | x :: l => if x.least < r.least then x :: insB r l else r :: x :: l
def wtS : List RunD → Nat
  | [] => 0
  | r :: l => r.wt + wtS l
theorem insB_len {r : RunD} : ∀ {l : List RunD}, (insB r l).length = l.length + 1
  | [] => rfl
  | x :: l => by
    unfold insB
    split
    · simp [insB_len]
    · simp
theorem insB_mem {r y : RunD} : ∀ {l : List RunD}, y ∈ insB r l ↔ y = r ∨ y ∈ l
  | [] => by simp [insB]
  | x :: l => by
    unfold insB
    split
    · rw [List.mem_cons, insB_mem, List.mem_cons]
      constructor
      · rintro (h | h | h)
        · exact .inr (.inl h)
        · exact .inl h
        · exact .inr (.inr h)
      · rintro (h | h | h)
        · exact .inr (.inl h)
        · exact .inl h
        · exact .inr (.inr h)
    · simp
theorem ne_ol {A : gA} {x y ci c : Nat} {fs : List Value} {xs : List Nat} (h1 : A.1 x = some (vO ci fs)) (h2 : A.1 y = some (vL c xs)) : x ≠ y := by
  rintro rfl
  rw [h1] at h2
  cases h2
theorem wtS_le {V : Nat → Option vC} : ∀ {l : List RunD} {B : Nat}, (∀ r, r ∈ l → r.wt ≤ B) → wtS l ≤ B * l.length
  | [], _, _ => Nat.zero_le _
  | r :: l, B, h => by
    have h1 := h r (List.mem_cons_self ..)
    have h2 := @wtS_le V l B (fun r hr => h r (List.mem_cons_of_mem _ hr))
    simp only [wtS, List.length_cons, Nat.mul_succ]
    omega
section C7
variable {sc : gSc} {d : Nat} {A : gA} {c : ChD} {x y : Int} {r : RunD} {l : LvD} {F : Nat → Option vC} {q : Nat} {v0 v1 v2 v3 v4 v5 v6 : Value} {L : List (Nat × vC)}
theorem c119 (hl : okLv A.1 l) : Wc sc 1 119 [.ref l.a] A (fun o A' => o = .inl (some (.int (zI l.rs.length))) ∧ A' = A) := by
  show Wv sc 1 119 0 [some (.ref l.a)] [] A _
  obtain ⟨h1, h2, h3, h4⟩ := hl
  refine wv_s f119_0 rfl (fun _ => rfl) ?_
  refine wv_getfield f119_1 (by assumption) (by rfl) ?_
  refine wv_lsize f119_4 (by assumption) (by omega) (by simp) (fun hs => ?_)
  rw [List.length_map]
  exact wv_iret f119_7 (by rfl) (⟨rfl, rfl⟩)
theorem okLv.len {sc : gSc} {d m pc : Nat} {ls : gL} {st : List Value} {Q : gO → gA → Prop} (hl : okLv A.1 l) (hn : l.lc ≤ 4000 → l.rs.length ≤ l.lc → Wv sc d m pc ls st A Q) : Wv sc d m pc ls st A Q :=
  wv_cap hl.2.1 (fun h1 h2 => hn h1 (by rw [List.length_map] at h2; exact h2))
theorem c127_l (hl : okLv A.1 l) : ∀ (k i : Nat) (w : Nat), i + k = l.rs.length → w ≤ 8000 * i →
    Wv sc 3 127 4 [some (.ref l.a), some (.int (zI w)), some (.int (zI i))] [] A (fun o A' => o = .inl (some (.int (zI (w + wtS (l.rs.drop i) : Nat)))) ∧ A' = A)
  | 0, i, w, hik, hw => by
    obtain ⟨h1, h2, h3, h4⟩ := hl
    have e : l.rs.drop i = [] := List.drop_of_length_le (by omega)
    rw [e]
    refine wv_s f127_4 rfl (fun _ => rfl) ?_
    refine wv_s f127_5 rfl (fun _ => rfl) ?_
    refine wv_getfield f127_6 (by assumption) (by rfl) ?_
    refine wv_lsize f127_9 (by assumption) (by omega) (by simp) (fun hs => ?_)
    rw [List.length_map] at hs ⊢
    refine wv_cT_ge f127_12 (by omega) (by omega) (by omega) ?_
    refine wv_s f127_38 rfl (fun _ => rfl) ?_
    exact wv_iret f127_39 (by rfl) (⟨rfl, rfl⟩)
  | k + 1, i, w, hik, hw => by
    have hl0 := hl
    obtain ⟨h1, h2, h3, h4⟩ := hl
    have hi : i < l.rs.length := by omega
    obtain ⟨z, hzm, hz0, hz1, hzd, -⟩ := at_i hi
    have hz := h4 z hzm
    have hz2 := hz.1
    rw [hzd]
    refine wv_s f127_4 rfl (fun _ => rfl) ?_
    refine wv_s f127_5 rfl (fun _ => rfl) ?_
    refine wv_getfield f127_6 (by assumption) (by rfl) ?_
    refine wv_lsize f127_9 (by assumption) (by omega) (by simp) (fun hs => ?_)
    rw [List.length_map] at hs ⊢
    refine wv_cF_ge f127_12 (by omega) (by omega) (by omega) ?_
    refine wv_s f127_15 rfl (fun _ => rfl) ?_
    refine wv_s f127_16 rfl (fun _ => rfl) ?_
    refine wv_getfield f127_17 (by assumption) (by rfl) ?_
    refine wv_s f127_20 rfl (fun _ => rfl) ?_
    refine wv_lget f127_21 (by assumption) (by first | rfl | omega) (hz1 _) (by omega) (by simp) ?_
    refine wv_cast f127_24 (by assumption) ?_
    refine wv_invV f127_27 (by decide) (by simp) (by simp) (by decide +kernel) (by assumption) (by rfl) (by decide +kernel) rfl (c148 hz) (by omega) (fun o A' hq => ?_)
    obtain ⟨hle, rfl, hA⟩ := hq
    rw [hA]
    show Wv sc 3 127 30 [some (.ref l.a), some (.int (zI w)), some (.int (zI i))] [.int (zI z.wt), .int (zI w)] A _
    refine wv_iadd f127_30 ?_
    refine wv_st1 f127_31 rfl (fun _ _ => rfl) ?_
    refine wv_inc2 f127_32 ?_
    refine wv_s (pc' := 4) f127_35 rfl (fun _ => rfl) ?_
    refine (c127_l hl0 k (i + 1) (w + z.wt) (by omega) (by omega)).up (Nat.le_refl _) (fun o A' h => ?_)
    show _ = _ ∧ _
    rw [show w + wtS (z :: l.rs.drop (i + 1)) = w + z.wt + wtS (l.rs.drop (i + 1)) by simp only [wtS]; omega]
    exact h
theorem c127 (hl : okLv A.1 l) : Wc sc 3 127 [.ref l.a] A (fun o A' => o = .inl (some (.int (zI (wtS l.rs : Nat)))) ∧ A' = A) := by
  show Wv sc 3 127 0 [some (.ref l.a), none, none] [] A _
  refine wv_icon f127_0 ?_
  refine wv_st1 f127_1 rfl (fun _ _ => rfl) ?_
  refine wv_icon f127_2 ?_
  refine wv_st2 f127_3 rfl (fun _ _ => rfl) ?_
  refine (c127_l hl l.rs.length 0 0 (by omega) (by omega)).up (Nat.le_refl _) (fun o A' h => ?_)
  rw [Nat.zero_add] at h
  exact h
theorem c125_l (hl : okLv A.1 l) (hx : i32 x) (hy : i32 y) : ∀ (k i : Nat), i + k = l.rs.length →
    Wv sc 3 125 2 [some (.ref l.a), some (.int (zI x)), some (.int (zI y)), some (.int (zI i))] [] A (fun o A' => o = .inl (some (.int (bI ((l.rs.drop i).any (fun r => r.ov x y))))) ∧ A' = A)
  | 0, i, hik => by
    obtain ⟨h1, h2, h3, h4⟩ := hl
    have e : l.rs.drop i = [] := List.drop_of_length_le (by omega)
    rw [e]
    refine wv_s f125_2 rfl (fun _ => rfl) ?_
    refine wv_s f125_3 rfl (fun _ => rfl) ?_
    refine wv_getfield f125_4 (by assumption) (by rfl) ?_
    refine wv_lsize f125_7 (by assumption) (by omega) (by simp) (fun hs => ?_)
    rw [List.length_map] at hs ⊢
    refine wv_cT_ge f125_10 (by omega) (by omega) (by omega) ?_
    refine wv_icon f125_40 ?_
    exact wv_iretB (p := false) f125_41 (by decide +kernel) ( ⟨rfl, rfl⟩)
  | k + 1, i, hik => by
    have hl0 := hl
    obtain ⟨h1, h2, h3, h4⟩ := hl
    have hi : i < l.rs.length := by omega
    obtain ⟨z, hzm, hz0, hz1, hzd, -⟩ := at_i hi
    have hz := h4 z hzm
    have hz2 := hz.1
    rw [hzd]
    refine wv_s f125_2 rfl (fun _ => rfl) ?_
    refine wv_s f125_3 rfl (fun _ => rfl) ?_
    refine wv_getfield f125_4 (by assumption) (by rfl) ?_
    refine wv_lsize f125_7 (by assumption) (by omega) (by simp) (fun hs => ?_)
    rw [List.length_map] at hs ⊢
    refine wv_cF_ge f125_10 (by omega) (by omega) (by omega) ?_
    refine wv_s f125_13 rfl (fun _ => rfl) ?_
    refine wv_getfield f125_14 (by assumption) (by rfl) ?_
    refine wv_s f125_17 rfl (fun _ => rfl) ?_
    refine wv_lget f125_18 (by assumption) (by first | rfl | omega) (hz1 _) (by omega) (by simp) ?_
    refine wv_cast f125_21 (by assumption) ?_
    refine wv_s f125_24 rfl (fun _ => rfl) ?_
    refine wv_s f125_25 rfl (fun _ => rfl) ?_
    refine wv_valV f125_26 (by decide) (by simp) (by simp) (by decide +kernel) (by assumption) (by rfl) (by decide +kernel) rfl (c147 hz hx hy) (by omega) ?_
    refine wv_bX f125_29 (fun hb => ?_) (fun hb => ?_)
    · refine wv_inc3 f125_34 ?_
      refine wv_s (pc' := 2) f125_37 rfl (fun _ => rfl) ?_
      simp only [List.any_cons, hb, Bool.false_or]
      exact c125_l hl0 hx hy k (i + 1) (by omega)
    · refine wv_icon f125_32 ?_
      exact wv_iretB (p := true) f125_33 (by decide +kernel) ( ⟨by simp only [List.any_cons, hb, Bool.true_or], rfl⟩)
theorem c125 (hl : okLv A.1 l) (hx : i32 x) (hy : i32 y) : Wc sc 3 125 [.ref l.a, .int (zI x), .int (zI y)] A (fun o A' => o = .inl (some (.int (bI (l.rs.any (fun r => r.ov x y))))) ∧ A' = A) := by
  show Wv sc 3 125 0 [some (.ref l.a), some (.int (zI x)), some (.int (zI y)), none] [] A _
  refine wv_icon f125_0 ?_
  refine wv_st3 f125_1 rfl (fun _ _ => rfl) ?_
  exact c125_l hl hx hy l.rs.length 0 (by omega)
theorem c120_l (hl : okLv A.1 l) (hr : okRun A.1 r) : ∀ (k i : Nat), i + k = l.rs.length →
    Wv sc 3 120 2 [some (.ref l.a), some (.ref r.a), some (.int (zI i))] [] A (fun o A' => o = .inl (some (.int (bI (among (l.rs.drop i) r.id)))) ∧ A' = A)
  | 0, i, hik => by
    obtain ⟨h1, h2, h3, h4⟩ := hl
    have e : l.rs.drop i = [] := List.drop_of_length_le (by omega)
    rw [e]
    refine wv_s f120_2 rfl (fun _ => rfl) ?_
    refine wv_s f120_3 rfl (fun _ => rfl) ?_
    refine wv_getfield f120_4 (by assumption) (by rfl) ?_
    refine wv_lsize f120_7 (by assumption) (by omega) (by simp) (fun hs => ?_)
    rw [List.length_map] at hs ⊢
    refine wv_cT_ge f120_10 (by omega) (by omega) (by omega) ?_
    refine wv_icon f120_42 ?_
    exact wv_iretB (p := false) f120_43 (by decide +kernel) ( ⟨rfl, rfl⟩)
  | k + 1, i, hik => by
    have hl0 := hl
    obtain ⟨h1, h2, h3, h4⟩ := hl
    have hi : i < l.rs.length := by omega
    obtain ⟨z, hzm, hz0, hz1, hzd, -⟩ := at_i hi
    have hz := h4 z hzm
    have hz2 := hz.1
    have hid := hz.2.2.2.2.2.2
    have hr2 := hr.1
    have hrid := hr.2.2.2.2.2.2
    rw [hzd]
    refine wv_s f120_2 rfl (fun _ => rfl) ?_
    refine wv_s f120_3 rfl (fun _ => rfl) ?_
    refine wv_getfield f120_4 (by assumption) (by rfl) ?_
    refine wv_lsize f120_7 (by assumption) (by omega) (by simp) (fun hs => ?_)
    rw [List.length_map] at hs ⊢
    refine wv_cF_ge f120_10 (by omega) (by omega) (by omega) ?_
    refine wv_s f120_13 rfl (fun _ => rfl) ?_
    refine wv_getfield f120_14 (by assumption) (by rfl) ?_
    refine wv_s f120_17 rfl (fun _ => rfl) ?_
    refine wv_lget f120_18 (by assumption) (by first | rfl | omega) (hz1 _) (by omega) (by simp) ?_
    refine wv_cast f120_21 (by assumption) ?_
    refine wv_getfield f120_24 (by assumption) (by rfl) ?_
    refine wv_s f120_27 rfl (fun _ => rfl) ?_
    refine wv_getfield f120_28 (by assumption) (by rfl) ?_
    refine wv_cX_ne f120_31 (by omega) (by omega) (fun hb => ?_) (fun hb => ?_)
    · refine wv_inc2 f120_36 ?_
      refine wv_s (pc' := 2) f120_39 rfl (fun _ => rfl) ?_
      refine (c120_l hl0 hr k (i + 1) (by omega)).up (Nat.le_refl _) (fun o A' h => ?_)
      unfold among at h ⊢
      simp only [List.any_cons, show (z.id == r.id) = false from by simpa using (show ¬ z.id = r.id by omega), Bool.false_or]
      exact h
    · refine wv_icon f120_34 ?_
      exact wv_iretB (p := true) f120_35 (by decide +kernel) ( ⟨by unfold among; simp only [List.any_cons, show (z.id == r.id) = true from by simpa using (show z.id = r.id by omega), Bool.true_or], rfl⟩)
theorem c120 (hl : okLv A.1 l) (hr : okRun A.1 r) : Wc sc 3 120 [.ref l.a, .ref r.a] A (fun o A' => o = .inl (some (.int (bI (among l.rs r.id)))) ∧ A' = A) := by
  show Wv sc 3 120 0 [some (.ref l.a), some (.ref r.a), none] [] A _
  refine wv_icon f120_0 ?_
  refine wv_st2 f120_1 rfl (fun _ _ => rfl) ?_
  exact c120_l hl hr l.rs.length 0 (by omega)
theorem c122_l {g : List RunD} {ga gc : Nat} (hg : A.1 ga = some (vL gc (g.map RunD.a))) (hk : ∀ r, r ∈ g → okRun A.1 r) (hr : okRun A.1 r) : ∀ (k i : Nat), i + k = g.length →
    Wv sc 3 122 2 [some (.ref r.a), some (.ref ga), some (.int (zI i))] [] A (fun o A' => o = .inl (some (.int (bI (among (g.drop i) r.id)))) ∧ A' = A)
  | 0, i, hik => by
    have e : g.drop i = [] := List.drop_of_length_le (by omega)
    rw [e]
    refine wv_s f122_2 rfl (fun _ => rfl) ?_
    refine wv_s f122_3 rfl (fun _ => rfl) ?_
    refine wv_lsize f122_4 (by assumption) (by omega) (by simp) (fun hs => ?_)
    rw [List.length_map] at hs ⊢
    refine wv_cT_ge f122_7 (by omega) (by omega) (by omega) ?_
    refine wv_icon f122_36 ?_
    exact wv_iretB (p := false) f122_37 (by decide +kernel) ( ⟨rfl, rfl⟩)
  | k + 1, i, hik => by
    have hi : i < g.length := by omega
    obtain ⟨z, hzm, hz0, hz1, hzd, -⟩ := at_i hi
    have hz := hk z hzm
    have hz2 := hz.1
    have hid := hz.2.2.2.2.2.2
    have hr2 := hr.1
    have hrid := hr.2.2.2.2.2.2
    rw [hzd]
    refine wv_s f122_2 rfl (fun _ => rfl) ?_
    refine wv_s f122_3 rfl (fun _ => rfl) ?_
    refine wv_lsize f122_4 (by assumption) (by omega) (by simp) (fun hs => ?_)
    rw [List.length_map] at hs ⊢
    refine wv_cF_ge f122_7 (by omega) (by omega) (by omega) ?_
    refine wv_s f122_10 rfl (fun _ => rfl) ?_
    refine wv_s f122_11 rfl (fun _ => rfl) ?_
    refine wv_lget f122_12 (by assumption) (by first | rfl | omega) (hz1 _) (by omega) (by simp) ?_
    refine wv_cast f122_15 (by assumption) ?_
    refine wv_getfield f122_18 (by assumption) (by rfl) ?_
    refine wv_s f122_21 rfl (fun _ => rfl) ?_
    refine wv_getfield f122_22 (by assumption) (by rfl) ?_
    refine wv_cX_ne f122_25 (by omega) (by omega) (fun hb => ?_) (fun hb => ?_)
    · refine wv_inc2 f122_30 ?_
      refine wv_s (pc' := 2) f122_33 rfl (fun _ => rfl) ?_
      refine (c122_l hg hk hr k (i + 1) (by omega)).up (Nat.le_refl _) (fun o A' h => ?_)
      unfold among at h ⊢
      simp only [List.any_cons, show (z.id == r.id) = false from by simpa using (show ¬ z.id = r.id by omega), Bool.false_or]
      exact h
    · refine wv_icon f122_28 ?_
      exact wv_iretB (p := true) f122_29 (by decide +kernel) ( ⟨by unfold among; simp only [List.any_cons, show (z.id == r.id) = true from by simpa using (show z.id = r.id by omega), Bool.true_or], rfl⟩)
theorem c122 {g : List RunD} {ga gc : Nat} (hg : A.1 ga = some (vL gc (g.map RunD.a))) (hk : ∀ r, r ∈ g → okRun A.1 r) (hr : okRun A.1 r) : Wc sc 3 122 [.ref r.a, .ref ga] A (fun o A' => o = .inl (some (.int (bI (among g r.id)))) ∧ A' = A) := by
  show Wv sc 3 122 0 [some (.ref r.a), some (.ref ga), none] [] A _
  refine wv_icon f122_0 ?_
  refine wv_st2 f122_1 rfl (fun _ _ => rfl) ?_
  exact c122_l hg hk hr g.length 0 (by omega)
theorem c123_l (hl : okLv A.1 l) : ∀ (k i : Nat), i + k = l.rs.length →
    Wv sc 3 123 2 [some (.ref l.a), some (.int (zI i))] [] A (fun o A' => o = .inl (some (.int (bI ((l.rs.drop i).all RunD.fair)))) ∧ A' = A)
  | 0, i, hik => by
    obtain ⟨h1, h2, h3, h4⟩ := hl
    have e : l.rs.drop i = [] := List.drop_of_length_le (by omega)
    rw [e]
    refine wv_s f123_2 rfl (fun _ => rfl) ?_
    refine wv_s f123_3 rfl (fun _ => rfl) ?_
    refine wv_getfield f123_4 (by assumption) (by rfl) ?_
    refine wv_lsize f123_7 (by assumption) (by omega) (by simp) (fun hs => ?_)
    rw [List.length_map] at hs ⊢
    refine wv_cT_ge f123_10 (by omega) (by omega) (by omega) ?_
    refine wv_icon f123_38 ?_
    exact wv_iretB (p := true) f123_39 (by decide +kernel) ( ⟨rfl, rfl⟩)
  | k + 1, i, hik => by
    have hl0 := hl
    obtain ⟨h1, h2, h3, h4⟩ := hl
    have hi : i < l.rs.length := by omega
    obtain ⟨z, hzm, hz0, hz1, hzd, -⟩ := at_i hi
    have hz := h4 z hzm
    have hz2 := hz.1
    rw [hzd]
    refine wv_s f123_2 rfl (fun _ => rfl) ?_
    refine wv_s f123_3 rfl (fun _ => rfl) ?_
    refine wv_getfield f123_4 (by assumption) (by rfl) ?_
    refine wv_lsize f123_7 (by assumption) (by omega) (by simp) (fun hs => ?_)
    rw [List.length_map] at hs ⊢
    refine wv_cF_ge f123_10 (by omega) (by omega) (by omega) ?_
    refine wv_s f123_13 rfl (fun _ => rfl) ?_
    refine wv_getfield f123_14 (by assumption) (by rfl) ?_
    refine wv_s f123_17 rfl (fun _ => rfl) ?_
    refine wv_lget f123_18 (by assumption) (by first | rfl | omega) (hz1 _) (by omega) (by simp) ?_
    refine wv_cast f123_21 (by assumption) ?_
    refine wv_valV f123_24 (by decide) (by simp) (by simp) (by decide +kernel) (by assumption) (by rfl) (by decide +kernel) rfl (c143 hz) (by omega) ?_
    refine wv_nX f123_27 (fun hb => ?_) (fun hb => ?_)
    · refine wv_inc1 f123_32 ?_
      refine wv_s (pc' := 2) f123_35 rfl (fun _ => rfl) ?_
      simp only [List.all_cons, hb, Bool.true_and]
      exact c123_l hl0 k (i + 1) (by omega)
    · refine wv_icon f123_30 ?_
      exact wv_iretB (p := false) f123_31 (by decide +kernel) ( ⟨by simp only [List.all_cons, hb, Bool.false_and], rfl⟩)
theorem c123 (hl : okLv A.1 l) : Wc sc 3 123 [.ref l.a] A (fun o A' => o = .inl (some (.int (bI (l.rs.all RunD.fair)))) ∧ A' = A) := by
  show Wv sc 3 123 0 [some (.ref l.a), none] [] A _
  refine wv_icon f123_0 ?_
  refine wv_st1 f123_1 rfl (fun _ _ => rfl) ?_
  exact c123_l hl l.rs.length 0 (by omega)
theorem c124_l (hl : okLv A.1 l) : ∀ (k i : Nat) (p : RunD), i + 1 + k = l.rs.length → l.rs[i]? = some p →
    Wv sc 3 124 2 [some (.ref l.a), some (.int (zI (i + 1 : Nat)))] [] A (fun o A' => o = .inl (some (.int (bI (rising p.great (l.rs.drop (i + 1)))))) ∧ A' = A)
  | 0, i, p, hik, hp => by
    obtain ⟨h1, h2, h3, h4⟩ := hl
    have e : l.rs.drop (i + 1) = [] := List.drop_of_length_le (by omega)
    rw [e]
    refine wv_s f124_2 rfl (fun _ => rfl) ?_
    refine wv_s f124_3 rfl (fun _ => rfl) ?_
    refine wv_getfield f124_4 (by assumption) (by rfl) ?_
    refine wv_lsize f124_7 (by assumption) (by omega) (by simp) (fun hs => ?_)
    rw [List.length_map] at hs ⊢
    refine wv_cT_ge f124_10 (by omega) (by omega) (by omega) ?_
    refine wv_icon f124_54 ?_
    exact wv_iretB (p := true) f124_55 (by decide +kernel) ( ⟨rfl, rfl⟩)
  | k + 1, i, p, hik, hp => by
    have hl0 := hl
    obtain ⟨h1, h2, h3, h4⟩ := hl
    have hi : i + 1 < l.rs.length := by omega
    obtain ⟨z, hzm, hz0, hz1, hzd, -⟩ := at_i hi
    have hz := h4 z hzm
    have hz2 := hz.1
    have hzr := hz.rg
    have hpm := List.mem_of_getElem? hp
    have hp2 := (h4 p hpm).1
    have hpr := (h4 p hpm).rg
    have hp1 : (l.rs.map RunD.a)[i]? = some p.a := by rw [List.getElem?_map, hp]; rfl
    rw [hzd]
    refine wv_s f124_2 rfl (fun _ => rfl) ?_
    refine wv_s f124_3 rfl (fun _ => rfl) ?_
    refine wv_getfield f124_4 (by assumption) (by rfl) ?_
    refine wv_lsize f124_7 (by assumption) (by omega) (by simp) (fun hs => ?_)
    rw [List.length_map] at hs ⊢
    refine wv_cF_ge f124_10 (by omega) (by omega) (by omega) ?_
    refine wv_s f124_13 rfl (fun _ => rfl) ?_
    refine wv_getfield f124_14 (by assumption) (by rfl) ?_
    refine wv_s f124_17 rfl (fun _ => rfl) ?_
    refine wv_icon f124_18 ?_
    refine wv_isub f124_19 ?_
    refine wv_lget (j := i) f124_20 h2 (by omega) hp1 (by omega) (by simp) ?_
    refine wv_cast f124_23 (by assumption) ?_
    refine wv_getfield f124_26 (by assumption) (by rfl) ?_
    refine wv_s f124_29 rfl (fun _ => rfl) ?_
    refine wv_getfield f124_30 (by assumption) (by rfl) ?_
    refine wv_s f124_33 rfl (fun _ => rfl) ?_
    refine wv_lget f124_34 (by assumption) (by first | rfl | omega) (hz1 _) (by omega) (by simp) ?_
    refine wv_cast f124_37 (by assumption) ?_
    refine wv_getfield f124_40 (by assumption) (by rfl) ?_
    refine wv_cX_lt f124_43 (by omega) (by omega) (fun hb => ?_) (fun hb => ?_)
    · refine wv_inc1 f124_48 ?_
      refine wv_s (pc' := 2) f124_51 rfl (fun _ => rfl) ?_
      refine (c124_l hl0 k (i + 1) z (by omega) hz0).up (Nat.le_refl _) (fun o A' h => ?_)
      rw [show rising p.great (z :: l.rs.drop (i + 1 + 1)) = rising z.great (l.rs.drop (i + 1 + 1)) by simp only [rising, decide_eq_true hb, Bool.true_and]]
      exact h
    · refine wv_icon f124_46 ?_
      exact wv_iretB (p := false) f124_47 (by decide +kernel) ( ⟨by simp only [rising, decide_eq_false (show ¬ p.great < z.least by omega), Bool.false_and], rfl⟩)
theorem c124 (hl : okLv A.1 l) : Wc sc 3 124 [.ref l.a] A (fun o A' => o = .inl (some (.int (bI (isRis l.rs)))) ∧ A' = A) := by
  show Wv sc 3 124 0 [some (.ref l.a), none] [] A _
  cases h0 : l.rs with
  | nil =>
    obtain ⟨h1, h2, h3, h4⟩ := hl
    refine wv_icon f124_0 ?_
    refine wv_st1 f124_1 rfl (fun _ _ => rfl) ?_
    refine wv_s f124_2 rfl (fun _ => rfl) ?_
    refine wv_s f124_3 rfl (fun _ => rfl) ?_
    refine wv_getfield f124_4 (by assumption) (by rfl) ?_
    refine wv_lsize f124_7 (by assumption) (by omega) (by simp) (fun hs => ?_)
    rw [List.length_map, h0] at hs ⊢
    refine wv_cT_ge f124_10 (by omega) (by omega) (by decide) ?_
    refine wv_icon f124_54 ?_
    exact wv_iretB (p := true) f124_55 (by decide +kernel) ( ⟨rfl, rfl⟩)
  | cons p t =>
    refine wv_icon f124_0 ?_
    refine wv_st1 f124_1 rfl (fun _ _ => rfl) ?_
    refine (c124_l hl t.length 0 p (by rw [h0, List.length_cons]; omega) (by rw [h0]; rfl)).up (Nat.le_refl _) (fun o A' h => ?_)
    rw [h0] at h
    exact h
end C7
