/-! THE LOG, as the law counts it -/
def cnL (p : Bool) (l : List WrD) : Nat := (l.filter (fun w => decide (w.z ≠ 0 ∧ w.s = 0) && (!p || decide (w.z = 1)))).length
theorem cnL_cons {p : Bool} {w : WrD} {l : List WrD} : cnL p (w :: l) = (if w.z ≠ 0 ∧ w.s = 0 ∧ (p = true → w.z = 1) then 1 else 0) + cnL p l := by
  unfold cnL
  by_cases h : w.z ≠ 0 ∧ w.s = 0 ∧ (p = true → w.z = 1)
  · rw [if_pos h, List.filter_cons_of_pos, List.length_cons]
    · omega
    · cases p with
      | true => simp [h.1, h.2.1, h.2.2 rfl]
      | false => simp [h.1, h.2.1]
  · rw [if_neg h, List.filter_cons_of_neg]
    · omega
    · cases p with
      | true =>
        intro hb
        simp only [Bool.not_true, Bool.false_or, Bool.and_eq_true, decide_eq_true_eq] at hb
        exact h ⟨hb.1.1, hb.1.2, fun _ => hb.2⟩
      | false =>
        intro hb
        simp only [Bool.not_false, Bool.true_or, Bool.and_true, decide_eq_true_eq] at hb
        exact h ⟨hb.1, hb.2, fun q => by cases q⟩
theorem logN_t : ∀ {l : List WrD}, logN true l = cnL false l
  | [] => rfl
  | w :: l => by
    rw [cnL_cons]
    simp only [logN, Bool.true_or, true_and]
    rw [logN_t]
    congr 1
    by_cases h : w.z ≠ 0 ∧ w.s = 0
    · rw [if_pos h, if_pos ⟨h.1, h.2, fun q => by cases q⟩]
    · rw [if_neg h, if_neg (fun q => h ⟨q.1, q.2.1⟩)]
/-- what the law counts, from the first one in a memory on -/
def lgR (p : Bool) (l : List WrD) : Nat := if p then cnL true l else logN false l
theorem lgR_no {p : Bool} {w : WrD} {l : List WrD} (h : ¬ (w.z = 1 ∨ w.z = 2)) : lgR p (w :: l) = lgR p l := by
  unfold lgR
  have hm : w.mem = false := decide_eq_false h
  cases p with
  | true =>
    rw [if_pos rfl, if_pos rfl, cnL_cons, if_neg (fun q => h (.inl (q.2.2 rfl))), Nat.zero_add]
  | false =>
    rw [if_neg (by decide), if_neg (by decide)]
    simp only [logN, hm, Bool.or_self]
    rw [if_neg (by simp), Nat.zero_add]
theorem lgR_yes {p : Bool} {w : WrD} {l : List WrD} (h : w.z = 1 ∨ w.z = 2) : lgR p (w :: l) = cnL p (w :: l) := by
  unfold lgR
  have hm : w.mem = true := decide_eq_true h
  cases p with
  | true => rw [if_pos rfl]
  | false =>
    rw [if_neg (by decide), ← logN_t]
    simp only [logN, hm, Bool.or_true]
theorem lgR_u : ∀ {l : List WrD}, (∀ w, w ∈ l → w.z = 1 → w.s = 0) → lgR true l = cntU l
  | [], _ => rfl
  | w :: l, h => by
    have ih := @lgR_u l (fun w hw => h w (List.mem_cons_of_mem _ hw))
    have hw := h w (List.mem_cons_self ..)
    unfold lgR at ih ⊢
    rw [if_pos rfl] at ih ⊢
    rw [cnL_cons, cntU_cons, ih]
    congr 1
    by_cases h1 : w.z = 1
    · rw [if_pos h1, if_pos ⟨by omega, hw h1, fun _ => h1⟩]
    · rw [if_neg h1, if_neg (fun q => h1 (q.2.2 rfl))]
section LG
variable {sc : gSc} {d : Nat} {A : gA} {i j m n k qa g : Nat} {x z : Int} {rows : List LrD} {ws : List WrD} {p : Bool}
theorem c6_b (hR : RowsOk rows ws) (hI : RowsIn A qa rows) (hz : ∀ w, w ∈ ws → w.z ≤ 3 ∧ w.s ≤ 20) (hl : ws.length ≤ 120) : ∀ (k i n : Nat) (x3 : Option Value), i + k = ws.length → n ≤ i →
    Wv sc 0 6 39 [some (.ref qa), some (.int (zI ws.length)), some (.int (bI p)), x3, some (.int (zI n)), some (.int (zI ((i + 1 : Nat) : Int)))] [] A (fun o A' => o = .inl (some (.int (zI ((n + cnL p (ws.drop i) : Nat) : Int)))) ∧ A' = A)
  | 0, i, n, x3, hik, hn => by
    have e : ws.drop i = [] := List.drop_of_length_le (by omega)
    rw [e]
    refine wv_s f6_39 rfl (fun _ => rfl) ?_
    refine wv_s f6_41 rfl (fun _ => rfl) ?_
    refine wv_cT_gt f6_42 (by omega) (by omega) (by omega) ?_
    refine wv_s f6_104 rfl (fun _ => rfl) ?_
    exact wv_iret f6_106 (by rfl) (⟨rfl, rfl⟩)
  | k + 1, i, n, x3, hik, hn => by
    obtain ⟨w, hwm, hw, -, hd, -⟩ := at_i (l := ws) (i := i) (by omega)
    obtain ⟨q, fn, hq, hf, hr⟩ := row_at hR hI hw
    obtain ⟨hz1, hz2⟩ := hz w hwm
    obtain ⟨e6, e7, a1, a2, r6, r7, a3, a4, a5, a6⟩ := hr.m hz1
    obtain ⟨-, -, -, -, -, r5, -, -, r8, -⟩ := hr
    have hI1 := hI.1
    rw [hd, cnL_cons]
    have next : ∀ t : Nat, t ≤ 1 → (if w.z ≠ 0 ∧ w.s = 0 ∧ (p = true → w.z = 1) then 1 else 0) = t → Wv sc 0 6 95 [some (.ref qa), some (.int (zI ws.length)), some (.int (bI p)), x3, some (.int (zI n)), some (.int (zI ((i + 1 : Nat) : Int)))] [.int (zI t), .int (zI n)] A (fun o A' => o = .inl (some (.int (zI ((n + ((if w.z ≠ 0 ∧ w.s = 0 ∧ (p = true → w.z = 1) then 1 else 0) + cnL p (ws.drop (i + 1))) : Nat) : Int)))) ∧ A' = A) := by
      intro t ht he
      rw [he]
      refine wv_iadd f6_95 ?_
      refine wv_st4 f6_96 rfl (fun _ _ => rfl) ?_
      refine wv_inc5 f6_98 ?_
      refine wv_s (pc' := 39) f6_101 rfl (fun _ => rfl) ?_
      have h9 := c6_b hR hI hz hl k (i + 1) (n + t) x3 (by omega) (by omega)
      rw [← Nat.add_assoc]
      exact h9
    have no : ¬ (w.z ≠ 0 ∧ w.s = 0 ∧ (p = true → w.z = 1)) → Wv sc 0 6 94 [some (.ref qa), some (.int (zI ws.length)), some (.int (bI p)), x3, some (.int (zI n)), some (.int (zI ((i + 1 : Nat) : Int)))] [.int (zI n)] A (fun o A' => o = .inl (some (.int (zI ((n + ((if w.z ≠ 0 ∧ w.s = 0 ∧ (p = true → w.z = 1) then 1 else 0) + cnL p (ws.drop (i + 1))) : Nat) : Int)))) ∧ A' = A) := by
      intro h
      refine wv_icon f6_94 ?_
      exact next 0 (by omega) (if_neg h)
    have yes : (w.z ≠ 0 ∧ w.s = 0 ∧ (p = true → w.z = 1)) → Wv sc 0 6 90 [some (.ref qa), some (.int (zI ws.length)), some (.int (bI p)), x3, some (.int (zI n)), some (.int (zI ((i + 1 : Nat) : Int)))] [.int (zI n)] A (fun o A' => o = .inl (some (.int (zI ((n + ((if w.z ≠ 0 ∧ w.s = 0 ∧ (p = true → w.z = 1) then 1 else 0) + cnL p (ws.drop (i + 1))) : Nat) : Int)))) ∧ A' = A) := by
      intro h
      refine wv_icon f6_90 ?_
      refine wv_s (pc' := 95) f6_91 rfl (fun _ => rfl) ?_
      exact next 1 (by omega) (if_pos h)
    refine wv_s f6_39 rfl (fun _ => rfl) ?_
    refine wv_s f6_41 rfl (fun _ => rfl) ?_
    refine wv_cF_gt f6_42 (by omega) (by omega) (by omega) ?_
    refine wv_s f6_45 rfl (fun _ => rfl) ?_
    refine wv_s f6_47 rfl (fun _ => rfl) ?_
    refine wv_s f6_48 rfl (fun _ => rfl) ?_
    refine wv_aaload (j := i + 1) f6_50 (by assumption) (by rfl) (by first | rfl | omega) (by omega) (by omega) (hq) ?_
    refine wv_icon f6_51 ?_
    refine wv_iaload (j := 5) f6_52 (by assumption) (by first | rfl | omega) (by omega) (by omega) ?_
    rw [r5]
    refine wv_zX_ne f6_53 (by omega) (fun hb => ?_) (fun hb => ?_)
    · exact no (fun h => by omega)
    · refine wv_s f6_56 rfl (fun _ => rfl) ?_
      refine wv_s f6_57 rfl (fun _ => rfl) ?_
      refine wv_aaload (j := i + 1) f6_59 (by assumption) (by rfl) (by first | rfl | omega) (by omega) (by omega) (hq) ?_
      refine wv_bip f6_60 (by decide) ?_
      refine wv_iaload (j := 8) f6_62 (by assumption) (by first | rfl | omega) (by omega) (by omega) ?_
      rw [r8]
      by_cases h0 : w.z = 0
      · rw [if_pos h0]
        refine wv_zT_ne f6_63 (by omega) (by omega) ?_
        exact no (fun h => h.1 h0)
      · rw [if_neg h0]
        refine wv_zF_ne f6_63 (by omega) (by omega) ?_
        cases hp : p with
        | false =>
          rw [hp] at yes
          refine wv_s f6_66 rfl (fun _ => rfl) ?_
          refine wv_bT f6_67 rfl ?_
          exact yes ⟨h0, by omega, fun q => by cases q⟩
        | true =>
          rw [hp] at yes no
          refine wv_s f6_66 rfl (fun _ => rfl) ?_
          refine wv_bF f6_67 rfl ?_
          refine wv_s f6_70 rfl (fun _ => rfl) ?_
          refine wv_s f6_71 rfl (fun _ => rfl) ?_
          refine wv_aaload (j := i + 1) f6_73 (by assumption) (by rfl) (by first | rfl | omega) (by omega) (by omega) (hq) ?_
          refine wv_bip f6_74 (by decide) ?_
          refine wv_iaload (j := 6) f6_76 (by assumption) (by first | rfl | omega) (by omega) (by omega) ?_
          rw [r6]
          refine wv_zX_ne f6_77 (by omega) (fun hb2 => ?_) (fun hb2 => ?_)
          · exact no (fun h => by have := h.2.2 rfl; omega)
          · refine wv_s f6_80 rfl (fun _ => rfl) ?_
            refine wv_s f6_81 rfl (fun _ => rfl) ?_
            refine wv_aaload (j := i + 1) f6_83 (by assumption) (by rfl) (by first | rfl | omega) (by omega) (by omega) (hq) ?_
            refine wv_bip f6_84 (by decide) ?_
            refine wv_iaload (j := 7) f6_86 (by assumption) (by first | rfl | omega) (by omega) (by omega) ?_
            rw [r7]
            refine wv_zX_ne f6_87 (by omega) (fun hb3 => ?_) (fun hb3 => ?_)
            · exact no (fun h => by have := h.2.2 rfl; omega)
            · exact yes ⟨h0, by omega, fun _ => by omega⟩
theorem c6_a (hR : RowsOk rows ws) (hI : RowsIn A qa rows) (hz : ∀ w, w ∈ ws → w.z ≤ 3 ∧ w.s ≤ 20) (hl : ws.length ≤ 120) : ∀ (k i : Nat) (x4 x5 : Option Value), i + k = ws.length →
    Wv sc 0 6 2 [some (.ref qa), some (.int (zI ws.length)), some (.int (bI p)), some (.int (zI ((i + 1 : Nat) : Int))), x4, x5] [] A (fun o A' => o = .inl (some (.int (zI (lgR p (ws.drop i) : Nat)))) ∧ A' = A)
  | 0, i, x4, x5, hik => by
    have e : ws.drop i = [] := List.drop_of_length_le (by omega)
    have h9 := c6_b (sc := sc) (p := p) hR hI hz hl 0 i 0 (some (.int (zI ((i + 1 : Nat) : Int)))) (by omega) (by omega)
    rw [e] at h9 ⊢
    have e2 : lgR p [] = 0 + cnL p [] := by cases p <;> rfl
    rw [e2]
    refine wv_s f6_2 rfl (fun _ => rfl) ?_
    refine wv_s f6_3 rfl (fun _ => rfl) ?_
    refine wv_cT_gt f6_4 (by omega) (by omega) (by omega) ?_
    refine wv_icon f6_33 ?_
    refine wv_st4 f6_34 rfl (fun _ _ => rfl) ?_
    refine wv_s f6_36 rfl (fun _ => rfl) ?_
    refine wv_st5 f6_37 rfl (fun _ _ => rfl) ?_
    exact h9
  | k + 1, i, x4, x5, hik => by
    obtain ⟨w, hwm, hw, -, hd, -⟩ := at_i (l := ws) (i := i) (by omega)
    obtain ⟨q, fn, hq, hf, hr⟩ := row_at hR hI hw
    obtain ⟨hz1, hz2⟩ := hz w hwm
    obtain ⟨e6, e7, a1, a2, r6, r7, a3, a4, a5, a6⟩ := hr.m hz1
    obtain ⟨-, -, -, -, -, -, -, -, r8, -⟩ := hr
    have hI1 := hI.1
    have no : ¬ (w.z = 1 ∨ w.z = 2) → Wv sc 0 6 27 [some (.ref qa), some (.int (zI ws.length)), some (.int (bI p)), some (.int (zI ((i + 1 : Nat) : Int))), x4, x5] [] A (fun o A' => o = .inl (some (.int (zI (lgR p (ws.drop i) : Nat)))) ∧ A' = A) := by
      intro h
      rw [hd, lgR_no h]
      refine wv_inc3 f6_27 ?_
      refine wv_s (pc' := 2) f6_30 rfl (fun _ => rfl) ?_
      exact c6_a hR hI hz hl k (i + 1) x4 x5 (by omega)
    have yes : (w.z = 1 ∨ w.z = 2) → Wv sc 0 6 33 [some (.ref qa), some (.int (zI ws.length)), some (.int (bI p)), some (.int (zI ((i + 1 : Nat) : Int))), x4, x5] [] A (fun o A' => o = .inl (some (.int (zI (lgR p (ws.drop i) : Nat)))) ∧ A' = A) := by
      intro h
      have h9 := c6_b (sc := sc) (p := p) hR hI hz hl (k + 1) i 0 (some (.int (zI ((i + 1 : Nat) : Int)))) (by omega) (by omega)
      rw [hd] at h9 ⊢
      rw [lgR_yes h, ← Nat.zero_add (cnL p (w :: ws.drop (i + 1)))]
      refine wv_icon f6_33 ?_
      refine wv_st4 f6_34 rfl (fun _ _ => rfl) ?_
      refine wv_s f6_36 rfl (fun _ => rfl) ?_
      refine wv_st5 f6_37 rfl (fun _ _ => rfl) ?_
      exact h9
    refine wv_s f6_2 rfl (fun _ => rfl) ?_
    refine wv_s f6_3 rfl (fun _ => rfl) ?_
    refine wv_cF_gt f6_4 (by omega) (by omega) (by omega) ?_
    refine wv_s f6_7 rfl (fun _ => rfl) ?_
    refine wv_s f6_8 rfl (fun _ => rfl) ?_
    refine wv_aaload (j := i + 1) f6_9 (by assumption) (by rfl) (by first | rfl | omega) (by omega) (by omega) (hq) ?_
    refine wv_bip f6_10 (by decide) ?_
    refine wv_iaload (j := 6) f6_12 (by assumption) (by first | rfl | omega) (by omega) (by omega) ?_
    refine wv_icon f6_13 ?_
    rw [r6]
    refine wv_cX_eq f6_14 (by omega) (by omega) (fun hb => ?_) (fun hb => ?_)
    · exact no (by omega)
    · refine wv_s f6_17 rfl (fun _ => rfl) ?_
      refine wv_s f6_18 rfl (fun _ => rfl) ?_
      refine wv_aaload (j := i + 1) f6_19 (by assumption) (by rfl) (by first | rfl | omega) (by omega) (by omega) (hq) ?_
      refine wv_bip f6_20 (by decide) ?_
      refine wv_iaload (j := 8) f6_22 (by assumption) (by first | rfl | omega) (by omega) (by omega) ?_
      refine wv_icon f6_23 ?_
      rw [r8]
      by_cases h0 : w.z = 0
      · rw [if_pos h0]
        refine wv_cF_ne f6_24 (by omega) (by omega) (by omega) ?_
        exact no (by omega)
      · rw [if_neg h0]
        refine wv_cT_ne f6_24 (by omega) (by omega) (by omega) ?_
        exact yes (by omega)
theorem c6 (hR : RowsOk rows ws) (hI : RowsIn A qa rows) (hz : ∀ w, w ∈ ws → w.z ≤ 3 ∧ w.s ≤ 20) (hl : ws.length ≤ 120) : Wc sc 0 6 [.ref qa, .int (zI ws.length), .int (bI p)] A (fun o A' => o = .inl (some (.int (zI (lgR p ws : Nat)))) ∧ A' = A) := by
  show Wv sc 0 6 0 [some (.ref qa), some (.int (zI ws.length)), some (.int (bI p)), none, none, none] [] A _
  refine wv_icon f6_0 ?_
  refine wv_st3 f6_1 rfl (fun _ _ => rfl) ?_
  have h9 := c6_a (sc := sc) (p := p) hR hI hz hl ws.length 0 none none (by omega)
  rw [List.drop_zero] at h9
  exact h9
end LG
