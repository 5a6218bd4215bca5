/-! RUN'S OTHER METHODS -/
section C4
variable {sc : gSc} {d : Nat} {A : gA} {c : ChD} {x y : Int} {r : RunD} {F : Nat → Option vC}
theorem c138 {t : Nat} {n : Int} (hx : 0 ≤ x ∧ x < 100) (hn : 0 ≤ n ∧ n ≤ 40000) (ht : t = 0 ∨ t = 1 ∨ t = 2) : Wc sc 0 138 [.int (zI x), .int (zI t), .int (zI n)] A (fun o A' => ∃ v, o = .inl (some v) ∧ ∃ z : Int, v = .int (zI z) ∧ (n < 1 → z = -1) ∧ (1 ≤ n → 0 ≤ z ∧ z < n) ∧ A' = A) := by
  show Wv sc 0 138 0 [some (.int (zI x)), some (.int (zI t)), some (.int (zI n))] [] A _
  refine wv_s f138_0 rfl (fun _ => rfl) ?_
  refine wv_icon f138_1 ?_
  refine wv_cX_ge f138_2 (by omega) (by omega) (fun hb => ?_) (fun hb => ?_)
  · have h0 : (0 : Int) < n := by omega
    have m1 := Int.emod_nonneg ((x + 1) * 7) (show n ≠ 0 by omega)
    have m2 := Int.emod_lt_of_pos ((x + 1) * 7) h0
    have m3 := Int.emod_nonneg ((x + 1) * 11 + 1) (show n ≠ 0 by omega)
    have m4 := Int.emod_lt_of_pos ((x + 1) * 11 + 1) h0
    have m5 := Int.emod_nonneg ((x + 1) * 13 + 2) (show n ≠ 0 by omega)
    have m6 := Int.emod_lt_of_pos ((x + 1) * 13 + 2) h0
    rcases ht with rfl | rfl | rfl
    · refine wv_s f138_7 rfl (fun _ => rfl) ?_
      refine wv_s (pc' := 36) f138_8 rfl (fun _ => rfl) ?_
      refine wv_s f138_36 rfl (fun _ => rfl) ?_
      refine wv_icon f138_37 ?_
      refine wv_iadd f138_38 ?_
      refine wv_bip f138_39 (by decide) ?_
      refine wv_imul f138_41 ?_
      refine wv_s f138_42 rfl (fun _ => rfl) ?_
      refine wv_irem f138_43 (by omega) ?_
      exact wv_iret f138_44 (by rfl) (⟨_, rfl, _, rfl, fun h => by omega, fun _ => ⟨m1, m2⟩, rfl⟩)
    · refine wv_s f138_7 rfl (fun _ => rfl) ?_
      refine wv_s (pc' := 45) f138_8 rfl (fun _ => rfl) ?_
      refine wv_s f138_45 rfl (fun _ => rfl) ?_
      refine wv_icon f138_46 ?_
      refine wv_iadd f138_47 ?_
      refine wv_bip f138_48 (by decide) ?_
      refine wv_imul f138_50 ?_
      refine wv_icon f138_51 ?_
      refine wv_iadd f138_52 ?_
      refine wv_s f138_53 rfl (fun _ => rfl) ?_
      refine wv_irem f138_54 (by omega) ?_
      exact wv_iret f138_55 (by rfl) (⟨_, rfl, _, rfl, fun h => by omega, fun _ => ⟨m3, m4⟩, rfl⟩)
    · refine wv_s f138_7 rfl (fun _ => rfl) ?_
      refine wv_s (pc' := 56) f138_8 rfl (fun _ => rfl) ?_
      refine wv_s f138_56 rfl (fun _ => rfl) ?_
      refine wv_icon f138_57 ?_
      refine wv_iadd f138_58 ?_
      refine wv_bip f138_59 (by decide) ?_
      refine wv_imul f138_61 ?_
      refine wv_icon f138_62 ?_
      refine wv_iadd f138_63 ?_
      refine wv_s f138_64 rfl (fun _ => rfl) ?_
      refine wv_irem f138_65 (by omega) ?_
      exact wv_iret f138_66 (by rfl) (⟨_, rfl, _, rfl, fun h => by omega, fun _ => ⟨m5, m6⟩, rfl⟩)
  · refine wv_icon f138_5 ?_
    exact wv_iret f138_6 (by rfl) (⟨_, rfl, -1, rfl, fun _ => rfl, fun h => by omega, rfl⟩)
theorem c140_l (hr : okRun A.1 r) (hx : i32 x) : ∀ (k i n : Nat) (z : Int), i + k = r.rows.length → n ≤ i → -1 ≤ z → z ≤ 4000 → ∀ x5 : Option Value,
    Wv sc 3 140 7 [some (.ref r.a), some (.int (zI x)), some (.int (zI n)), some (.int (zI z)), some (.int (zI i)), x5] [] A (fun o A' => ∃ v, o = .inl (some v) ∧ ∃ n : Nat, n ≤ r.rows.length ∧ v = .int (zI n) ∧ A' = A)
  | 0, i, n, z, hik, hn, hz0, hz1, x5 => by
    obtain ⟨h1, h2, -⟩ := hr
    refine wv_s f140_7 rfl (fun _ => rfl) ?_
    refine wv_s f140_9 rfl (fun _ => rfl) ?_
    refine wv_getfield f140_10 (by assumption) (by rfl) ?_
    refine wv_lsize f140_13 (by assumption) (by omega) (by simp) (fun hs => ?_)
    rw [List.length_map] at hs ⊢
    refine wv_cT_ge f140_16 (by omega) (by omega) (by omega) ?_
    refine wv_s f140_62 rfl (fun _ => rfl) ?_
    exact wv_iret f140_63 (by rfl) (⟨_, rfl, n, by omega, rfl, rfl⟩)
  | k + 1, i, n, z, hik, hn, hz0, hz1, x5 => by
    have hr0 := hr
    obtain ⟨h1, h2, -, h4, -⟩ := hr
    have hi : i < r.rows.length := by omega
    obtain ⟨q, hqm, hq0, hq1, hqd, -⟩ := at_i hi
    have hq := (h4 q hqm).1
    have hqf := (h4 q hqm).2.2.2.1
    refine wv_s f140_7 rfl (fun _ => rfl) ?_
    refine wv_s f140_9 rfl (fun _ => rfl) ?_
    refine wv_getfield f140_10 (by assumption) (by rfl) ?_
    refine wv_lsize f140_13 (by assumption) (by omega) (by simp) (fun hs => ?_)
    rw [List.length_map] at hs ⊢
    refine wv_cF_ge f140_16 (by omega) (by omega) (by omega) ?_
    refine wv_s f140_19 rfl (fun _ => rfl) ?_
    refine wv_icon f140_21 ?_
    refine wv_idiv f140_22 (by omega) ?_
    refine wv_st5 f140_23 rfl (fun _ _ => rfl) ?_
    refine wv_s f140_25 rfl (fun _ => rfl) ?_
    refine wv_getfield f140_26 (by assumption) (by rfl) ?_
    refine wv_s f140_29 rfl (fun _ => rfl) ?_
    refine wv_lget f140_31 (by assumption) (by first | rfl | omega) (hq1 _) (by omega) (by simp) ?_
    refine wv_cast f140_34 (by assumption) ?_
    refine wv_getfield f140_37 (by assumption) (by rfl) ?_
    refine wv_s f140_40 rfl (fun _ => rfl) ?_
    refine wv_cX_ne f140_41 (by omega) (by omega) (fun hb => ?_) (fun hb => ?_)
    · refine wv_inc4 f140_56 ?_
      refine wv_s (pc' := 7) f140_59 rfl (fun _ => rfl) ?_
      exact c140_l hr0 hx k (i + 1) n z (by omega) (by omega) hz0 hz1 _
    · refine wv_s f140_44 rfl (fun _ => rfl) ?_
      refine wv_s f140_46 rfl (fun _ => rfl) ?_
      refine wv_cX_eq f140_47 (by omega) (by omega) (fun hb2 => ?_) (fun hb2 => ?_)
      · refine wv_inc4 f140_56 ?_
        refine wv_s (pc' := 7) f140_59 rfl (fun _ => rfl) ?_
        exact c140_l hr0 hx k (i + 1) n z (by omega) (by omega) hz0 hz1 _
      · refine wv_s f140_50 rfl (fun _ => rfl) ?_
        refine wv_st3 f140_52 rfl (fun _ _ => rfl) ?_
        refine wv_inc2 f140_53 ?_
        refine wv_inc4 f140_56 ?_
        refine wv_s (pc' := 7) f140_59 rfl (fun _ => rfl) ?_
        exact c140_l hr0 hx k (i + 1) (n + 1) ((i : Int) / 4) (by omega) (by omega) (by omega) (by omega) _
theorem c140 (hr : okRun A.1 r) (hx : i32 x) : Wc sc 3 140 [.ref r.a, .int (zI x)] A (fun o A' => ∃ v, o = .inl (some v) ∧ ∃ n : Nat, n ≤ r.rows.length ∧ v = .int (zI n) ∧ A' = A) := by
  show Wv sc 3 140 0 [some (.ref r.a), some (.int (zI x)), none, none, none, none] [] A _
  refine wv_icon f140_0 ?_
  refine wv_st2 f140_1 rfl (fun _ _ => rfl) ?_
  refine wv_icon f140_2 ?_
  refine wv_st3 f140_3 rfl (fun _ _ => rfl) ?_
  refine wv_icon f140_4 ?_
  refine wv_st4 f140_5 rfl (fun _ _ => rfl) ?_
  exact c140_l hr hx r.rows.length 0 0 (-1) (by omega) (by omega) (by omega) (by omega) _
theorem c145_l (hr : okRun A.1 r) (hx : i32 x) : ∀ (k i : Nat), i + k = r.rows.length →
    Wv sc 3 145 2 [some (.ref r.a), some (.int (zI x)), some (.int (zI i))] [] A (fun o A' => o = .inl (some (.int (zI (kbh x (r.rows.drop i))))) ∧ A' = A)
  | 0, i, hik => by
    obtain ⟨h1, h2, -⟩ := hr
    have e : r.rows.drop i = [] := List.drop_of_length_le (by omega)
    rw [e]
    refine wv_s f145_2 rfl (fun _ => rfl) ?_
    refine wv_s f145_3 rfl (fun _ => rfl) ?_
    refine wv_getfield f145_4 (by assumption) (by rfl) ?_
    refine wv_lsize f145_7 (by assumption) (by omega) (by simp) (fun hs => ?_)
    rw [List.length_map] at hs ⊢
    refine wv_cT_ge f145_10 (by omega) (by omega) (by omega) ?_
    refine wv_bip f145_52 (by decide) ?_
    exact wv_iret f145_54 (by rfl) (⟨rfl, rfl⟩)
  | k + 1, i, hik => by
    have hr0 := hr
    obtain ⟨h1, h2, -, h4, -⟩ := hr
    have hi : i < r.rows.length := by omega
    obtain ⟨q, hqm, hq0, hq1, hqd, -⟩ := at_i hi
    have hq := (h4 q hqm).1
    have hqf := (h4 q hqm).2.2.2.1
    rw [hqd]
    refine wv_s f145_2 rfl (fun _ => rfl) ?_
    refine wv_s f145_3 rfl (fun _ => rfl) ?_
    refine wv_getfield f145_4 (by assumption) (by rfl) ?_
    refine wv_lsize f145_7 (by assumption) (by omega) (by simp) (fun hs => ?_)
    rw [List.length_map] at hs ⊢
    refine wv_cF_ge f145_10 (by omega) (by omega) (by omega) ?_
    refine wv_s f145_13 rfl (fun _ => rfl) ?_
    refine wv_getfield f145_14 (by assumption) (by rfl) ?_
    refine wv_s f145_17 rfl (fun _ => rfl) ?_
    refine wv_lget f145_18 (by assumption) (by first | rfl | omega) (hq1 _) (by omega) (by simp) ?_
    refine wv_cast f145_21 (by assumption) ?_
    refine wv_getfield f145_24 (by assumption) (by rfl) ?_
    refine wv_s f145_27 rfl (fun _ => rfl) ?_
    refine wv_cX_le f145_28 (by omega) (by omega) (fun hb => ?_) (fun hb => ?_)
    · refine wv_inc2 f145_46 ?_
      refine wv_s (pc' := 2) f145_49 rfl (fun _ => rfl) ?_
      refine (c145_l hr0 hx k (i + 1) (by omega)).up (Nat.le_refl _) (fun o A' h => ?_)
      unfold kbh
      rw [if_neg (by omega)]
      exact h
    · refine wv_s f145_31 rfl (fun _ => rfl) ?_
      refine wv_getfield f145_32 (by assumption) (by rfl) ?_
      refine wv_s f145_35 rfl (fun _ => rfl) ?_
      refine wv_lget f145_36 (by assumption) (by first | rfl | omega) (hq1 _) (by omega) (by simp) ?_
      refine wv_cast f145_39 (by assumption) ?_
      refine wv_getfield f145_42 (by assumption) (by rfl) ?_
      exact wv_iret f145_45 (by rfl) (⟨by unfold kbh; rw [if_pos (by omega)], rfl⟩)
theorem c145 (hr : okRun A.1 r) (hx : i32 x) : Wc sc 3 145 [.ref r.a, .int (zI x)] A (fun o A' => o = .inl (some (.int (zI (kbh x r.rows)))) ∧ A' = A) := by
  show Wv sc 3 145 0 [some (.ref r.a), some (.int (zI x)), none] [] A _
  refine wv_icon f145_0 ?_
  refine wv_st2 f145_1 rfl (fun _ _ => rfl) ?_
  exact c145_l hr hx r.rows.length 0 (by omega)
def RunD.fair (r : RunD) : Bool := decide (r.mg = false ∨ r.rows.length ≤ 6 ∨ dif (-1) r.rows ≤ 1)
theorem dif_le : ∀ {l : List ChD} {p : Int}, dif p l ≤ l.length
  | [], p => Nat.le_refl _
  | c :: l, p => by
    have := @dif_le l (c.f : Int)
    unfold dif
    simp only [List.length_cons]
    split <;> omega
theorem c143 (hr : okRun A.1 r) : Wc sc 1 143 [.ref r.a] A (fun o A' => o = .inl (some (.int (bI r.fair))) ∧ A' = A) := by
  show Wv sc 1 143 0 [some (.ref r.a)] [] A _
  obtain ⟨h1, h2, h3, h4, h5, ⟨ff, h6⟩, h7⟩ := hr
  have hdl := @dif_le r.rows (-1)
  refine wv_s f143_0 rfl (fun _ => rfl) ?_
  refine wv_getfield f143_1 (by assumption) (by rfl) ?_
  refine wv_bX f143_4 (fun hb => ?_) (fun hb => ?_)
  · refine wv_icon f143_29 ?_
    refine wv_s (pc' := 34) f143_30 rfl (fun _ => rfl) ?_
    exact wv_iretB (p := true) f143_34 (by decide +kernel) ( ⟨bIt (by simp [hb]), rfl⟩)
  · refine wv_s f143_7 rfl (fun _ => rfl) ?_
    refine wv_getfield f143_8 (by assumption) (by rfl) ?_
    refine wv_lsize f143_11 (by assumption) (by omega) (by simp) (fun hs => ?_)
    refine wv_bip f143_14 (by decide) ?_
    rw [List.length_map] at hs ⊢
    refine wv_cX_le f143_16 (by omega) (by omega) (fun hb2 => ?_) (fun hb2 => ?_)
    · refine wv_icon f143_29 ?_
      refine wv_s (pc' := 34) f143_30 rfl (fun _ => rfl) ?_
      exact wv_iretB (p := true) f143_34 (by decide +kernel) ( ⟨bIt (by omega), rfl⟩)
    · refine wv_s f143_19 rfl (fun _ => rfl) ?_
      refine wv_getfield f143_20 (by assumption) (by rfl) ?_
      refine wv_alenN f143_23 (by assumption) ?_
      refine wv_bip f143_24 (by decide) ?_
      refine wv_cX_gt f143_26 (by omega) (by omega) (fun hb3 => ?_) (fun hb3 => ?_)
      · refine wv_icon f143_33 ?_
        exact wv_iretB (p := false) f143_34 (by decide +kernel) ( ⟨bIf (fun q => q.elim (fun q => by rw [hb] at q; cases q) (fun q => by omega)), rfl⟩)
      · refine wv_icon f143_29 ?_
        refine wv_s (pc' := 34) f143_30 rfl (fun _ => rfl) ?_
        exact wv_iretB (p := true) f143_34 (by decide +kernel) ( ⟨bIt (by omega), rfl⟩)
theorem c144_l (hr : okRun A.1 r) (hx : 0 ≤ x ∧ x < 100) (hlen : r.rows.length ≤ 4000) : ∀ (k t : Nat) (x3 : Option Value), t + k = 3 →
    Wv sc 1 144 2 [some (.ref r.a), some (.int (zI x)), some (.int (zI t)), x3] [] A (fun o A' => ∃ v, o = .inl (some v) ∧ ∃ p : Bool, v = .int (bI p) ∧ A' = A)
  | 0, t, x3, hk => by
    refine wv_s f144_2 rfl (fun _ => rfl) ?_
    refine wv_icon f144_3 ?_
    refine wv_cT_ge f144_4 (by omega) (by omega) (by omega) ?_
    refine wv_icon f144_48 ?_
    exact wv_iretB (p := true) f144_49 (by decide +kernel) ( ⟨_, rfl, true, rfl, rfl⟩)
  | k + 1, t, x3, hk => by
    have hr0 := hr
    obtain ⟨h1, h2, h3, h4, h5, ⟨ff, h6⟩, h7⟩ := hr
    have hdl := @dif_le r.rows (-1)
    refine wv_s f144_2 rfl (fun _ => rfl) ?_
    refine wv_icon f144_3 ?_
    refine wv_cF_ge f144_4 (by omega) (by omega) (by omega) ?_
    refine wv_s f144_7 rfl (fun _ => rfl) ?_
    refine wv_s f144_8 rfl (fun _ => rfl) ?_
    refine wv_s f144_9 rfl (fun _ => rfl) ?_
    refine wv_getfield f144_10 (by assumption) (by rfl) ?_
    refine wv_alenN f144_13 (by assumption) ?_
    refine wv_resS f144_14 (by decide) (by simp) (by simp) (by decide +kernel) (c138 hx (by omega) (by omega)) (by omega) (fun v A1 hv => ?_)
    obtain ⟨z, rfl, hz0, hz1, hA1⟩ := hv
    rw [hA1]
    refine wv_st3 f144_17 rfl (fun _ _ => rfl) ?_
    refine wv_s f144_18 rfl (fun _ => rfl) ?_
    refine wv_zX_lt f144_19 (by omega) (fun hb => ?_) (fun hb => ?_)
    · refine wv_icon f144_40 ?_
      exact wv_iretB (p := false) f144_41 (by decide +kernel) ( ⟨_, rfl, false, rfl, rfl⟩)
    · refine wv_s f144_22 rfl (fun _ => rfl) ?_
      refine wv_s f144_23 rfl (fun _ => rfl) ?_
      refine wv_getfield f144_24 (by assumption) (by rfl) ?_
      refine wv_alenN f144_27 (by assumption) ?_
      refine wv_cX_ge f144_28 (by omega) (by omega) (fun hb2 => ?_) (fun hb2 => ?_)
      · refine wv_icon f144_40 ?_
        exact wv_iretB (p := false) f144_41 (by decide +kernel) ( ⟨_, rfl, false, rfl, rfl⟩)
      · refine wv_s f144_31 rfl (fun _ => rfl) ?_
        refine wv_getfield f144_32 (by assumption) (by rfl) ?_
        refine wv_s f144_35 rfl (fun _ => rfl) ?_
        refine wv_baload (j := z.toNat) f144_36 (by assumption) (by first | rfl | omega) (by omega) (by omega) ?_
        refine wv_r0X f144_37 (fun hb3 => ?_) (fun hb3 => ?_)
        · refine wv_inc2 f144_42 ?_
          refine wv_s (pc' := 2) f144_45 rfl (fun _ => rfl) ?_
          exact c144_l hr0 hx hlen k (t + 1) _ (by omega)
        · refine wv_icon f144_40 ?_
          exact wv_iretB (p := false) f144_41 (by decide +kernel) ( ⟨_, rfl, false, rfl, rfl⟩)
theorem c144 (hr : okRun A.1 r) (hx : 0 ≤ x ∧ x < 100) (hlen : r.rows.length ≤ 4000) : Wc sc 1 144 [.ref r.a, .int (zI x)] A (fun o A' => ∃ v, o = .inl (some v) ∧ ∃ p : Bool, v = .int (bI p) ∧ A' = A) := by
  show Wv sc 1 144 0 [some (.ref r.a), some (.int (zI x)), none, none] [] A _
  refine wv_icon f144_0 ?_
  refine wv_st2 f144_1 rfl (fun _ _ => rfl) ?_
  exact c144_l hr hx hlen 3 0 _ (by omega)
theorem c142_l {l : List ChD} {la lc : Nat} (hl : A.1 la = some (vL lc (l.map ChD.a))) (hk : ∀ c, c ∈ l → okCh A.1 c) : ∀ (k i : Nat) (mn : Int), i + k = l.length → -1 ≤ mn → mn ≤ 99 →
    Wv sc 3 142 4 [some (.ref la), some (.int (zI mn)), some (.int (zI i))] [] A (fun o A' => o = .inl (some (.int (zI (grtOf mn (l.drop i))))) ∧ A' = A)
  | 0, i, mn, hik, h0, h1 => by
    refine wv_s f142_4 rfl (fun _ => rfl) ?_
    refine wv_s f142_5 rfl (fun _ => rfl) ?_
    refine wv_lsize f142_6 (by assumption) (by omega) (by simp) (fun hs => ?_)
    rw [List.length_map] at hs ⊢
    have e : l.drop i = [] := List.drop_of_length_le (by omega)
    rw [e]
    refine wv_cT_ge f142_9 (by omega) (by omega) (by omega) ?_
    refine wv_s f142_34 rfl (fun _ => rfl) ?_
    exact wv_iret f142_35 (by rfl) (⟨rfl, rfl⟩)
  | k + 1, i, mn, hik, h0, h1 => by
    have hi : i < l.length := by omega
    obtain ⟨c, hcm, hc0, hc1, hcd, -⟩ := at_i hi
    have hc := (hk c hcm).1
    refine wv_s f142_4 rfl (fun _ => rfl) ?_
    refine wv_s f142_5 rfl (fun _ => rfl) ?_
    refine wv_lsize f142_6 (by assumption) (by omega) (by simp) (fun hs => ?_)
    rw [List.length_map] at hs ⊢
    rw [hcd]
    have hf := (hk c hcm).2.2.2.2
    refine wv_cF_ge f142_9 (by omega) (by omega) (by omega) ?_
    refine wv_s f142_12 rfl (fun _ => rfl) ?_
    refine wv_s f142_13 rfl (fun _ => rfl) ?_
    refine wv_s f142_14 rfl (fun _ => rfl) ?_
    refine wv_lget f142_15 (by assumption) (by first | rfl | omega) (hc1 _) (by omega) (by simp) ?_
    refine wv_cast f142_18 (by assumption) ?_
    refine wv_getfield f142_21 (by assumption) (by rfl) ?_
    refine wv_valS f142_24 (by decide) (by simp) (by simp) (by decide +kernel) (cc_max (by omega) (by omega)) (by omega) ?_
    refine wv_st1 f142_27 rfl (fun _ _ => rfl) ?_
    refine wv_inc2 f142_28 ?_
    refine wv_s (pc' := 4) f142_31 rfl (fun _ => rfl) ?_
    exact c142_l hl hk k (i + 1) (max mn (c.t : Int)) (by omega) (by omega) (by omega)
theorem c142 {l : List ChD} {la lc : Nat} (hl : A.1 la = some (vL lc (l.map ChD.a))) (hk : ∀ c, c ∈ l → okCh A.1 c) : Wc sc 3 142 [.ref la] A (fun o A' => o = .inl (some (.int (zI (grtOf (-1) l)))) ∧ A' = A) := by
  show Wv sc 3 142 0 [some (.ref la), none, none] [] A _
  refine wv_icon f142_0 ?_
  refine wv_st1 f142_1 rfl (fun _ _ => rfl) ?_
  refine wv_icon f142_2 ?_
  refine wv_st2 f142_3 rfl (fun _ _ => rfl) ?_
  exact c142_l hl hk l.length 0 (-1) (by omega) (by omega) (by omega)
end C4
