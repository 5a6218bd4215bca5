/-! THE LAW'S SMALL METHODS -/
section LW
variable {sc : gSc} {d : Nat} {A : gA} {i j m n k : Nat} {x z : Int}
theorem u8 (X : Int32) : ∃ n : Nat, n < 16777216 ∧ (X.toUInt32 >>> ((zI 8).toUInt32 &&& Int32.toUInt32 31)).toInt32 = zI n := by
  refine ⟨X.toUInt32.toNat / 256, ?_, ?_⟩
  · have := X.toUInt32.toNat_lt
    omega
  · have e1 : ((zI 8).toUInt32 &&& Int32.toUInt32 31) = 8 := by decide
    rw [e1]
    have e2 : (X.toUInt32 >>> (8 : UInt32)).toNat = X.toUInt32.toNat / 256 := by
      rw [UInt32.toNat_shiftRight]
      show X.toUInt32.toNat >>> 8 = _
      rw [Nat.shiftRight_eq_div_pow]
    rw [← e2, zI_nat]
    generalize X.toUInt32 >>> (8 : UInt32) = u
    apply Int32.toBitVec_inj.mp
    show u.toBitVec = BitVec.ofNat 32 u.toBitVec.toNat
    rw [BitVec.ofNat_toNat, BitVec.setWidth_eq]
theorem c12 (hs : sc.1 ≤ 260) (hi : i ≤ 2000) : Wc sc 0 12 [.retAddr 0, .int (zI i)] A (fun o A' => ∃ v, o = .inl (some v) ∧ ((∃ X : Int32, v = .int X) ∧ A' = A)) := by
  show Wv sc 0 12 0 [some (.retAddr 0), some (.int (zI i)), none] [] A _
  have rest : ∀ V : Int32, Wv sc 0 12 15 [some (.retAddr 0), some (.int (zI i)), none] [.int V, .int (zI 69069)] A (fun o A' => ∃ v, o = .inl (some v) ∧ ((∃ X : Int32, v = .int X) ∧ A' = A)) := by
    intro V
    refine wv_sip f12_15 (by decide) ?_
    refine wv_s f12_18 rfl (fun _ => rfl) ?_
    refine wv_imul f12_19 ?_
    refine wv_s f12_20 rfl (fun _ => rfl) ?_
    refine wv_s f12_21 rfl (fun _ => rfl) ?_
    refine wv_sip f12_22 (by decide) ?_
    refine wv_s f12_25 rfl (fun _ => rfl) ?_
    refine wv_st2 f12_26 rfl (fun _ _ => rfl) ?_
    refine wv_s f12_27 rfl (fun _ => rfl) ?_
    refine wv_s f12_28 rfl (fun _ => rfl) ?_
    refine wv_bip f12_29 (by decide) ?_
    refine wv_s f12_31 rfl (fun _ => rfl) ?_
    refine wv_s f12_32 rfl (fun _ => rfl) ?_
    refine wv_ldcI (k := 1103515245) f12_33 (by decide) ?_
    refine wv_s f12_35 rfl (fun _ => rfl) ?_
    refine wv_st2 f12_36 rfl (fun _ _ => rfl) ?_
    refine wv_s f12_37 rfl (fun _ => rfl) ?_
    refine wv_s f12_38 rfl (fun _ => rfl) ?_
    refine wv_bip f12_39 (by decide) ?_
    refine wv_s f12_41 rfl (fun _ => rfl) ?_
    refine wv_s f12_42 rfl (fun _ => rfl) ?_
    exact wv_iret f12_43 (by rfl) (⟨_, rfl, ⟨_, rfl⟩, rfl⟩)
  refine wv_ldcI (k := 69069) f12_0 (by decide) ?_
  refine wv_s f12_2 rfl (fun _ => rfl) ?_
  refine wv_s f12_3 rfl (fun _ => rfl) ?_
  refine wv_alenS f12_4 ?_
  refine wv_cX_ge f12_5 (by omega) (by omega) (fun hb => ?_) (fun hb => ?_)
  · refine wv_icon f12_14 ?_
    exact rest _
  · refine wv_s f12_8 rfl (fun _ => rfl) ?_
    refine wv_s f12_9 rfl (fun _ => rfl) ?_
    refine wv_ialoadS (j := i) f12_10 (by first | rfl | omega) (by omega) (by omega) ?_
    refine wv_s (pc' := 15) f12_11 rfl (fun _ => rfl) ?_
    exact rest _
theorem c1 (hs : sc.1 ≤ 260) (hi : i ≤ 2000) (hm : 0 < m ∧ m ≤ 1000) : Wc sc 1 1 [.retAddr 0, .int (zI i), .int (zI m)] A (fun o A' => ∃ v, o = .inl (some v) ∧ ((∃ k : Nat, k < m ∧ v = .int (zI k)) ∧ A' = A)) := by
  show Wv sc 1 1 0 [some (.retAddr 0), some (.int (zI i)), some (.int (zI m))] [] A _
  refine wv_s f1_0 rfl (fun _ => rfl) ?_
  refine wv_s f1_1 rfl (fun _ => rfl) ?_
  refine wv_resS f1_2 (by decide) (by simp) (by simp) (by decide +kernel) (c12 hs hi) (by omega) (fun v A1 hv => ?_)
  obtain ⟨⟨X, rfl⟩, rfl⟩ := hv
  obtain ⟨n, hn, e⟩ := u8 X
  refine wv_bip f1_5 (by decide) ?_
  refine wv_s f1_7 rfl (fun _ => rfl) ?_
  rw [e]
  refine wv_s f1_8 rfl (fun _ => rfl) ?_
  refine wv_irem f1_9 (by omega) ?_
  exact wv_iret f1_10 (by rfl) (⟨_, rfl, ⟨n % m, Nat.mod_lt _ hm.1, by rw [Int.natCast_emod]⟩, rfl⟩)
theorem c7 {p : Bool} : Wc sc 0 7 [.int (bI p)] A (fun o A' => o = .inl (some (.int (zI (if p then 1 else 0)))) ∧ A' = A) := by
  show Wv sc 0 7 0 [some (.int (bI p))] [] A _
  cases p with
  | true =>
    refine wv_s f7_0 rfl (fun _ => rfl) ?_
    refine wv_bF f7_1 rfl ?_
    refine wv_icon f7_4 ?_
    refine wv_s (pc' := 9) f7_5 rfl (fun _ => rfl) ?_
    exact wv_iret f7_9 (by rfl) (⟨rfl, rfl⟩)
  | false =>
    refine wv_s f7_0 rfl (fun _ => rfl) ?_
    refine wv_bT f7_1 rfl ?_
    refine wv_icon f7_8 ?_
    exact wv_iret f7_9 (by rfl) (⟨rfl, rfl⟩)
/-- a row of the law stands for a write -/
def chK (k : Nat) : Int := if k = 1 then 112 else if k = 2 then 100 else if k = 3 then 114 else 109
def LwR (w : WrD) (f : Nat → Int32) : Prop :=
  f 0 = zI w.g ∧ f 1 = zI (chK w.c.k) ∧ f 2 = zI w.c.f ∧ f 3 = zI w.c.t ∧ ((w.c.k = 1 ∨ w.c.k = 4) → f 4 = w.c.v) ∧ f 5 = zI w.s ∧ (f 6 = zI 0 ∨ f 6 = zI 1) ∧ (f 7 = zI 0 ∨ f 7 = zI 1) ∧ f 8 = zI (if w.z = 0 then 1 else 0) ∧ (w.z = 3 → f 6 = zI 1) ∧ ((w.z = 1 ∨ w.z = 2) → f 6 = zI 0) ∧ (w.z = 1 → f 7 = zI 0) ∧ (w.z = 2 → f 7 = zI 1)
theorem c16 {w : WrD} {q : Nat} {fn : Nat → Int32} (hq : A.1 q = some (vN .int 20 fn)) (hr : LwR w fn) (hf : w.c.f < 100) (ht : w.c.t < 100) (hs : w.s ≤ 20) (hk : k < 100) : Wc sc 0 16 [.ref q, .int (zI k)] A (fun o A' => o = .inl (some (.int (bI (w.on k)))) ∧ A' = A) := by
  show Wv sc 0 16 0 [some (.ref q), some (.int (zI k))] [] A _
  obtain ⟨r0, r1, r2, r3, r4, r5, r6⟩ := hr
  have no : ¬ w.on k = true → Wv sc 0 16 36 [some (.ref q), some (.int (zI k))] [] A (fun o A' => o = .inl (some (.int (bI (w.on k)))) ∧ A' = A) := by
    intro h
    have e : w.on k = false := by simpa using h
    rw [e]
    refine wv_icon f16_36 ?_
    exact wv_iretB (p := false) f16_37 (by decide +kernel) ( ⟨rfl, rfl⟩)
  have yes : w.on k = true → Wv sc 0 16 32 [some (.ref q), some (.int (zI k))] [] A (fun o A' => o = .inl (some (.int (bI (w.on k)))) ∧ A' = A) := by
    intro e
    rw [e]
    refine wv_icon f16_32 ?_
    refine wv_s (pc' := 37) f16_33 rfl (fun _ => rfl) ?_
    exact wv_iretB (p := true) f16_37 (by decide +kernel) ( ⟨rfl, rfl⟩)
  refine wv_s f16_0 rfl (fun _ => rfl) ?_
  refine wv_s f16_1 rfl (fun _ => rfl) ?_
  refine wv_icon f16_2 ?_
  refine wv_iaload (j := 2) f16_3 (by assumption) (by first | rfl | omega) (by omega) (by omega) ?_
  rw [r2]
  refine wv_cX_lt f16_4 (by omega) (by omega) (fun hb => ?_) (fun hb => ?_)
  · exact no (fun h => by have := on_rg h; omega)
  · refine wv_s f16_7 rfl (fun _ => rfl) ?_
    refine wv_s f16_8 rfl (fun _ => rfl) ?_
    refine wv_icon f16_9 ?_
    refine wv_iaload (j := 3) f16_10 (by assumption) (by first | rfl | omega) (by omega) (by omega) ?_
    rw [r3]
    refine wv_cX_gt f16_11 (by omega) (by omega) (fun hb2 => ?_) (fun hb2 => ?_)
    · exact no (fun h => by have := on_rg h; omega)
    · refine wv_s f16_14 rfl (fun _ => rfl) ?_
      refine wv_icon f16_15 ?_
      refine wv_iaload (j := 5) f16_16 (by assumption) (by first | rfl | omega) (by omega) (by omega) ?_
      rw [r5]
      refine wv_zX_eq f16_17 (by omega) (fun hb3 => ?_) (fun hb3 => ?_)
      · exact yes (decide_eq_true (by omega))
      · refine wv_s f16_20 rfl (fun _ => rfl) ?_
        refine wv_s f16_21 rfl (fun _ => rfl) ?_
        refine wv_icon f16_22 ?_
        refine wv_iaload (j := 2) f16_23 (by assumption) (by first | rfl | omega) (by omega) (by omega) ?_
        rw [r2]
        refine wv_isub f16_24 ?_
        refine wv_s f16_25 rfl (fun _ => rfl) ?_
        refine wv_icon f16_26 ?_
        refine wv_iaload (j := 5) f16_27 (by assumption) (by first | rfl | omega) (by omega) (by omega) ?_
        rw [r5]
        refine wv_irem f16_28 (by omega) ?_
        have hsz : (0 : Int) < (w.s : Int) := by omega
        have hm0 := Int.emod_nonneg ((k : Int) - (w.c.f : Int)) (show (w.s : Int) ≠ 0 by omega)
        have hm1 := Int.emod_lt_of_pos ((k : Int) - (w.c.f : Int)) hsz
        refine wv_zX_ne f16_29 (by omega) (fun hb4 => ?_) (fun hb4 => ?_)
        · exact no (fun h => by
            have h9 := of_decide_eq_true (show decide _ = true from h)
            rcases h9.2 with h9 | h9
            · omega
            · exact hb4 h9)
        · exact yes (decide_eq_true ⟨by omega, .inr (by omega)⟩)
theorem c17 {a b : Int32} (ho : j = 43 ∨ j = 62 ∨ j = 60) : Wc sc 1 17 [.int (zI j), .int a, .int b] A (fun o A' => o = .inl (some (.int (joinO j a b))) ∧ A' = A) := by
  have ea : a = zI a.toInt := (Int32.ofInt_toInt a).symm
  have eb : b = zI b.toInt := (Int32.ofInt_toInt b).symm
  have la := a.toInt_lt
  have lb := b.toInt_lt
  have ga := a.le_toInt
  have gb := b.le_toInt
  have ia : i32 a.toInt := by unfold i32; omega
  have ib : i32 b.toInt := by unfold i32; omega
  show Wv sc 1 17 0 [some (.int (zI j)), some (.int a), some (.int b)] [] A _
  rcases ho with rfl | rfl | rfl
  · refine wv_s f17_0 rfl (fun _ => rfl) ?_
    refine wv_bip f17_1 (by decide) ?_
    refine wv_cF_ne f17_3 (by omega) (by omega) (by omega) ?_
    refine wv_s f17_6 rfl (fun _ => rfl) ?_
    refine wv_s f17_7 rfl (fun _ => rfl) ?_
    refine wv_s f17_8 rfl (fun _ => rfl) ?_
    refine wv_s (pc' := 31) f17_9 rfl (fun _ => rfl) ?_
    exact wv_iret f17_31 (by rfl) (⟨by unfold joinO; rw [if_pos rfl], rfl⟩)
  · refine wv_s f17_0 rfl (fun _ => rfl) ?_
    refine wv_bip f17_1 (by decide) ?_
    refine wv_cT_ne f17_3 (by omega) (by omega) (by omega) ?_
    refine wv_s f17_12 rfl (fun _ => rfl) ?_
    refine wv_bip f17_13 (by decide) ?_
    refine wv_cF_ne f17_15 (by omega) (by omega) (by omega) ?_
    have e2 : joinO 62 a b = zI (max a.toInt b.toInt) := by
      unfold joinO
      rw [if_neg (by omega), if_pos rfl]
      by_cases h : b ≤ a
      · rw [if_pos h, Int.max_eq_left (Int32.le_iff_toInt_le.mp h), ← ea]
      · rw [if_neg h, Int.max_eq_right (by rw [Int32.le_iff_toInt_le] at h; omega), ← eb]
    rw [e2]
    refine wv_s f17_18 rfl (fun _ => rfl) ?_
    refine wv_s f17_19 rfl (fun _ => rfl) ?_
    rw [ea, eb]
    refine wv_valS f17_20 (by decide) (by simp) (by simp) (by decide +kernel) (cc_max (A := A) ia ib) (by omega) ?_
    rw [← ea, ← eb]
    refine wv_s (pc' := 31) f17_23 rfl (fun _ => rfl) ?_
    exact wv_iret f17_31 (by rfl) (⟨rfl, rfl⟩)
  · refine wv_s f17_0 rfl (fun _ => rfl) ?_
    refine wv_bip f17_1 (by decide) ?_
    refine wv_cT_ne f17_3 (by omega) (by omega) (by omega) ?_
    refine wv_s f17_12 rfl (fun _ => rfl) ?_
    refine wv_bip f17_13 (by decide) ?_
    refine wv_cT_ne f17_15 (by omega) (by omega) (by omega) ?_
    have e2 : joinO 60 a b = zI (min a.toInt b.toInt) := by
      unfold joinO
      rw [if_neg (by omega), if_neg (by omega)]
      by_cases h : a ≤ b
      · rw [if_pos h, Int.min_eq_left (Int32.le_iff_toInt_le.mp h), ← ea]
      · rw [if_neg h, Int.min_eq_right (by rw [Int32.le_iff_toInt_le] at h; omega), ← eb]
    rw [e2]
    refine wv_s f17_26 rfl (fun _ => rfl) ?_
    refine wv_s f17_27 rfl (fun _ => rfl) ?_
    rw [ea, eb]
    refine wv_valS f17_28 (by decide) (by simp) (by simp) (by decide +kernel) (cc_min (A := A) ia ib) (by omega) ?_
    rw [← ea, ← eb]
    exact wv_iret f17_31 (by rfl) (⟨rfl, rfl⟩)
end LW
