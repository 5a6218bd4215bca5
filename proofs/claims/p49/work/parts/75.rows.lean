/-! THE LAW'S ROWS OF WRITES: counting them -/
abbrev LrD : Type := Nat × (Nat → Int32)
def allG (rows : List LrD) : Nat → Option Nat
  | 0 => none
  | k + 1 => (rows[k]?).map Prod.fst
def RowsOk (rows : List LrD) (ws : List WrD) : Prop := rows.length = ws.length ∧ ∀ (i : Nat) (r : LrD) (w : WrD), rows[i]? = some r → ws[i]? = some w → LwR w r.2
def RowsIn (A : gA) (qa : Nat) (rows : List LrD) : Prop := A.1 qa = some (vR (gComp 2) 200 (allG rows)) ∧ ∀ r, r ∈ rows → A.1 r.1 = some (vN .int 20 r.2)
theorem LwR.m {w : WrD} {fn : Nat → Int32} (h : LwR w fn) (hz : w.z ≤ 3) : ∃ e6 e7 : Nat, e6 ≤ 1 ∧ e7 ≤ 1 ∧ fn 6 = zI e6 ∧ fn 7 = zI e7 ∧ (w.z = 3 → e6 = 1) ∧ ((w.z = 1 ∨ w.z = 2) → e6 = 0) ∧ (w.z = 1 → e7 = 0) ∧ (w.z = 2 → e7 = 1) := by
  obtain ⟨-, -, -, -, -, -, h6, h7, -, a1, a2, a3, a4⟩ := h
  have inj : ¬ zI 0 = zI 1 := by decide
  rcases h6 with h6 | h6 <;> rcases h7 with h7 | h7
  · exact ⟨0, 0, by omega, by omega, h6, h7, fun q => absurd (h6.symm.trans (a1 q)) inj, fun _ => rfl, fun _ => rfl, fun q => absurd (h7.symm.trans (a4 q)) inj⟩
  · exact ⟨0, 1, by omega, by omega, h6, h7, fun q => absurd (h6.symm.trans (a1 q)) inj, fun _ => rfl, fun q => absurd ((a3 q).symm.trans h7) inj, fun _ => rfl⟩
  · exact ⟨1, 0, by omega, by omega, h6, h7, fun _ => rfl, fun q => absurd ((a2 q).symm.trans h6) inj, fun _ => rfl, fun q => absurd (h7.symm.trans (a4 q)) inj⟩
  · exact ⟨1, 1, by omega, by omega, h6, h7, fun _ => rfl, fun q => absurd ((a2 q).symm.trans h6) inj, fun q => absurd ((a3 q).symm.trans h7) inj, fun _ => rfl⟩
section LR
variable {sc : gSc} {d : Nat} {A : gA} {i j m n k qa g : Nat} {x z : Int} {rows : List LrD} {ws : List WrD}
theorem row_at (hR : RowsOk rows ws) (hI : RowsIn A qa rows) {w : WrD} (hw : ws[i]? = some w) : ∃ q fn, va_rf (allG rows (i + 1)) = .ref q ∧ A.1 q = some (vN .int 20 fn) ∧ LwR w fn := by
  have hi := (List.getElem?_eq_some_iff.mp hw).1
  have hr : rows[i]? = some (rows[i]'(by rw [hR.1]; exact hi)) := List.getElem?_eq_getElem _
  refine ⟨_, _, ?_, hI.2 _ (List.mem_of_getElem? hr), hR.2 i _ w hr hw⟩
  show va_rf ((rows[i]?).map Prod.fst) = _
  rw [hr]
  rfl
theorem c4_l (hR : RowsOk rows ws) (hI : RowsIn A qa rows) (hz : ∀ w, w ∈ ws → w.z ≤ 3 ∧ w.g ≤ 3) (hl : ws.length ≤ 120) (hg : g ≤ 3) : ∀ (k i n : Nat), i + k = ws.length → n ≤ i →
    Wv sc 0 4 5 [some (.ref qa), some (.int (zI ws.length)), some (.int (zI g)), some (.int (zI n)), some (.int (zI ((i + 1 : Nat) : Int)))] [] A (fun o A' => o = .inl (some (.int (zI ((n + cntM g (ws.drop i) : Nat) : Int)))) ∧ A' = A)
  | 0, i, n, hik, hn => by
    have e : ws.drop i = [] := List.drop_of_length_le (by omega)
    rw [e]
    refine wv_s f4_5 rfl (fun _ => rfl) ?_
    refine wv_s f4_7 rfl (fun _ => rfl) ?_
    refine wv_cT_gt f4_8 (by omega) (by omega) (by omega) ?_
    refine wv_s f4_55 rfl (fun _ => rfl) ?_
    exact wv_iret f4_56 (by rfl) (⟨rfl, rfl⟩)
  | k + 1, i, n, hik, hn => by
    obtain ⟨w, hwm, hw, -, hd, -⟩ := at_i (l := ws) (i := i) (by omega)
    obtain ⟨q, fn, hq, hf, hr⟩ := row_at hR hI hw
    obtain ⟨hz1, hz2⟩ := hz w hwm
    obtain ⟨e6, e7, a1, a2, r6, r7, a3, a4, a5, a6⟩ := hr.m hz1
    obtain ⟨r0, -, -, -, -, -, -, -, r8, -⟩ := hr
    have hI1 := hI.1
    have next : ∀ p : Nat, p ≤ 1 → cntM g (ws.drop i) = p + cntM g (ws.drop (i + 1)) → Wv sc 0 4 47 [some (.ref qa), some (.int (zI ws.length)), some (.int (zI g)), some (.int (zI n)), some (.int (zI ((i + 1 : Nat) : Int)))] [.int (zI p), .int (zI n)] A (fun o A' => o = .inl (some (.int (zI ((n + cntM g (ws.drop i) : Nat) : Int)))) ∧ A' = A) := by
      intro p hp he
      refine wv_iadd f4_47 ?_
      refine wv_st3 f4_48 rfl (fun _ _ => rfl) ?_
      refine wv_inc4 f4_49 ?_
      refine wv_s (pc' := 5) f4_52 rfl (fun _ => rfl) ?_
      have h9 := c4_l hR hI hz hl hg k (i + 1) (n + p) (by omega) (by omega)
      rw [he, ← Nat.add_assoc]
      exact h9
    have no : w.memOf g = false → Wv sc 0 4 46 [some (.ref qa), some (.int (zI ws.length)), some (.int (zI g)), some (.int (zI n)), some (.int (zI ((i + 1 : Nat) : Int)))] [.int (zI n)] A (fun o A' => o = .inl (some (.int (zI ((n + cntM g (ws.drop i) : Nat) : Int)))) ∧ A' = A) := by
      intro h
      refine wv_icon f4_46 ?_
      refine next 0 (by omega) ?_
      rw [hd]
      unfold cntM
      rw [List.filter_cons_of_neg (p := fun x : WrD => x.memOf g) (by simp [h]), Nat.zero_add]
    refine wv_s f4_5 rfl (fun _ => rfl) ?_
    refine wv_s f4_7 rfl (fun _ => rfl) ?_
    refine wv_cF_gt f4_8 (by omega) (by omega) (by omega) ?_
    refine wv_s f4_11 rfl (fun _ => rfl) ?_
    refine wv_s f4_12 rfl (fun _ => rfl) ?_
    refine wv_s f4_13 rfl (fun _ => rfl) ?_
    refine wv_aaload (j := i + 1) f4_15 (by assumption) (by rfl) (by first | rfl | omega) (by omega) (by omega) (hq) ?_
    refine wv_icon f4_16 ?_
    refine wv_iaload (j := 0) f4_17 (by assumption) (by first | rfl | omega) (by omega) (by omega) ?_
    refine wv_s f4_18 rfl (fun _ => rfl) ?_
    rw [r0]
    refine wv_cX_ne f4_19 (by omega) (by omega) (fun hb => ?_) (fun hb => ?_)
    · exact no (decide_eq_false (by omega))
    · refine wv_s f4_22 rfl (fun _ => rfl) ?_
      refine wv_s f4_23 rfl (fun _ => rfl) ?_
      refine wv_aaload (j := i + 1) f4_25 (by assumption) (by rfl) (by first | rfl | omega) (by omega) (by omega) (hq) ?_
      refine wv_bip f4_26 (by decide) ?_
      refine wv_iaload (j := 6) f4_28 (by assumption) (by first | rfl | omega) (by omega) (by omega) ?_
      rw [r6]
      refine wv_zX_ne f4_29 (by omega) (fun hb2 => ?_) (fun hb2 => ?_)
      · exact no (decide_eq_false (by omega))
      · refine wv_s f4_32 rfl (fun _ => rfl) ?_
        refine wv_s f4_33 rfl (fun _ => rfl) ?_
        refine wv_aaload (j := i + 1) f4_35 (by assumption) (by rfl) (by first | rfl | omega) (by omega) (by omega) (hq) ?_
        refine wv_bip f4_36 (by decide) ?_
        refine wv_iaload (j := 8) f4_38 (by assumption) (by first | rfl | omega) (by omega) (by omega) ?_
        rw [r8]
        by_cases h0 : w.z = 0
        · rw [if_pos h0]
          refine wv_zT_ne f4_39 (by omega) (by omega) ?_
          exact no (decide_eq_false (by omega))
        · rw [if_neg h0]
          refine wv_zF_ne f4_39 (by omega) (by omega) ?_
          refine wv_icon f4_42 ?_
          refine wv_s (pc' := 47) f4_43 rfl (fun _ => rfl) ?_
          refine next 1 (by omega) ?_
          have h : w.memOf g = true := decide_eq_true (by omega)
          rw [hd]
          unfold cntM
          rw [List.filter_cons_of_pos (p := fun x : WrD => x.memOf g) h, List.length_cons]
          omega
theorem c4 (hR : RowsOk rows ws) (hI : RowsIn A qa rows) (hz : ∀ w, w ∈ ws → w.z ≤ 3 ∧ w.g ≤ 3) (hl : ws.length ≤ 120) (hg : g ≤ 3) : Wc sc 0 4 [.ref qa, .int (zI ws.length), .int (zI g)] A (fun o A' => o = .inl (some (.int (zI (cntM g ws : Nat)))) ∧ A' = A) := by
  show Wv sc 0 4 0 [some (.ref qa), some (.int (zI ws.length)), some (.int (zI g)), none, none] [] A _
  refine wv_icon f4_0 ?_
  refine wv_st3 f4_1 rfl (fun _ _ => rfl) ?_
  refine wv_icon f4_2 ?_
  refine wv_st4 f4_3 rfl (fun _ _ => rfl) ?_
  have h9 := c4_l (sc := sc) hR hI hz hl hg ws.length 0 0 (by omega) (by omega)
  rw [List.drop_zero, Nat.zero_add (cntM g ws)] at h9
  exact h9
end LR
