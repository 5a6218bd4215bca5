/-! THE LAW'S ROWS CHANGE: flushed -/
def rowC (r : LrD) : Nat × vC := (r.1, vN .int 20 r.2)
def flQ (g : Nat) (r : LrD) : LrD := (r.1, upd r.2 6 (if r.2 0 = zI g ∧ r.2 8 = zI 0 then zI 1 else r.2 6))
theorem allG_map {φ : LrD → LrD} {rows : List LrD} (h : ∀ r, (φ r).1 = r.1) : allG (rows.map φ) = allG rows := by
  funext k
  cases k with
  | zero => rfl
  | succ k =>
    show ((rows.map φ)[k]?).map Prod.fst = (rows[k]?).map Prod.fst
    rw [List.getElem?_map]
    cases rows[k]? with
    | none => rfl
    | some r => exact congrArg some (h r)
theorem upd_ne {f : Nat → Int32} {j k : Nat} {X : Int32} (h : k ≠ j) : upd f j X k = f k := by
  unfold upd
  rw [if_neg h]
theorem upd_self {f : Nat → Int32} {j : Nat} {X : Int32} : upd f j X j = X := by
  unfold upd
  rw [if_pos rfl]
theorem zI_inj2 {a b : Nat} (ha : a ≤ 1000) (hb : b ≤ 1000) (h : zI a = zI b) : a = b := by
  have h1 : (zI a).toInt = a := Int32.toInt_ofInt_of_le (by omega) (by omega)
  have h2 : (zI b).toInt = b := Int32.toInt_ofInt_of_le (by omega) (by omega)
  rw [h] at h1
  omega
theorem flQ_ok {g : Nat} {w : WrD} {r : LrD} (h : LwR w r.2) (hz : w.z ≤ 3) (hg : w.g ≤ 3) (hg2 : g ≤ 3) : LwR (flW g w) (flQ g r).2 := by
  obtain ⟨r0, r1, r2, r3, r4, r5, r6, r7, r8, a1, a2, a3, a4⟩ := h
  have u : ∀ k : Nat, k ≠ 6 → (flQ g r).2 k = r.2 k := fun k hk => upd_ne hk
  have u6 : (flQ g r).2 6 = if r.2 0 = zI g ∧ r.2 8 = zI 0 then zI 1 else r.2 6 := by
    show upd r.2 6 (if r.2 0 = zI g ∧ r.2 8 = zI 0 then zI 1 else r.2 6) 6 = _
    exact upd_self
  have hc : (r.2 0 = zI g ∧ r.2 8 = zI 0) ↔ (w.g = g ∧ w.z ≠ 0) := by
    rw [r0, r8]
    constructor
    · rintro ⟨h1, h2⟩
      refine ⟨zI_inj2 (by omega) (by omega) h1, fun h0 => ?_⟩
      rw [if_pos h0] at h2
      exact absurd h2 (by decide)
    · rintro ⟨h1, h2⟩
      rw [h1, if_neg h2]
      exact ⟨rfl, rfl⟩
  unfold LwR
  rw [u 0 (by omega), u 1 (by omega), u 2 (by omega), u 3 (by omega), u 4 (by omega), u 5 (by omega), u 7 (by omega), u 8 (by omega), u6]
  cases hm : w.memOf g with
  | true =>
    have hm2 := of_decide_eq_true (show decide _ = true from hm)
    rw [flW_t hm, if_pos (hc.mpr ⟨hm2.1, by omega⟩)]
    refine ⟨r0, r1, r2, r3, r4, r5, .inr rfl, r7, ?_, fun _ => rfl, fun q => ?_, fun q => ?_, fun q => ?_⟩
    · rw [r8, if_neg (by omega)]
      rfl
    · have q' : (3 : Nat) = 1 ∨ (3 : Nat) = 2 := q
      omega
    · have q' : (3 : Nat) = 1 := q
      omega
    · have q' : (3 : Nat) = 2 := q
      omega
  | false =>
    have hm2 := of_decide_eq_false (show decide _ = false from hm)
    rw [flW_f hm]
    by_cases h9 : w.g = g ∧ w.z ≠ 0
    · rw [if_pos (hc.mpr h9)]
      have h3 : w.z = 3 := by omega
      refine ⟨r0, r1, r2, r3, r4, r5, .inr rfl, r7, r8, fun _ => rfl, fun q => by omega, a3, a4⟩
    · rw [if_neg (fun q => h9 (hc.mp q))]
      exact ⟨r0, r1, r2, r3, r4, r5, r6, r7, r8, a1, a2, a3, a4⟩
theorem RowsOk.map {rows : List LrD} {ws : List WrD} {φ : LrD → LrD} {ψ : WrD → WrD} (h : RowsOk rows ws) (hφ : ∀ r w, w ∈ ws → LwR w r.2 → LwR (ψ w) (φ r).2) : RowsOk (rows.map φ) (ws.map ψ) := by
  refine ⟨by rw [List.length_map, List.length_map]; exact h.1, fun i r w hr hw => ?_⟩
  rw [List.getElem?_map] at hr hw
  cases h1 : rows[i]? with
  | none => rw [h1] at hr; cases hr
  | some r0 =>
    cases h2 : ws[i]? with
    | none => rw [h2] at hw; cases hw
    | some w0 =>
      rw [h1] at hr
      rw [h2] at hw
      cases hr
      cases hw
      exact hφ r0 w0 (List.mem_of_getElem? h2) (h.2 i r0 w0 h1 h2)
section FQ
variable {sc : gSc} {d : Nat} {A : gA} {F : Nat → Option vC} {X : List (Nat × vC)} {i j m n k qa g : Nat} {rows : List LrD} {ws : List WrD}
theorem c5_l (hR : RowsOk rows ws) (hX : (qa, vR (gComp 2) 200 (allG rows)) ∈ X) (hz : ∀ w, w ∈ ws → w.z ≤ 3 ∧ w.g ≤ 3) (hl : ws.length ≤ 120) (hg : g ≤ 3) : ∀ (k i : Nat) (A : gA), i + k = ws.length → Own A F (((rows.take i).map (flQ g) ++ rows.drop i).map rowC ++ X) →
    Wv sc 0 5 2 [some (.ref qa), some (.int (zI ws.length)), some (.int (zI g)), some (.int (zI ((i + 1 : Nat) : Int)))] [] A (fun o A' => o = .inl none ∧ Own A' F ((rows.map (flQ g)).map rowC ++ X) ∧ A'.2 = A.2)
  | 0, i, A, hik, hO => by
    have hrl := hR.1
    rw [List.take_of_length_le (by omega), List.drop_of_length_le (by omega), List.append_nil] at hO
    refine wv_s f5_2 rfl (fun _ => rfl) ?_
    refine wv_s f5_3 rfl (fun _ => rfl) ?_
    refine wv_cT_gt f5_4 (by omega) (by omega) (by omega) ?_
    exact wv_vret f5_47 (by decide +kernel) (⟨rfl, hO, rfl⟩)
  | k + 1, i, A, hik, hO => by
    have hrl := hR.1
    obtain ⟨w, hwm, hw, -, -, -⟩ := at_i (l := ws) (i := i) (by omega)
    obtain ⟨r, hrm, hr, -, hrd, hrt⟩ := at_i (l := rows) (i := i) (by omega)
    have hL := hR.2 i r w hr hw
    obtain ⟨hz1, hz2⟩ := hz w hwm
    have hqa := hO.at (List.mem_append_right _ hX)
    rw [hrd] at hO
    have hO2 : Own A F (((rows.take i).map (flQ g)).map rowC ++ (r.1, vN .int 20 r.2) :: ((rows.drop (i + 1)).map rowC ++ X)) := by
      rw [List.map_append, List.append_assoc] at hO
      exact hO
    have hra := hO2.at (List.mem_append_right _ (List.mem_cons_self ..))
    have hq : va_rf (allG rows (i + 1)) = .ref r.1 := by
      show va_rf ((rows[i]?).map Prod.fst) = _
      rw [hr]
      rfl
    obtain ⟨r0, -, -, -, -, -, -, -, r8, -⟩ := hL
    have fin : ∀ V : Int32, V = (if r.2 0 = zI g ∧ r.2 8 = zI 0 then zI 1 else r.2 6) → Wv sc 0 5 40 [some (.ref qa), some (.int (zI ws.length)), some (.int (zI g)), some (.int (zI ((i + 1 : Nat) : Int)))] [.int V, .int (zI 6), .ref r.1] A (fun o A' => o = .inl none ∧ Own A' F ((rows.map (flQ g)).map rowC ++ X) ∧ A'.2 = A.2) := by
      intro V hV
      have hP := hO2.put (c := vN .int 20 (upd r.2 6 V))
      have ih := c5_l hR hX hz hl hg k (i + 1) (aPut A r.1 (vN .int 20 (upd r.2 6 V))) (by omega) (by
        rw [hrt, List.map_append, List.map_append, List.map_append, List.append_assoc, List.append_assoc, hV]
        rw [hV] at hP
        exact hP)
      refine wv_iastore (j := 6) f5_40 (by assumption) (by first | rfl | omega) (by omega) (by omega) ?_
      refine wv_inc3 f5_41 ?_
      refine wv_s (pc' := 2) f5_44 rfl (fun _ => rfl) ?_
      exact ih
    have no : ¬ (r.2 0 = zI g ∧ r.2 8 = zI 0) → Wv sc 0 5 34 [some (.ref qa), some (.int (zI ws.length)), some (.int (zI g)), some (.int (zI ((i + 1 : Nat) : Int)))] [.int (zI 6), .ref r.1] A (fun o A' => o = .inl none ∧ Own A' F ((rows.map (flQ g)).map rowC ++ X) ∧ A'.2 = A.2) := by
      intro h
      refine wv_s f5_34 rfl (fun _ => rfl) ?_
      refine wv_s f5_35 rfl (fun _ => rfl) ?_
      refine wv_aaload (j := i + 1) f5_36 (by assumption) (by rfl) (by first | rfl | omega) (by omega) (by omega) (hq) ?_
      refine wv_bip f5_37 (by decide) ?_
      refine wv_iaload (j := 6) f5_39 (by assumption) (by first | rfl | omega) (by omega) (by omega) ?_
      exact fin _ (if_neg h).symm
    refine wv_s f5_2 rfl (fun _ => rfl) ?_
    refine wv_s f5_3 rfl (fun _ => rfl) ?_
    refine wv_cF_gt f5_4 (by omega) (by omega) (by omega) ?_
    refine wv_s f5_7 rfl (fun _ => rfl) ?_
    refine wv_s f5_8 rfl (fun _ => rfl) ?_
    refine wv_aaload (j := i + 1) f5_9 (by assumption) (by rfl) (by first | rfl | omega) (by omega) (by omega) (hq) ?_
    refine wv_bip f5_10 (by decide) ?_
    refine wv_s f5_12 rfl (fun _ => rfl) ?_
    refine wv_s f5_13 rfl (fun _ => rfl) ?_
    refine wv_aaload (j := i + 1) f5_14 (by assumption) (by rfl) (by first | rfl | omega) (by omega) (by omega) (hq) ?_
    refine wv_icon f5_15 ?_
    refine wv_iaload (j := 0) f5_16 (by assumption) (by first | rfl | omega) (by omega) (by omega) ?_
    refine wv_s f5_17 rfl (fun _ => rfl) ?_
    rw [r0]
    refine wv_cX_ne f5_18 (by omega) (by omega) (fun hb => ?_) (fun hb => ?_)
    · refine no (fun h => hb ?_)
      rw [r0] at h
      have := zI_inj2 (by omega) (by omega) h.1
      omega
    · refine wv_s f5_21 rfl (fun _ => rfl) ?_
      refine wv_s f5_22 rfl (fun _ => rfl) ?_
      refine wv_aaload (j := i + 1) f5_23 (by assumption) (by rfl) (by first | rfl | omega) (by omega) (by omega) (hq) ?_
      refine wv_bip f5_24 (by decide) ?_
      refine wv_iaload (j := 8) f5_26 (by assumption) (by first | rfl | omega) (by omega) (by omega) ?_
      rw [r8]
      by_cases h0 : w.z = 0
      · rw [if_pos h0]
        refine wv_zT_ne f5_27 (by omega) (by omega) ?_
        refine no (fun h => ?_)
        rw [r8, if_pos h0] at h
        exact absurd h.2 (by decide)
      · rw [if_neg h0]
        refine wv_zF_ne f5_27 (by omega) (by omega) ?_
        refine wv_icon f5_30 ?_
        refine wv_s (pc' := 40) f5_31 rfl (fun _ => rfl) ?_
        refine fin _ (if_pos ⟨by rw [r0, show w.g = g by omega], by rw [r8, if_neg h0]⟩).symm
theorem c5 (hR : RowsOk rows ws) (hX : (qa, vR (gComp 2) 200 (allG rows)) ∈ X) (hz : ∀ w, w ∈ ws → w.z ≤ 3 ∧ w.g ≤ 3) (hl : ws.length ≤ 120) (hg : g ≤ 3) (hO : Own A F (rows.map rowC ++ X)) : Wc sc 0 5 [.ref qa, .int (zI ws.length), .int (zI g)] A (fun o A' => o = .inl none ∧ (Own A' F ((rows.map (flQ g)).map rowC ++ X) ∧ A'.2 = A.2)) := by
  show Wv sc 0 5 0 [some (.ref qa), some (.int (zI ws.length)), some (.int (zI g)), none] [] A _
  refine wv_icon f5_0 ?_
  refine wv_st3 f5_1 rfl (fun _ _ => rfl) ?_
  exact c5_l hR hX hz hl hg ws.length 0 A (by omega) hO
end FQ
