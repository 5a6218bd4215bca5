/-! THE LAW'S CELLS beside the object's; what else holds between turns -/
def lwL (qm qa : Nat) (fm : Nat → Int32) (rows : List LrD) (K : List (Nat × vC)) : List (Nat × vC) := (qm, vN .int 1 fm) :: (qa, vR (gComp 2) 200 (allG rows)) :: (rows.map rowC ++ K)
theorem allG_fst {r1 r2 : List LrD} (h : r1.map Prod.fst = r2.map Prod.fst) : allG r1 = allG r2 := by
  funext k
  cases k with
  | zero => rfl
  | succ k =>
    show (r1[k]?).map Prod.fst = (r2[k]?).map Prod.fst
    rw [← List.getElem?_map, ← List.getElem?_map, h]
theorem RowsOk.snoc {rows : List LrD} {ws : List WrD} {r : LrD} {w : WrD} (h : RowsOk rows ws) (hw : LwR w r.2) : RowsOk (rows ++ [r]) (ws ++ [w]) := by
  refine ⟨by rw [List.length_append, List.length_append, h.1]; rfl, fun i r' w' hr hw' => ?_⟩
  by_cases hi : i < rows.length
  · rw [List.getElem?_append_left hi] at hr
    rw [List.getElem?_append_left (by rw [← h.1]; exact hi)] at hw'
    exact h.2 i r' w' hr hw'
  · rw [List.getElem?_append_right (by omega)] at hr
    rw [List.getElem?_append_right (by rw [← h.1]; omega)] at hw'
    obtain ⟨k, hk⟩ : ∃ k, i - rows.length = k := ⟨_, rfl⟩
    rw [← h.1, hk] at hw'
    rw [hk] at hr
    cases k with
    | zero =>
      cases hr
      cases hw'
      exact hw
    | succ k => cases hr
/-- rows keep what is behind their ninth place -/
def Kpt (r1 r2 : List LrD) : Prop := ∀ (i : Nat) r, r1[i]? = some r → ∃ r', r2[i]? = some r' ∧ ∀ j, 9 ≤ j → r'.2 j = r.2 j
theorem Kpt.refl {r1 : List LrD} : Kpt r1 r1 := fun _ r h => ⟨r, h, fun _ _ => rfl⟩
theorem Kpt.trans {r1 r2 r3 : List LrD} (h1 : Kpt r1 r2) (h2 : Kpt r2 r3) : Kpt r1 r3 := fun i r h => by
  obtain ⟨r', a1, a2⟩ := h1 i r h
  obtain ⟨r'', b1, b2⟩ := h2 i r' a1
  exact ⟨r'', b1, fun j hj => (b2 j hj).trans (a2 j hj)⟩
theorem Kpt.map {r1 : List LrD} {φ : LrD → LrD} (h : ∀ r j, 9 ≤ j → (φ r).2 j = r.2 j) : Kpt r1 (r1.map φ) := fun i r hr => ⟨φ r, by rw [List.getElem?_map, hr]; rfl, h r⟩
theorem Kpt.snoc {r1 : List LrD} {r : LrD} : Kpt r1 (r1 ++ [r]) := fun i r' hr => ⟨r', by rw [List.getElem?_append_left (List.getElem?_eq_some_iff.mp hr).1]; exact hr, fun _ _ => rfl⟩
theorem flQ_k {g : Nat} {r : LrD} {j : Nat} (hj : 9 ≤ j) : (flQ g r).2 j = r.2 j := upd_ne (by omega)
theorem syQ_k {r : LrD} {j : Nat} (hj : 9 ≤ j) : (syQ r).2 j = r.2 j := upd_ne (by omega)
theorem crQ_k {r : LrD} {j : Nat} (hj : 9 ≤ j) : (crQ r).2 j = r.2 j := upd_ne (by omega)
/-- memory is never full between turns, nor would it be after restoring -/
def MemI (ws : List WrD) (bs : List BkD) : Prop := ∀ j, cntM j ws < 8 ∧ ∀ b, b ∈ bs → b.sts.length ≤ ws.length ∧ cntM j (setSt b.sts 0 ws) < 8
theorem cntM_map {ψ : WrD → WrD} {j : Nat} (h : ∀ w, (ψ w).memOf j = true → w.memOf j = true) : ∀ {l : List WrD}, cntM j (l.map ψ) ≤ cntM j l
  | [] => Nat.le_refl _
  | w :: l => by
    have ih := @cntM_map ψ j h l
    unfold cntM at ih ⊢
    rw [List.map_cons]
    cases h1 : (ψ w).memOf j with
    | true => rw [List.filter_cons_of_pos (by exact h1), List.filter_cons_of_pos (by exact h w h1), List.length_cons, List.length_cons]; omega
    | false =>
      rw [List.filter_cons_of_neg (by rw [h1]; decide)]
      cases h2 : w.memOf j with
      | true => rw [List.filter_cons_of_pos (by exact h2), List.length_cons]; omega
      | false => rw [List.filter_cons_of_neg (by rw [h2]; decide)]; exact ih
theorem cntM_snoc {j : Nat} {l : List WrD} {w : WrD} : cntM j (l ++ [w]) = cntM j l + (if w.memOf j = true then 1 else 0) := by
  unfold cntM
  rw [List.filter_append, List.length_append]
  cases h : w.memOf j with
  | true => rw [List.filter_cons_of_pos (by exact h)]; rfl
  | false => rw [List.filter_cons_of_neg (by rw [h]; decide)]; rfl
theorem MemI.map {ws : List WrD} {bs : List BkD} {ψ : WrD → WrD} (h : MemI ws bs) (hz : Zo ψ) (hm : ∀ w, ((ψ w).z = 1 ∨ (ψ w).z = 2) → (w.z = 1 ∨ w.z = 2)) : MemI (ws.map ψ) bs := fun j => by
  refine ⟨Nat.lt_of_le_of_lt (cntM_map (fun w hw => ?_)) (h j).1, fun b hb => ?_⟩
  · have h1 := of_decide_eq_true (show decide _ = true from hw)
    refine decide_eq_true ⟨?_, hm w h1.2⟩
    rw [← (hz w).2.1]
    exact h1.1
  · rw [setSt_zo hz, List.length_map]
    exact (h j).2 b hb
theorem fl_m {g : Nat} {w : WrD} (h : (flW g w).z = 1 ∨ (flW g w).z = 2) : w.z = 1 ∨ w.z = 2 := by
  cases hm : w.memOf g with
  | true =>
    rw [flW_t hm] at h
    have h' : (3 : Nat) = 1 ∨ (3 : Nat) = 2 := h
    omega
  | false =>
    rw [flW_f hm] at h
    exact h
theorem fl_no {g : Nat} {w : WrD} : (flW g w).memOf g = false := by
  cases hm : w.memOf g with
  | true =>
    rw [flW_t hm]
    refine decide_eq_false (fun q => ?_)
    have h' : (3 : Nat) = 1 ∨ (3 : Nat) = 2 := q.2
    omega
  | false =>
    rw [flW_f hm]
    exact hm
theorem fl_0 {g : Nat} {ws : List WrD} : cntM g (ws.map (flW g)) = 0 := by
  unfold cntM
  rw [List.length_eq_zero_iff, List.filter_eq_nil_iff]
  intro a ha
  obtain ⟨v, -, rfl⟩ := List.mem_map.mp ha
  rw [fl_no]
  decide
theorem MemI.snoc {ws : List WrD} {bs : List BkD} {w : WrD} (h : MemI ws bs) (hw : ∀ j, cntM j (ws ++ [w]) < 8) : MemI (ws ++ [w]) bs := fun j => by
  refine ⟨hw j, fun b hb => ?_⟩
  obtain ⟨h1, h2⟩ := (h j).2 b hb
  refine ⟨by rw [List.length_append]; omega, ?_⟩
  rw [setSt_snoc, cntM_snoc, Nat.zero_add]
  have e : b.sts.getD ws.length 0 = 0 := by
    rw [List.getD_eq_getElem?_getD, List.getElem?_eq_none h1]
    rfl
  rw [e, if_neg (fun q => by
    have h9 := (of_decide_eq_true (show decide _ = true from q)).2
    have h' : (0 : Nat) = 1 ∨ (0 : Nat) = 2 := h9
    omega)]
  exact h2
section LWC
variable {sc : gSc} {d : Nat} {A : gA} {F : Nat → Option vC} {L : List (Nat × vC)} {o : Nat} {f : Ls FamD} {w : Ls WrD} {s : Ls SnD} {c : Ls CuD} {b : Ls BkD} {fi : Nat × FiD} {y : Ls ChD} {me : Option MeD} {ct : CtD} {g : FamD} {i j m n k qm qa : Nat} {x z : Int} {fm : Nat → Int32} {rows : List LrD} {K : List (Nat × vC)} {ws : List WrD}
theorem okO.outL (h : okO A F L o f w s c b fi y me ct) : ∃ R, Own A F (L ++ R) ∧ ∀ A' L', Own A' F (L' ++ R) → okO A' F L' o f w s c b fi y me ct := by
  have e : ∀ X, obC o f w s c b fi y me ct X = obC o f w s c b fi y me ct [] ++ X := by
    intro X
    simp [obC, obT]
  refine ⟨obC o f w s c b fi y me ct [], ?_, fun A' L' h' => ⟨?_, h.2⟩⟩
  · have h1 := h.1
    rw [e L] at h1
    exact h1.perm List.perm_append_comm
  · rw [e L']
    exact h'.perm List.perm_append_comm
theorem okO.inL (h : okO A F L o f w s c b fi y me ct) {p : Nat × vC} (hp : p ∈ L) : A.1 p.1 = some p.2 := h.tm (obT_mem.mpr (.inr (.inr (.inr (.inr hp)))))
theorem okO.lm (h : okO A F (lwL qm qa fm rows K) o f w s c b fi y me ct) : A.1 qm = some (vN .int 1 fm) := h.inL (p := (qm, vN .int 1 fm)) (List.mem_cons_self ..)
theorem okO.lr (h : okO A F (lwL qm qa fm rows K) o f w s c b fi y me ct) : RowsIn A qa rows :=
  ⟨h.inL (p := (qa, vR (gComp 2) 200 (allG rows))) (List.mem_cons_of_mem _ (List.mem_cons_self ..)), fun r hr => h.inL (p := rowC r) (List.mem_cons_of_mem _ (List.mem_cons_of_mem _ (List.mem_append_left _ (List.mem_map_of_mem hr))))⟩
theorem okO.lk (h : okO A F (lwL qm qa fm rows K) o f w s c b fi y me ct) {p : Nat × vC} (hp : p ∈ K) : A.1 p.1 = some p.2 := h.inL (List.mem_cons_of_mem _ (List.mem_cons_of_mem _ (List.mem_append_right _ hp)))
/-- a row's places change -/
theorem okO.setRow {R1 R2 : List LrD} {r : LrD} {fn : Nat → Int32} (h : okO A F (lwL qm qa fm (R1 ++ r :: R2) K) o f w s c b fi y me ct) : okO (aPut A r.1 (vN .int 20 fn)) F (lwL qm qa fm (R1 ++ (r.1, fn) :: R2) K) o f w s c b fi y me ct := by
  obtain ⟨R, h1, h2⟩ := h.outL
  refine h2 _ _ ?_
  have e1 : lwL qm qa fm (R1 ++ r :: R2) K ++ R = ((qm, vN .int 1 fm) :: (qa, vR (gComp 2) 200 (allG (R1 ++ r :: R2))) :: R1.map rowC) ++ (r.1, vN .int 20 r.2) :: (R2.map rowC ++ (K ++ R)) := by
    simp [lwL, rowC]
  have e2 : lwL qm qa fm (R1 ++ (r.1, fn) :: R2) K ++ R = ((qm, vN .int 1 fm) :: (qa, vR (gComp 2) 200 (allG (R1 ++ r :: R2))) :: R1.map rowC) ++ (r.1, vN .int 20 fn) :: (R2.map rowC ++ (K ++ R)) := by
    rw [show allG (R1 ++ r :: R2) = allG (R1 ++ (r.1, fn) :: R2) from allG_fst (by simp)]
    simp [lwL, rowC]
  rw [e2]
  rw [e1] at h1
  exact h1.put
/-- another of the law's cells changes -/
theorem okO.setK {K1 K2 : List (Nat × vC)} {q : Nat} {c0 c1 : vC} (h : okO A F (lwL qm qa fm rows (K1 ++ (q, c0) :: K2)) o f w s c b fi y me ct) : okO (aPut A q c1) F (lwL qm qa fm rows (K1 ++ (q, c1) :: K2)) o f w s c b fi y me ct := by
  obtain ⟨R, h1, h2⟩ := h.outL
  refine h2 _ _ ?_
  have e1 : ∀ cc, lwL qm qa fm rows (K1 ++ (q, cc) :: K2) ++ R = ((qm, vN .int 1 fm) :: (qa, vR (gComp 2) 200 (allG rows)) :: (rows.map rowC ++ K1)) ++ (q, cc) :: (K2 ++ R) := by
    intro cc
    simp [lwL]
  rw [e1] at h1 ⊢
  exact h1.put
theorem c5_o (h : okO A F (lwL qm qa fm rows K) o f w s c b fi y me ct) (hR : RowsOk rows ws) (hz : ∀ w, w ∈ ws → w.z ≤ 3 ∧ w.g ≤ 3) (hl : ws.length ≤ 120) (hg : n ≤ 3) : Wc sc 0 5 [.ref qa, .int (zI ws.length), .int (zI n)] A (fun v A' => v = .inl none ∧ (okO A' F (lwL qm qa fm (rows.map (flQ n)) K) o f w s c b fi y me ct ∧ A'.2 = A.2)) := by
  obtain ⟨R, h1, h2⟩ := h.outL
  have p1 : ∀ rw9 : List LrD, (lwL qm qa fm rw9 K ++ R).Perm (rw9.map rowC ++ ((qm, vN .int 1 fm) :: (qa, vR (gComp 2) 200 (allG rw9)) :: (K ++ R))) := by
    intro rw9
    show ((qm, vN .int 1 fm) :: (qa, vR (gComp 2) 200 (allG rw9)) :: (rw9.map rowC ++ K ++ R)).Perm _
    rw [List.append_assoc]
    exact (List.perm_middle.trans (List.Perm.cons _ List.perm_middle)).symm
  refine (c5 hR (X := (qm, vN .int 1 fm) :: (qa, vR (gComp 2) 200 (allG rows)) :: (K ++ R)) (List.mem_cons_of_mem _ (List.mem_cons_self ..)) hz hl hg (h1.perm (p1 rows))).up (Nat.le_refl _) (fun v A' hv => ⟨hv.1, h2 _ _ (Own.perm ?_ (p1 _).symm), hv.2.2⟩)
  rw [allG_map (φ := flQ n) (fun _ => rfl)]
  exact hv.2.1
theorem c14_o {X0 X1 X2 X3 X4 : Int32} (h : okO A F (lwL qm qa fm rows K) o f w s c b fi y me ct) (hfm : fm 0 = zI n) (hn : n < 190) (hrl : rows.length = n) : Wc sc 0 14 [.ref qa, .ref qm, .int X0, .int X1, .int X2, .int X3, .int X4] A (fun o' A' => ∃ v, o' = .inl (some v) ∧ ∃ q fn fm', v = .ref q ∧ okO A' F (lwL qm qa fm' (rows ++ [(q, fn)]) K) o f w s c b fi y me ct ∧ fm' 0 = zI ((n + 1 : Nat) : Int) ∧ fn 0 = X0 ∧ fn 1 = X1 ∧ fn 2 = X2 ∧ fn 3 = X3 ∧ fn 4 = X4 ∧ fn 5 = zI 0 ∧ fn 6 = zI 0 ∧ fn 7 = zI 0 ∧ fn 8 = zI 0 ∧ A'.2 = (A.2.1 + 1, A.2.2 + 20)) := by
  obtain ⟨R, h1, h2⟩ := h.outL
  have e0 : lwL qm qa fm rows K ++ R = (qm, vN .int 1 fm) :: (qa, vR (gComp 2) 200 (allG rows)) :: (rows.map rowC ++ K ++ R) := rfl
  rw [e0] at h1
  refine (c14 h1 hfm hn).up (Nat.le_refl _) (fun o' A' hv => ?_)
  obtain ⟨v, a1, q, fn, fm', a2, a3, a4⟩ := hv
  refine ⟨v, a1, q, fn, fm', a2, h2 _ _ (a3.perm ?_), a4⟩
  rw [allG_snoc (r := (q, fn)) hrl]
  have e2 : lwL qm qa fm' (rows ++ [(q, fn)]) K ++ R = ((qm, vN .int 1 fm') :: (qa, vR (gComp 2) 200 (allG (rows ++ [(q, fn)]))) :: rows.map rowC) ++ (q, vN .int 20 fn) :: (K ++ R) := by
    simp [lwL, rowC]
  rw [e2]
  refine List.Perm.trans (List.Perm.of_eq ?_) List.perm_middle.symm
  simp
end LWC
