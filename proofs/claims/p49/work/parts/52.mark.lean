/-! SIFTING -/
def bF (K : List Bool) : Nat → Int32 := fun j => bI (K.getD j false)
def kpA (m : Nat) : List ChD → List Bool → List Bool
  | c :: w, k :: K => if c.n ≤ m then (if c.k = 3 then k :: K else if c.k = 4 then true :: kpA m w K else true :: K) else k :: kpA m w K
  | _, K => K
def dlK (w : List ChD) : Nat → List Bool → List Bool
  | 0, K => K
  | i + 1, K => if K.getD i false = true then (if (w.map ChD.k)[i]? = some 2 then dlK w i (K.set i false) else K) else dlK w i K
def selB : List ChD → List Bool → List ChD
  | c :: w, k :: K => if k then c :: selB w K else selB w K
  | _, _ => []
def wayW (x : Int) (ins : List RunD) : List ChD := ins.foldl (fun w r => colW r x w) []
def sfK (nw : Nat) (ms : List Nat) (ovb : Bool) (w : List ChD) : List Bool :=
  if ovb then ms.foldl (fun K m => kpA m w K) (kpA nw w (List.replicate w.length false)) else dlK w w.length (ms.foldl (fun K m => kpA m w K) (kpA nw w (List.replicate w.length false)))
theorem kpA_len {m : Nat} : ∀ {w : List ChD} {K : List Bool}, (kpA m w K).length = K.length
  | [], K => by cases K <;> rfl
  | c :: w, [] => rfl
  | c :: w, k :: K => by
    unfold kpA
    split
    · split
      · rfl
      · split
        · simp [kpA_len (w := w) (K := K)]
        · rfl
    · simp [kpA_len (w := w) (K := K)]
theorem dlK_len {w : List ChD} : ∀ {i : Nat} {K : List Bool}, (dlK w i K).length = K.length
  | 0, K => rfl
  | i + 1, K => by
    unfold dlK
    split
    · split
      · rw [dlK_len, List.length_set]
      · rfl
    · exact dlK_len
theorem sfK_len {nw : Nat} {ms : List Nat} {ovb : Bool} {w : List ChD} : (sfK nw ms ovb w).length = w.length := by
  have h : ∀ (ms : List Nat) (K : List Bool), (ms.foldl (fun K m => kpA m w K) K).length = K.length := by
    intro ms
    induction ms with
    | nil => intro K; rfl
    | cons m ms ih => intro K; rw [List.foldl_cons, ih, kpA_len]
  unfold sfK
  split
  · rw [h, kpA_len, List.length_replicate]
  · rw [dlK_len, h, kpA_len, List.length_replicate]
theorem selB_len : ∀ {w : List ChD} {K : List Bool}, (selB w K).length ≤ w.length
  | [], K => by cases K <;> exact Nat.le_refl _
  | c :: w, [] => Nat.zero_le _
  | c :: w, k :: K => by
    have := @selB_len w K
    unfold selB
    split
    · simp only [List.length_cons]
      omega
    · simp only [List.length_cons]
      omega
theorem selB_mem {y : ChD} : ∀ {w : List ChD} {K : List Bool}, y ∈ selB w K → y ∈ w
  | [], K, h => by cases K <;> cases h
  | c :: w, [], h => by cases h
  | c :: w, k :: K, h => by
    unfold selB at h
    split at h
    · rcases List.mem_cons.mp h with rfl | h
      · exact List.mem_cons_self ..
      · exact List.mem_cons_of_mem _ (selB_mem h)
    · exact List.mem_cons_of_mem _ (selB_mem h)
theorem bF_set {K : List Bool} {i : Nat} {p : Bool} (h : i < K.length) : upd (bF K) i (vp_nar .boolean (bI p)) = bF (K.set i p) := by
  funext j
  unfold upd bF
  by_cases hj : j = i
  · subst hj
    rw [if_pos rfl, List.getD_eq_getElem?_getD, List.getElem?_set_self h]
    cases p <;> rfl
  · rw [if_neg hj, List.getD_eq_getElem?_getD, List.getD_eq_getElem?_getD, List.getElem?_set_ne (Ne.symm hj)]
theorem set_split {K : List Bool} {i : Nat} {p : Bool} (h : i < K.length) : (K.set i p).take (i + 1) = K.take i ++ [p] ∧ (K.set i p).drop (i + 1) = K.drop (i + 1) ∧ K.drop i = K.getD i false :: K.drop (i + 1) ∧ (K.set i p) = K.take i ++ p :: K.drop (i + 1) := by
  refine ⟨?_, ?_, ?_, ?_⟩
  · rw [List.set_eq_take_append_cons_drop, if_pos h, List.take_append, List.take_take]
    have e : (K.take i).length = i := by rw [List.length_take]; omega
    rw [e, show i + 1 - i = 1 by omega, show min (i + 1) i = i by omega]
    rfl
  · rw [List.set_eq_take_append_cons_drop, if_pos h, List.drop_append]
    have e : (K.take i).length = i := by rw [List.length_take]; omega
    rw [e, show i + 1 - i = 1 by omega, List.drop_of_length_le (by omega)]
    rfl
  · rw [List.drop_eq_getElem_cons h, List.getD_eq_getElem?_getD, List.getElem?_eq_getElem h]
    rfl
  · rw [List.set_eq_take_append_cons_drop, if_pos h]
section SI
variable {sc : gSc} {d : Nat} {A : gA} {F : Nat → Option vC} {L : List (Nat × vC)} {o : Nat} {f : Ls FamD} {w : Ls WrD} {s : Ls SnD} {c : Ls CuD} {b : Ls BkD} {fi : Nat × FiD} {y : Ls ChD} {me : Option MeD} {ct : CtD} {g : FamD} {l : LvD} {r : RunD} {i j m n q : Nat} {x z : Int}
theorem c65_l (hyn : y.2.2.length = n) (hm : m ≤ 1000000) : ∀ (k i : Nat) (K : List Bool) (A : gA) (x4 : Option Value), i + k = n → K.length = n → okO A F ((q, vN .boolean n (bF K)) :: L) o f w s c b fi y me ct →
    Wv sc 3 65 2 [some (.ref o), some (.int (zI m)), some (.ref q), some (.int (zI i)), x4] [] A (fun v A' => v = .inl none ∧ okO A' F ((q, vN .boolean n (bF (K.take i ++ kpA m (y.2.2.drop i) (K.drop i)))) :: L) o f w s c b fi y me ct ∧ A'.2 = A.2)
  | 0, i, K, A, x4, hik, hK, hO => by
    have h1 := hO.ob
    have h2 := hO.yl
    have e1 : y.2.2.drop i = [] := List.drop_of_length_le (by omega)
    have e2 : K.drop i = [] := List.drop_of_length_le (by omega)
    have e3 : K.take i = K := List.take_of_length_le (by omega)
    rw [e1, e2, e3]
    refine wv_s f65_2 rfl (fun _ => rfl) ?_
    refine wv_s f65_3 rfl (fun _ => rfl) ?_
    refine wv_getfield f65_4 (h1) (by rfl) ?_
    refine wv_lsize f65_7 (h2) (by omega) (by simp) (fun hs => ?_)
    rw [List.length_map] at hs ⊢
    refine wv_cT_ge f65_10 (by omega) (by omega) (by omega) ?_
    exact wv_vret f65_71 (by decide +kernel) (⟨rfl, by rw [show kpA m [] [] = [] from rfl, List.append_nil]; exact hO, rfl⟩)
  | k + 1, i, K, A, x4, hik, hK, hO => by
    have h1 := hO.ob
    have h2 := hO.yl
    have h3 := hO.atL
    obtain ⟨v, hvm, hv0, hv1, hvd, hvt⟩ := at_i (show i < y.2.2.length by omega)
    have hv := hO.wy hvm
    have hv2 := hv.1
    have hvk := hv.2.1
    have hvn := hv.2.2.1
    obtain ⟨-, -, s3, -⟩ := @set_split K i true (by omega)
    obtain ⟨s1, s2, -, s4⟩ := @set_split K i true (by omega)
    rw [hvd, s3]
    refine wv_s f65_2 rfl (fun _ => rfl) ?_
    refine wv_s f65_3 rfl (fun _ => rfl) ?_
    refine wv_getfield f65_4 (h1) (by rfl) ?_
    refine wv_lsize f65_7 (h2) (by omega) (by simp) (fun hs => ?_)
    rw [List.length_map] at hs ⊢
    have hO1 : okO (aPut A q (vN .boolean n (bF (K.set i true)))) F ((q, vN .boolean n (bF (K.set i true))) :: L) o f w s c b fi y me ct := hO.lsL (c' := 0) (kc := 0) (ks := 0)
    have nxt : ∀ K' A1, K'.length = n → K'.drop (i + 1) = K.drop (i + 1) → A1.2 = A.2 → okO A1 F ((q, vN .boolean n (bF K')) :: L) o f w s c b fi y me ct → K'.take (i + 1) ++ kpA m (y.2.2.drop (i + 1)) (K.drop (i + 1)) = K.take i ++ kpA m (v :: y.2.2.drop (i + 1)) (K.getD i false :: K.drop (i + 1)) →
        Wv sc 3 65 65 [some (.ref o), some (.int (zI m)), some (.ref q), some (.int (zI i)), some (.ref v.a)] [] A1 (fun v9 A' => v9 = .inl none ∧ okO A' F ((q, vN .boolean n (bF (K.take i ++ kpA m (v :: y.2.2.drop (i + 1)) (K.getD i false :: K.drop (i + 1))))) :: L) o f w s c b fi y me ct ∧ A'.2 = A.2) := by
      intro K' A1 g1 g2 g3 g4 g5
      refine wv_inc3 f65_65 ?_
      refine wv_s (pc' := 2) f65_68 rfl (fun _ => rfl) ?_
      refine (c65_l hyn hm k (i + 1) K' A1 _ (by omega) g1 g4).up (Nat.le_refl _) (fun v9 A' h => ?_)
      obtain ⟨p1, p2, p3⟩ := h
      rw [g2, g5] at p2
      exact ⟨p1, p2, p3.trans g3⟩
    refine wv_cF_ge f65_10 (by omega) (by omega) (by omega) ?_
    refine wv_s f65_13 rfl (fun _ => rfl) ?_
    refine wv_s f65_14 rfl (fun _ => rfl) ?_
    refine wv_alenN f65_15 (h3) ?_
    refine wv_cF_ge f65_16 (by omega) (by omega) (by omega) ?_
    refine wv_s f65_19 rfl (fun _ => rfl) ?_
    refine wv_getfield f65_20 (h1) (by rfl) ?_
    refine wv_s f65_23 rfl (fun _ => rfl) ?_
    refine wv_lget f65_24 (h2) (by first | rfl | omega) (hv1 _) (by omega) (by simp) ?_
    refine wv_cast f65_27 (hv2) ?_
    refine wv_st4 f65_30 rfl (fun _ _ => rfl) ?_
    refine wv_s f65_32 rfl (fun _ => rfl) ?_
    refine wv_getfield f65_34 (by assumption) (by rfl) ?_
    refine wv_s f65_37 rfl (fun _ => rfl) ?_
    refine wv_cX_gt f65_38 (by omega) (by omega) (fun hb => ?_) (fun hb => ?_)
    · refine nxt K A hK rfl rfl hO ?_
      rw [show K.take (i + 1) = K.take i ++ [K.getD i false] by rw [List.take_succ_eq_append_getElem (by omega), List.getD_eq_getElem?_getD, List.getElem?_eq_getElem (by omega)]; rfl, List.append_assoc]
      congr 1
      simp only [kpA]
      rw [if_neg (by omega)]
      rfl
    · refine wv_s f65_41 rfl (fun _ => rfl) ?_
      refine wv_getfield f65_43 (hv2) (by rfl) ?_
      refine wv_icon f65_46 ?_
      refine wv_cX_ne f65_47 (by omega) (by omega) (fun hb2 => ?_) (fun hb2 => ?_)
      · refine wv_s f65_51 rfl (fun _ => rfl) ?_
        refine wv_s f65_52 rfl (fun _ => rfl) ?_
        refine wv_icon f65_53 ?_
        refine wv_bastore (j := i) f65_54 h3 (by first | rfl | omega) (by omega) (by omega) ?_
        rw [show vp_nar FieldType.boolean (zI 1) = vp_nar FieldType.boolean (bI true) from rfl, bF_set (by omega)]
        have hv3 := (hO1.wy hvm).1
        refine wv_s f65_55 rfl (fun _ => rfl) ?_
        refine wv_getfield f65_57 hv3 (by rfl) ?_
        refine wv_icon f65_60 ?_
        refine wv_cX_eq f65_61 (by omega) (by omega) (fun hb3 => ?_) (fun hb3 => ?_)
        · refine nxt _ _ (by rw [List.length_set]; exact hK) s2 rfl hO1 ?_
          rw [s1, List.append_assoc]
          congr 1
          simp only [kpA]
          rw [if_pos (by omega), if_neg (by omega), if_pos (by omega)]
          rfl
        · refine wv_vret f65_64 (by decide +kernel) ⟨rfl, ?_, rfl⟩
          rw [show kpA m (v :: y.2.2.drop (i + 1)) (K.getD i false :: K.drop (i + 1)) = true :: K.drop (i + 1) by simp only [kpA]; rw [if_pos (by omega), if_neg (by omega), if_neg (by omega)], ← s4]
          exact hO1
      · refine wv_vret f65_50 (by decide +kernel) ⟨rfl, ?_, rfl⟩
        rw [show kpA m (v :: y.2.2.drop (i + 1)) (K.getD i false :: K.drop (i + 1)) = K.getD i false :: K.drop (i + 1) by simp only [kpA]; rw [if_pos (by omega), if_pos (by omega)], ← s3, List.take_append_drop]
        exact hO
theorem c65 {K : List Bool} (hyn : y.2.2.length = n) (hm : m ≤ 1000000) (hK : K.length = n) (hO : okO A F ((q, vN .boolean n (bF K)) :: L) o f w s c b fi y me ct) : Wc sc 3 65 [.ref o, .int (zI m), .ref q] A (fun v A' => v = .inl none ∧ okO A' F ((q, vN .boolean n (bF (kpA m y.2.2 K))) :: L) o f w s c b fi y me ct ∧ A'.2 = A.2) := by
  show Wv sc 3 65 0 [some (.ref o), some (.int (zI m)), some (.ref q), none, none] [] A _
  refine wv_icon f65_0 ?_
  refine wv_st3 f65_1 rfl (fun _ _ => rfl) ?_
  exact c65_l hyn hm n 0 K A none (by omega) hK hO
theorem c42_l (hyn : y.2.2.length = n) (hn : n ≤ 4000) : ∀ (k : Nat) (K : List Bool) (A : gA), k ≤ n → K.length = n → okO A F ((q, vN .boolean n (bF K)) :: L) o f w s c b fi y me ct →
    Wv sc 3 42 5 [some (.ref o), some (.ref q), some (.int (zI ((k : Int) - 1)))] [] A (fun v A' => v = .inl none ∧ okO A' F ((q, vN .boolean n (bF (dlK y.2.2 k K))) :: L) o f w s c b fi y me ct ∧ A'.2 = A.2)
  | 0, K, A, hk, hK, hO => by
    refine wv_s f42_5 rfl (fun _ => rfl) ?_
    refine wv_zT_lt f42_6 (by omega) (by omega) ?_
    exact wv_vret f42_55 (by decide +kernel) (⟨rfl, hO, rfl⟩)
  | k + 1, K, A, hk, hK, hO => by
    have h1 := hO.ob
    have h2 := hO.yl
    have h3 := hO.atL
    obtain ⟨v, hvm, hv0, hv1, hvd, hvt⟩ := at_i (show k < y.2.2.length by omega)
    have hv := hO.wy hvm
    have hv2 := hv.1
    have hvk := hv.2.1
    have hO1 : okO (aPut A q (vN .boolean n (bF (K.set k false)))) F ((q, vN .boolean n (bF (K.set k false))) :: L) o f w s c b fi y me ct := hO.lsL (c' := 0) (kc := 0) (ks := 0)
    rw [show ((k + 1 : Nat) : Int) - 1 = (k : Int) by omega]
    refine wv_s f42_5 rfl (fun _ => rfl) ?_
    refine wv_zF_lt f42_6 (by omega) (by omega) ?_
    refine wv_s f42_9 rfl (fun _ => rfl) ?_
    refine wv_s f42_10 rfl (fun _ => rfl) ?_
    refine wv_baload (j := k) f42_11 (h3) (by first | rfl | omega) (by omega) (by omega) ?_
    have e0 : bF K k = bI (K.getD k false) := rfl
    rw [e0]
    cases hb : K.getD k false with
    | false =>
      refine wv_bT f42_12 (rfl) ?_
      refine wv_inc2 f42_49 ?_
      refine wv_s (pc' := 5) f42_52 rfl (fun _ => rfl) ?_
      rw [show (k : Int) + -1 = (k : Int) - 1 by omega, show dlK y.2.2 (k + 1) K = dlK y.2.2 k K by simp only [dlK]; rw [if_neg (by rw [hb]; decide)]]
      exact c42_l hyn hn k K A (by omega) hK hO
    | true =>
      refine wv_bF f42_12 (rfl) ?_
      refine wv_s f42_15 rfl (fun _ => rfl) ?_
      refine wv_s f42_16 rfl (fun _ => rfl) ?_
      refine wv_getfield f42_17 (h1) (by rfl) ?_
      refine wv_lsize f42_20 (h2) (by omega) (by simp) (fun hs => ?_)
      rw [List.length_map] at hs ⊢
      refine wv_cF_ge f42_23 (by omega) (by omega) (by omega) ?_
      refine wv_s f42_26 rfl (fun _ => rfl) ?_
      refine wv_getfield f42_27 (h1) (by rfl) ?_
      refine wv_s f42_30 rfl (fun _ => rfl) ?_
      refine wv_lget f42_31 (h2) (by first | rfl | omega) (hv1 _) (by omega) (by simp) ?_
      refine wv_cast f42_34 (hv2) ?_
      refine wv_getfield f42_37 (by assumption) (by rfl) ?_
      refine wv_icon f42_40 ?_
      refine wv_cX_eq f42_41 (by omega) (by omega) (fun hb2 => ?_) (fun hb2 => ?_)
      · refine wv_s f42_45 rfl (fun _ => rfl) ?_
        refine wv_s f42_46 rfl (fun _ => rfl) ?_
        refine wv_icon f42_47 ?_
        refine wv_bastore (j := k) f42_48 h3 (by first | rfl | omega) (by omega) (by omega) ?_
        rw [show vp_nar FieldType.boolean (zI 0) = vp_nar FieldType.boolean (bI false) from rfl, bF_set (by omega)]
        refine wv_inc2 f42_49 ?_
        refine wv_s (pc' := 5) f42_52 rfl (fun _ => rfl) ?_
        rw [show (k : Int) + -1 = (k : Int) - 1 by omega, show dlK y.2.2 (k + 1) K = dlK y.2.2 k (K.set k false) by simp only [dlK]; rw [if_pos hb, if_pos (by rw [hv1 ChD.k]; congr 1; omega)]]
        exact c42_l hyn hn k _ _ (by omega) (by rw [List.length_set]; exact hK) hO1
      · refine wv_vret f42_44 (by decide +kernel) ⟨rfl, ?_, rfl⟩
        rw [show dlK y.2.2 (k + 1) K = K by simp only [dlK]; rw [if_pos hb, if_neg (by rw [hv1 ChD.k]; intro w9; have := Option.some.inj w9; omega)]]
        exact hO
theorem c42 {K : List Bool} (hyn : y.2.2.length = n) (hn : n ≤ 4000) (hK : K.length = n) (hO : okO A F ((q, vN .boolean n (bF K)) :: L) o f w s c b fi y me ct) : Wc sc 3 42 [.ref o, .ref q] A (fun v A' => v = .inl none ∧ okO A' F ((q, vN .boolean n (bF (dlK y.2.2 n K))) :: L) o f w s c b fi y me ct ∧ A'.2 = A.2) := by
  show Wv sc 3 42 0 [some (.ref o), some (.ref q), none] [] A _
  have h3 := hO.atL
  refine wv_s f42_0 rfl (fun _ => rfl) ?_
  refine wv_alenN f42_1 (h3) ?_
  refine wv_icon f42_2 ?_
  refine wv_isub f42_3 ?_
  refine wv_st2 f42_4 rfl (fun _ _ => rfl) ?_
  exact c42_l hyn hn n K A (Nat.le_refl _) hK hO
end SI
