/-! MARKS, and what they keep -/
/-- the marks suffice at a moment -/
def KQ (m : Nat) : List ChD → List Bool → Prop
  | c :: w, k :: K => if c.n ≤ m then (if c.k = 3 then True else if c.k = 4 then k = true ∧ KQ m w K else k = true) else KQ m w K
  | _, _ => True
/-- one row of marks has all that another has -/
def LeK : List Bool → List Bool → Prop
  | a :: A, b :: B => (a = true → b = true) ∧ LeK A B
  | _, _ => True
/-- no range is marked -/
def NR : List ChD → List Bool → Prop
  | c :: w, k :: K => (c.k = 3 → k = false) ∧ NR w K
  | _, _ => True
theorem LeK.refl : ∀ {A : List Bool}, LeK A A
  | [] => trivial
  | _ :: _ => ⟨id, LeK.refl⟩
theorem KQ.mono {m : Nat} : ∀ {w : List ChD} {K K' : List Bool}, KQ m w K → LeK K K' → K.length = w.length → K'.length = w.length → KQ m w K'
  | [], K, K', _, _, _, _ => by unfold KQ; trivial
  | c :: w, [], K', _, _, h, _ => by simp at h
  | c :: w, k :: K, [], _, _, _, h => by simp at h
  | c :: w, k :: K, k' :: K', h1, h2, h3, h4 => by
    have e3 : K.length = w.length := by simpa using h3
    have e4 : K'.length = w.length := by simpa using h4
    unfold KQ at h1 ⊢
    by_cases hm : c.n ≤ m
    · rw [if_pos hm] at h1 ⊢
      by_cases hk3 : c.k = 3
      · rw [if_pos hk3]
        trivial
      · rw [if_neg hk3] at h1 ⊢
        by_cases hk4 : c.k = 4
        · rw [if_pos hk4] at h1 ⊢
          exact ⟨h2.1 h1.1, h1.2.mono h2.2 e3 e4⟩
        · rw [if_neg hk4] at h1 ⊢
          exact h2.1 h1
    · rw [if_neg hm] at h1 ⊢
      exact KQ.mono h1 h2.2 e3 e4
theorem kpA_le {m : Nat} : ∀ {w : List ChD} {K : List Bool}, LeK K (kpA m w K)
  | [], K => by cases K <;> exact LeK.refl
  | c :: w, [] => trivial
  | c :: w, k :: K => by
    unfold kpA
    by_cases hm : c.n ≤ m
    · rw [if_pos hm]
      by_cases hk3 : c.k = 3
      · rw [if_pos hk3]
        exact LeK.refl
      · rw [if_neg hk3]
        by_cases hk4 : c.k = 4
        · rw [if_pos hk4]
          exact ⟨fun _ => rfl, kpA_le⟩
        · rw [if_neg hk4]
          exact ⟨fun _ => rfl, LeK.refl⟩
    · rw [if_neg hm]
      exact ⟨id, kpA_le⟩
theorem kpA_KQ {m : Nat} : ∀ {w : List ChD} {K : List Bool}, KQ m w (kpA m w K)
  | [], K => by cases K <;> trivial
  | c :: w, [] => trivial
  | c :: w, k :: K => by
    have ih := @kpA_KQ m w K
    unfold kpA
    by_cases hm : c.n ≤ m
    · rw [if_pos hm]
      by_cases hk3 : c.k = 3
      · rw [if_pos hk3]
        unfold KQ
        rw [if_pos hm, if_pos hk3]
        trivial
      · rw [if_neg hk3]
        by_cases hk4 : c.k = 4
        · rw [if_pos hk4]
          unfold KQ
          rw [if_pos hm, if_neg hk3, if_pos hk4]
          exact ⟨rfl, ih⟩
        · rw [if_neg hk4]
          unfold KQ
          rw [if_pos hm, if_neg hk3, if_neg hk4]
    · rw [if_neg hm]
      unfold KQ
      rw [if_neg hm]
      exact ih
theorem kpA_NR {m : Nat} : ∀ {w : List ChD} {K : List Bool}, NR w K → NR w (kpA m w K)
  | [], K, h => by cases K <;> trivial
  | c :: w, [], h => trivial
  | c :: w, k :: K, h => by
    unfold kpA
    by_cases hm : c.n ≤ m
    · rw [if_pos hm]
      by_cases hk3 : c.k = 3
      · rw [if_pos hk3]
        exact h
      · rw [if_neg hk3]
        by_cases hk4 : c.k = 4
        · rw [if_pos hk4]
          exact ⟨fun q => absurd q hk3, kpA_NR h.2⟩
        · rw [if_neg hk4]
          exact ⟨fun q => absurd q hk3, h.2⟩
    · rw [if_neg hm]
      exact ⟨h.1, kpA_NR h.2⟩
theorem rep_NR : ∀ {w : List ChD} {n : Nat}, NR w (List.replicate n false)
  | [], _ => trivial
  | c :: w, 0 => trivial
  | c :: w, n + 1 => ⟨fun _ => rfl, rep_NR⟩
theorem kpS_all : ∀ {ms : List Nat} {w : List ChD} {K : List Bool} {P : List Nat}, K.length = w.length → NR w K → (∀ m, m ∈ P → KQ m w K) → (ms.foldl (fun K m => kpA m w K) K).length = w.length ∧ NR w (ms.foldl (fun K m => kpA m w K) K) ∧ ∀ m, m ∈ P ∨ m ∈ ms → KQ m w (ms.foldl (fun K m => kpA m w K) K)
  | [], w, K, P, h1, h2, h3 => ⟨h1, h2, fun m hm => hm.elim (h3 m) (fun q => by cases q)⟩
  | a :: ms, w, K, P, h1, h2, h3 => by
    rw [List.foldl_cons]
    obtain ⟨g1, g2, g3⟩ := @kpS_all ms w (kpA a w K) (a :: P) (by rw [kpA_len]; exact h1) (kpA_NR h2) (fun m hm => by
      rcases List.mem_cons.mp hm with rfl | hm
      · exact kpA_KQ
      · exact (h3 m hm).mono kpA_le h1 (by rw [kpA_len]; exact h1))
    refine ⟨g1, g2, fun m hm => g3 m ?_⟩
    rcases hm with hm | hm
    · exact .inl (List.mem_cons_of_mem _ hm)
    · rcases List.mem_cons.mp hm with rfl | hm
      · exact .inl (List.mem_cons_self ..)
      · exact .inr hm
/-- what taking away the last deletes leaves -/
def Dl : List ChD → List Bool → List Bool → Prop
  | c :: w, k :: K, k' :: K' => (k' = true → k = true) ∧ (k = true → k' = false → c.k = 2 ∧ ∀ b, b ∈ K' → b = false) ∧ Dl w K K'
  | _, _, _ => True
theorem dlK_i {w : List ChD} : ∀ {i : Nat} {K : List Bool}, K.length = w.length → i ≤ w.length → (∀ j, i ≤ j → K.getD j false = false) →
    (∀ j, (dlK w i K).getD j false = true → K.getD j false = true) ∧ (∀ j, K.getD j false = true → (dlK w i K).getD j false = false → (w.map ChD.k)[j]? = some 2 ∧ ∀ l, j < l → (dlK w i K).getD l false = false)
  | 0, K, hK, hi, h0 => by
    refine ⟨fun j h => h, fun j h1 h2 => ?_⟩
    have e : dlK w 0 K = K := rfl
    rw [e, h1] at h2
    cases h2
  | i + 1, K, hK, hi, h0 => by
    unfold dlK
    by_cases hb : K.getD i false = true
    · rw [if_pos hb]
      by_cases hk : (w.map ChD.k)[i]? = some 2
      · rw [if_pos hk]
        have hs : ∀ j, (K.set i false).getD j false = if j = i then false else K.getD j false := by
          intro j
          rw [List.getD_eq_getElem?_getD, List.getD_eq_getElem?_getD, List.getElem?_set]
          by_cases e : j = i
          · subst e
            rw [if_pos rfl, if_pos rfl]
            split <;> rfl
          · rw [if_neg (fun q => e q.symm), if_neg e]
        obtain ⟨g1, g2⟩ := @dlK_i w i (K.set i false) (by rw [List.length_set]; exact hK) (by omega) (fun j hj => by
          rw [hs]
          by_cases e : j = i
          · rw [if_pos e]
          · rw [if_neg e]
            exact h0 j (by omega))
        have g3 : ∀ j, i ≤ j → (dlK w i (K.set i false)).getD j false = false := by
          intro j hj
          cases hd : (dlK w i (K.set i false)).getD j false with
          | false => rfl
          | true =>
            have := g1 j hd
            rw [hs] at this
            by_cases e : j = i
            · rw [if_pos e] at this
              cases this
            · rw [if_neg e, h0 j (by omega)] at this
              cases this
        refine ⟨fun j h => ?_, fun j h1 h2 => ?_⟩
        · have := g1 j h
          rw [hs] at this
          by_cases e : j = i
          · rw [if_pos e] at this
            cases this
          · rw [if_neg e] at this
            exact this
        · by_cases e : j = i
          · subst e
            exact ⟨hk, fun l hl => g3 l (by omega)⟩
          · exact g2 j (by rw [hs, if_neg e]; exact h1) h2
      · rw [if_neg hk]
        refine ⟨fun j h => h, fun j h1 h2 => ?_⟩
        rw [h1] at h2
        cases h2
    · rw [if_neg hb]
      refine dlK_i hK (by omega) (fun j hj => ?_)
      by_cases e : j = i
      · subst e
        simpa using hb
      · exact h0 j (by omega)
theorem Dl_of : ∀ {w : List ChD} {K K' : List Bool}, K.length = w.length → K'.length = w.length → (∀ j, K'.getD j false = true → K.getD j false = true) → (∀ j, K.getD j false = true → K'.getD j false = false → (w.map ChD.k)[j]? = some 2 ∧ ∀ l, j < l → K'.getD l false = false) → Dl w K K'
  | [], _, _, _, _, _, _ => by unfold Dl; trivial
  | c :: w, [], _, h, _, _, _ => by simp at h
  | c :: w, k :: K, [], _, h, _, _ => by simp at h
  | c :: w, k :: K, k' :: K', h1, h2, h3, h4 => by
    refine ⟨fun h => h3 0 h, fun ha hb => ?_, Dl_of (by simpa using h1) (by simpa using h2) (fun j => h3 (j + 1)) (fun j ha hb => ?_)⟩
    · obtain ⟨g1, g2⟩ := h4 0 ha hb
      refine ⟨Option.some.inj g1, fun b hb9 => ?_⟩
      obtain ⟨i, hi⟩ := List.getElem?_of_mem hb9
      have g3 : K'.getD i false = false := g2 (i + 1) (by omega)
      rw [List.getD_eq_getElem?_getD, hi] at g3
      exact g3
    · obtain ⟨g1, g2⟩ := h4 (j + 1) ha hb
      exact ⟨g1, fun l hl => g2 (l + 1) (by omega)⟩
/-- what is kept suffices at a moment -/
def KOm (tn : Prop) (m : Nat) : List ChD → List Bool → Prop
  | c :: w, k :: K => if c.n ≤ m then (if c.k = 3 then True else if c.k = 4 then k = true ∧ KOm tn m w K else (k = true ∨ (c.k = 2 ∧ tn ∧ ∀ b, b ∈ K → b = false))) else KOm tn m w K
  | _, _ => True
theorem KOm_KQ {tn : Prop} {m : Nat} : ∀ {w : List ChD} {K : List Bool}, KQ m w K → KOm tn m w K
  | [], K, _ => by unfold KOm; trivial
  | c :: w, [], _ => trivial
  | c :: w, k :: K, h => by
    unfold KQ at h
    unfold KOm
    by_cases hm : c.n ≤ m
    · rw [if_pos hm] at h ⊢
      by_cases hk3 : c.k = 3
      · rw [if_pos hk3]
        trivial
      · rw [if_neg hk3] at h ⊢
        by_cases hk4 : c.k = 4
        · rw [if_pos hk4] at h ⊢
          exact ⟨h.1, KOm_KQ h.2⟩
        · rw [if_neg hk4] at h ⊢
          exact .inl h
    · rw [if_neg hm] at h ⊢
      exact KOm_KQ h
theorem KOm_Dl {tn : Prop} (ht : tn) {m : Nat} : ∀ {w : List ChD} {K K' : List Bool}, KQ m w K → Dl w K K' → K.length = w.length → K'.length = w.length → KOm tn m w K'
  | [], K, K', _, _, _, _ => by unfold KOm; trivial
  | c :: w, [], K', _, _, h, _ => by simp at h
  | c :: w, k :: K, [], _, _, _, h => by simp at h
  | c :: w, k :: K, k' :: K', h1, h2, h3, h4 => by
    obtain ⟨d1, d2, d3⟩ := h2
    have e3 : K.length = w.length := by simpa using h3
    have e4 : K'.length = w.length := by simpa using h4
    unfold KQ at h1
    unfold KOm
    by_cases hm : c.n ≤ m
    · rw [if_pos hm] at h1 ⊢
      by_cases hk3 : c.k = 3
      · rw [if_pos hk3]
        trivial
      · rw [if_neg hk3] at h1 ⊢
        by_cases hk4 : c.k = 4
        · rw [if_pos hk4] at h1 ⊢
          refine ⟨?_, KOm_Dl ht h1.2 d3 e3 e4⟩
          cases hb : k' with
          | true => rfl
          | false =>
            have := (d2 h1.1 hb).1
            omega
        · rw [if_neg hk4] at h1 ⊢
          cases hb : k' with
          | true => exact .inl rfl
          | false =>
            obtain ⟨g1, g2⟩ := d2 h1 hb
            exact .inr ⟨g1, ht, g2⟩
    · rw [if_neg hm] at h1 ⊢
      exact KOm_Dl ht h1 d3 e3 e4
theorem Dl_NR : ∀ {w : List ChD} {K K' : List Bool}, NR w K → Dl w K K' → K.length = w.length → NR w K'
  | [], _, _, _, _, _ => by unfold NR; trivial
  | c :: w, [], _, _, _, h => by simp at h
  | c :: w, k :: K, [], _, _, _ => trivial
  | c :: w, k :: K, k' :: K', h1, h2, h3 => by
    refine ⟨fun hk => ?_, Dl_NR h1.2 h2.2.2 (by simpa using h3)⟩
    cases hb : k' with
    | false => rfl
    | true =>
      have a := h2.1 hb
      rw [h1.1 hk] at a
      cases a
/-- sifting keeps what is needed -/
theorem sfK_ok {nw : Nat} {ms : List Nat} {ovb : Bool} {w : List ChD} : NR w (sfK nw ms ovb w) ∧ ∀ m, m = nw ∨ m ∈ ms → KOm (ovb = false) m w (sfK nw ms ovb w) := by
  obtain ⟨g1, g2, g3⟩ := @kpS_all ms w (kpA nw w (List.replicate w.length false)) [nw] (by rw [kpA_len, List.length_replicate]) (kpA_NR rep_NR) (fun m hm => by rw [List.mem_singleton.mp hm]; exact kpA_KQ)
  have g4 : ∀ m, m = nw ∨ m ∈ ms → KQ m w (ms.foldl (fun K m => kpA m w K) (kpA nw w (List.replicate w.length false))) := fun m hm => g3 m (hm.imp List.mem_singleton.mpr id)
  unfold sfK
  cases ovb with
  | true =>
    rw [if_pos rfl]
    exact ⟨g2, fun m hm => KOm_KQ (g4 m hm)⟩
  | false =>
    rw [if_neg (by decide)]
    obtain ⟨d1, d2⟩ := @dlK_i w w.length _ g1 (Nat.le_refl _) (fun j hj => by rw [List.getD_eq_getElem?_getD, List.getElem?_eq_none (by omega)]; rfl)
    have d3 := Dl_of g1 (by rw [dlK_len]; exact g1) d1 d2
    exact ⟨Dl_NR g2 d3 g1, fun m hm => KOm_Dl rfl (g4 m hm) d3 g1 (by rw [dlK_len]; exact g1)⟩
