/-! LEVELS THAT CHANGE -/
def kp (g : List RunD) (l : List RunD) : List RunD := l.filter (fun r => !among g r.id)
section C8
variable {sc : gSc} {d : Nat} {A : gA} {c : ChD} {x y : Int} {r : RunD} {l : LvD} {F : Nat → Option vC} {q : Nat} {v0 v1 v2 v3 v4 v5 v6 : Value} {L : List (Nat × vC)}
theorem insR_map {l : List RunD} {c : RunD} {i : Nat} : (l.map RunD.a).take i ++ c.a :: (l.map RunD.a).drop i = (l.take i ++ c :: l.drop i).map RunD.a := by simp [List.map_take, List.map_drop]
theorem c121_l (hl : okLv A.1 l) (hr : okRun A.1 r) (hlen : l.rs.length < 2600) : ∀ (k i : Nat), i + k = l.rs.length →
    Wv sc 6 121 2 [some (.ref l.a), some (.ref r.a), some (.int (bI false)), some (.int (zI i))] [] A (fun o A' => o = .inl none ∧ LsTo A l.la l.lc ((l.rs.take i ++ insB r (l.rs.drop i)).map RunD.a) A')
  | 0, i, hik => by
    obtain ⟨h1, h2, h3, h4⟩ := hl
    have e : l.rs.drop i = [] := List.drop_of_length_le (by omega)
    have hr2 := hr.1
    have hll : (l.rs.map RunD.a).length = l.rs.length := List.length_map _
    refine wv_s f121_2 rfl (fun _ => rfl) ?_
    refine wv_nF f121_3 (rfl) ?_
    refine wv_s f121_6 rfl (fun _ => rfl) ?_
    refine wv_s f121_7 rfl (fun _ => rfl) ?_
    refine wv_getfield f121_8 (by assumption) (by rfl) ?_
    refine wv_lsize f121_11 (by assumption) (by omega) (by simp) (fun hs => ?_)
    rw [List.length_map] at hs ⊢
    refine wv_cT_ge f121_14 (by omega) (by omega) (by omega) ?_
    refine wv_s f121_44 rfl (fun _ => rfl) ?_
    refine wv_getfield f121_45 (by assumption) (by rfl) ?_
    refine wv_s f121_48 rfl (fun _ => rfl) ?_
    refine wv_s f121_49 rfl (fun _ => rfl) ?_
    refine wv_lins f121_50 (by assumption) (by first | rfl | omega) (by omega) (by assumption) (by decide +kernel) (by omega) (by omega) (by simp) (fun c1 k1 s1 hlg => ?_)
    exact wv_vret f121_53 (by decide +kernel) (⟨rfl, c1, k1, s1, lg_mono hlg (by rw [e]; simp [insB]; omega), by rw [insR_map, e]; rfl⟩)
  | k + 1, i, hik => by
    have hl0 := hl
    obtain ⟨h1, h2, h3, h4⟩ := hl
    have hi : i < l.rs.length := by omega
    obtain ⟨z, hzm, hz0, hz1, hzd, hzt⟩ := at_i hi
    have hz := h4 z hzm
    have hz2 := hz.1
    have hzr := hz.rg
    have hr2 := hr.1
    have hrr := hr.rg
    have hll : (l.rs.map RunD.a).length = l.rs.length := List.length_map _
    refine wv_s f121_2 rfl (fun _ => rfl) ?_
    refine wv_nF f121_3 (rfl) ?_
    refine wv_s f121_6 rfl (fun _ => rfl) ?_
    refine wv_s f121_7 rfl (fun _ => rfl) ?_
    refine wv_getfield f121_8 (by assumption) (by rfl) ?_
    refine wv_lsize f121_11 (by assumption) (by omega) (by simp) (fun hs => ?_)
    rw [List.length_map] at hs ⊢
    refine wv_cF_ge f121_14 (by omega) (by omega) (by omega) ?_
    refine wv_s f121_17 rfl (fun _ => rfl) ?_
    refine wv_getfield f121_18 (by assumption) (by rfl) ?_
    refine wv_s f121_21 rfl (fun _ => rfl) ?_
    refine wv_lget f121_22 (by assumption) (by first | rfl | omega) (hz1 _) (by omega) (by simp) ?_
    refine wv_cast f121_25 (by assumption) ?_
    refine wv_getfield f121_28 (by assumption) (by rfl) ?_
    refine wv_s f121_31 rfl (fun _ => rfl) ?_
    refine wv_getfield f121_32 (by assumption) (by rfl) ?_
    refine wv_cX_ge f121_35 (by omega) (by omega) (fun hb => ?_) (fun hb => ?_)
    · refine wv_s f121_44 rfl (fun _ => rfl) ?_
      refine wv_getfield f121_45 (by assumption) (by rfl) ?_
      refine wv_s f121_48 rfl (fun _ => rfl) ?_
      refine wv_s f121_49 rfl (fun _ => rfl) ?_
      refine wv_lins f121_50 (by assumption) (by first | rfl | omega) (by omega) (by assumption) (by decide +kernel) (by omega) (by omega) (by simp) (fun c1 k1 s1 hlg => ?_)
      exact wv_vret f121_53 (by decide +kernel) (⟨rfl, c1, k1, s1, lg_mono hlg (by rw [hzd]; unfold insB; rw [if_neg (by omega)]; simp; omega), by rw [insR_map, hzd]; simp only [insB]; rw [if_neg (by omega)]⟩)
    · refine wv_inc3 f121_38 ?_
      refine wv_s (pc' := 2) f121_41 rfl (fun _ => rfl) ?_
      refine (c121_l hl0 hr hlen k (i + 1) (by omega)).up (Nat.le_refl _) (fun o A' h => ?_)
      rw [hzd]
      unfold insB
      rw [if_pos (by omega)]
      rw [hzt, List.append_assoc] at h
      exact h
theorem c121 {nw : Bool} (hl : okLv A.1 l) (hr : okRun A.1 r) (hlen : l.rs.length < 2600) :
    Wc sc 6 121 [.ref l.a, .ref r.a, .int (bI nw)] A (fun o A' => o = .inl none ∧ LsTo A l.la l.lc ((if nw then r :: l.rs else insB r l.rs).map RunD.a) A') := by
  show Wv sc 6 121 0 [some (.ref l.a), some (.ref r.a), some (.int (bI nw)), none] [] A _
  cases nw
  · refine wv_icon f121_0 ?_
    refine wv_st3 f121_1 rfl (fun _ _ => rfl) ?_
    exact c121_l hl hr hlen l.rs.length 0 (by omega)
  · obtain ⟨h1, h2, h3, h4⟩ := hl
    have hr2 := hr.1
    have hll : (l.rs.map RunD.a).length = l.rs.length := List.length_map _
    refine wv_icon f121_0 ?_
    refine wv_st3 f121_1 rfl (fun _ _ => rfl) ?_
    refine wv_s f121_2 rfl (fun _ => rfl) ?_
    refine wv_nT f121_3 (rfl) ?_
    refine wv_s f121_44 rfl (fun _ => rfl) ?_
    refine wv_getfield f121_45 (by assumption) (by rfl) ?_
    refine wv_s f121_48 rfl (fun _ => rfl) ?_
    refine wv_s f121_49 rfl (fun _ => rfl) ?_
    refine wv_lins (j := 0) f121_50 h2 rfl (Nat.zero_le _) hr2 (by decide +kernel) (by omega) (by omega) (by simp) (fun c1 k1 s1 hlg => ?_)
    exact wv_vret f121_53 (by decide +kernel) (⟨rfl, c1, k1, s1, lg_mono hlg (by simp), by rw [insR_map]; simp⟩)
theorem c126_l {g : List RunD} {ga gc : Nat} (hl : okLv A.1 l) (hg : A.1 ga = some (vL gc (g.map RunD.a))) (hgl : ga ≠ l.la) (hk : ∀ r, r ∈ g → ∀ X, okRun (aPut A l.la X).1 r) (hk2 : ∀ r, r ∈ l.rs → ∀ X, okRun (aPut A l.la X).1 r) : ∀ (k : Nat), k ≤ l.rs.length → k ≤ 4000 →
    Wv sc 4 126 10 [some (.ref l.a), some (.ref ga), some (.int (zI ((k : Int) - 1)))] [] (aPut A l.la (vL l.lc ((l.rs.take k ++ kp g (l.rs.drop k)).map RunD.a))) (fun o A' => o = .inl none ∧ A' = aPut A l.la (vL l.lc ((kp g l.rs).map RunD.a)))
  | 0, hik, h40 => by
    rw [List.take_zero, List.drop_zero, List.nil_append]
    refine wv_s f126_10 rfl (fun _ => rfl) ?_
    refine wv_zT_lt f126_11 (by omega) (by omega) ?_
    exact wv_vret f126_47 (by decide +kernel) (⟨rfl, rfl⟩)
  | k + 1, hik, h40 => by
    have hl0 := hl
    obtain ⟨h1, h2, h3, h4⟩ := hl
    obtain ⟨z, hzm, hz0, hz1, hzd, hzt⟩ := at_i (show k < l.rs.length by omega)
    have hz := hk2 z hzm (vL l.lc ((l.rs.take (k + 1) ++ kp g (l.rs.drop (k + 1))).map RunD.a))
    have hz2 := hz.1
    have f1 : (aPut A l.la (vL l.lc ((l.rs.take (k + 1) ++ kp g (l.rs.drop (k + 1))).map RunD.a))).1 l.a = some (cLv l) := by
      rw [aPut_ne (ne_ol h1 h2)]
      exact h1
    have f2 : (aPut A l.la (vL l.lc ((l.rs.take (k + 1) ++ kp g (l.rs.drop (k + 1))).map RunD.a))).1 ga = some (vL gc (g.map RunD.a)) := by
      rw [aPut_ne hgl]
      exact hg
    have f3 : (aPut A l.la (vL l.lc ((l.rs.take (k + 1) ++ kp g (l.rs.drop (k + 1))).map RunD.a))).1 l.la = some (vL l.lc ((l.rs.take (k + 1) ++ kp g (l.rs.drop (k + 1))).map RunD.a)) := aPut_self
    have hlt : (l.rs.take k).length = k := by
      rw [List.length_take]
      omega
    have f4 : ((l.rs.take (k + 1) ++ kp g (l.rs.drop (k + 1))).map RunD.a)[k]? = some z.a := by
      rw [hzt, List.append_assoc, List.map_append, List.getElem?_append_right (by rw [List.length_map, hlt]; exact Nat.le_refl _), List.length_map, hlt, Nat.sub_self]
      rfl
    refine wv_s f126_10 rfl (fun _ => rfl) ?_
    refine wv_zF_lt f126_11 (by omega) (by omega) ?_
    refine wv_s f126_14 rfl (fun _ => rfl) ?_
    refine wv_getfield f126_15 (by assumption) (by rfl) ?_
    refine wv_s f126_18 rfl (fun _ => rfl) ?_
    refine wv_lget (j := k) f126_19 f3 (by omega) f4 (by omega) (by simp) ?_
    refine wv_cast f126_22 (by assumption) ?_
    refine wv_s f126_25 rfl (fun _ => rfl) ?_
    refine wv_valS f126_26 (by decide) (by simp) (by simp) (by decide +kernel) (c122 f2 (fun r hr => hk r hr _) hz) (by omega) ?_
    by_cases hb : among g z.id = true
    · have hkp : kp g (l.rs.drop k) = kp g (l.rs.drop (k + 1)) := by
        rw [hzd]
        unfold kp
        rw [List.filter_cons_of_neg (by simp [hb])]
      refine wv_bF f126_29 (hb) ?_
      refine wv_s f126_32 rfl (fun _ => rfl) ?_
      refine wv_getfield f126_33 (by assumption) (by rfl) ?_
      refine wv_s f126_36 rfl (fun _ => rfl) ?_
      refine wv_lrem (j := k) f126_37 f3 (by omega) f4 (by omega) (by simp) ?_
      have e9 : ((l.rs.take (k + 1) ++ kp g (l.rs.drop (k + 1))).map RunD.a).eraseIdx k = (l.rs.take k ++ kp g (l.rs.drop k)).map RunD.a := by
        rw [hkp, hzt, List.append_assoc, List.map_append, List.map_append, List.eraseIdx_append_of_length_le (by rw [List.length_map, hlt]; exact Nat.le_refl _), List.length_map, hlt, Nat.sub_self, List.map_append]
        rfl
      rw [aPut_put, e9]
      refine wv_s f126_40 rfl (fun _ => rfl) ?_
      refine wv_inc2 f126_41 ?_
      refine wv_s (pc' := 10) f126_44 rfl (fun _ => rfl) ?_
      rw [show ((k + 1 : Nat) : Int) - 1 + -1 = (k : Int) - 1 by omega]
      exact c126_l hl0 hg hgl hk hk2 k (by omega) (by omega)
    · have hb : among g z.id = false := by simpa using hb
      have hkp : kp g (l.rs.drop k) = z :: kp g (l.rs.drop (k + 1)) := by
        rw [hzd]
        unfold kp
        rw [List.filter_cons_of_pos (by simp [hb])]
      refine wv_bT f126_29 (hb) ?_
      refine wv_inc2 f126_41 ?_
      refine wv_s (pc' := 10) f126_44 rfl (fun _ => rfl) ?_
      rw [show ((k + 1 : Nat) : Int) - 1 + -1 = (k : Int) - 1 by omega, show l.rs.take (k + 1) ++ kp g (l.rs.drop (k + 1)) = l.rs.take k ++ kp g (l.rs.drop k) by rw [hkp, hzt, List.append_assoc]; rfl]
      exact c126_l hl0 hg hgl hk hk2 k (by omega) (by omega)
theorem c126 {g : List RunD} {ga gc : Nat} (hl : okLv A.1 l) (hg : A.1 ga = some (vL gc (g.map RunD.a))) (hgl : ga ≠ l.la) (hk : ∀ r, r ∈ g → ∀ X, okRun (aPut A l.la X).1 r) (hk2 : ∀ r, r ∈ l.rs → ∀ X, okRun (aPut A l.la X).1 r) :
    Wc sc 4 126 [.ref l.a, .ref ga] A (fun o A' => o = .inl none ∧ A' = aPut A l.la (vL l.lc ((kp g l.rs).map RunD.a))) := by
  show Wv sc 4 126 0 [some (.ref l.a), some (.ref ga), none] [] A _
  have hl0 := hl
  obtain ⟨h1, h2, h3, h4⟩ := hl
  refine wv_s f126_0 rfl (fun _ => rfl) ?_
  refine wv_getfield f126_1 (by assumption) (by rfl) ?_
  refine wv_lsize f126_4 (by assumption) (by omega) (by simp) (fun hs => ?_)
  refine wv_icon f126_7 ?_
  refine wv_isub f126_8 ?_
  refine wv_st2 f126_9 rfl (fun _ _ => rfl) ?_
  rw [List.length_map] at hs ⊢
  have e0 : A = aPut A l.la (vL l.lc ((l.rs.take l.rs.length ++ kp g (l.rs.drop l.rs.length)).map RunD.a)) := by
    rw [List.take_length, List.drop_length]
    show A = aPut A l.la (vL l.lc ((l.rs ++ []).map RunD.a))
    rw [List.append_nil]
    exact (aPut_id h2).symm
  have := c126_l (sc := sc) hl0 hg hgl hk hk2 l.rs.length (Nat.le_refl _) hs
  rw [← e0] at this
  exact this
/-- a new level -/
theorem c117 (hO : Own A F ((q, vO 6 [v0, v1]) :: L)) : Wc sc 3 117 [.ref q] A (fun o A' => o = .inl none ∧ ∃ l, l.a = q ∧ l.mu = -1 ∧ l.rs = [] ∧ l.lc = 0 ∧ Own A' F ((l.a, cLv l) :: (l.la, cLl l) :: L) ∧ A'.2.1 = A.2.1 + 1 ∧ A'.2.2 = A.2.2 + 3) := by
  show Wv sc 3 117 0 [some (.ref q)] [] A _
  refine wv_s f117_0 rfl (fun _ => rfl) ?_
  refine wv_objI f117_1 (by simp) ?_
  refine wv_s f117_4 rfl (fun _ => rfl) ?_
  refine wv_newL f117_5 (fun la hla => ?_)
  have hO1 := hO.new (n := 3) (c := vW) hla
  have f1 := hO1.at (List.mem_cons_self ..)
  refine wv_s f117_8 rfl (fun _ => rfl) ?_
  refine wv_linit f117_9 (by assumption) (by omega) (by simp) ?_
  have hO2 := hO1.put (L1 := []) (c := vL 0 [])
  have f2 := hO2.at (q := q) (c := vO 6 [v0, v1]) (List.mem_cons_of_mem _ (List.mem_cons_self ..))
  have hO3 := Own.put (L1 := [(la, vL 0 [])]) (c := vO 6 [.ref la, .int (zI (-1))]) hO2
  refine wv_putfield f117_12 (f2) (by simp) (by rfl) ?_
  refine wv_s f117_15 rfl (fun _ => rfl) ?_
  refine wv_icon f117_16 ?_
  refine wv_putfield f117_17 (aPut_self) (by simp) (by rfl) ?_
  exact wv_vret f117_20 (by decide +kernel) (⟨rfl, (q, -1, la, 0, []), rfl, rfl, rfl, rfl, by rw [aPut_put]; exact Own.perm hO3 (List.Perm.swap _ _ _), rfl, rfl⟩)
/-- one level becomes another -/
theorem c118_l' {m : LvD} {A0 : gA} (m1 : A0.1 m.a = some (cLv m)) (m2 : A0.1 m.la = some (cLl m)) (m4 : ∀ q, q ∈ m.rs → A0.1 q.a = some (cRun q)) (h1 : A0.1 l.a = some (cLv l)) (hn2 : m.la ≠ l.la) (h2 : A0.1 l.la = some (vL l.lc [])) (hlen : m.rs.length < 2600) : ∀ (k i : Nat) (A : gA), i + k = m.rs.length → LsTo A0 l.la l.lc ((m.rs.take i).map RunD.a) A →
    Wv sc 7 118 9 [some (.ref l.a), some (.ref m.a), some (.int (zI i))] [] A (fun o A' => o = .inl none ∧ ∃ A1 lc' kc ks, lg l.lc m.rs.length lc' kc ks ∧ A1 = aLst A0 l.la (vL lc' (m.rs.map RunD.a)) kc ks ∧ A' = aPut A1 l.a (vO 6 [.ref l.la, .int (zI m.mu)]))
  | k, i, A, hik, hA => by
    obtain ⟨lc1, k1, s1, hg1, rfl⟩ := hA
    have f1 : (aLst A0 l.la (vL lc1 ((m.rs.take i).map RunD.a)) k1 s1).1 l.a = some (cLv l) := by
      rw [aLst_ne (ne_ol h1 h2)]
      exact h1
    have f2 : (aLst A0 l.la (vL lc1 ((m.rs.take i).map RunD.a)) k1 s1).1 m.a = some (cLv m) := by
      rw [aLst_ne (ne_ol m1 h2)]
      exact m1
    have f3 : (aLst A0 l.la (vL lc1 ((m.rs.take i).map RunD.a)) k1 s1).1 m.la = some (vL m.lc (m.rs.map RunD.a)) := by
      rw [aLst_ne hn2]
      exact m2
    have f4 : (aLst A0 l.la (vL lc1 ((m.rs.take i).map RunD.a)) k1 s1).1 l.la = some (vL lc1 ((m.rs.take i).map RunD.a)) := aLst_self
    have hlt : ((m.rs.take i).map RunD.a).length = i := by rw [List.length_map, List.length_take]; omega
    match k, hik with
    | 0, hik =>
      have e9 : m.rs.take i = m.rs := List.take_of_length_le (by omega)
      refine wv_s f118_9 rfl (fun _ => rfl) ?_
      refine wv_s f118_10 rfl (fun _ => rfl) ?_
      refine wv_getfield f118_11 (f2) (by rfl) ?_
      refine wv_lsize f118_14 (f3) (by omega) (by simp) (fun hs => ?_)
      rw [List.length_map] at hs ⊢
      refine wv_cT_ge f118_17 (by omega) (by omega) (by omega) ?_
      refine wv_s f118_45 rfl (fun _ => rfl) ?_
      refine wv_s f118_46 rfl (fun _ => rfl) ?_
      refine wv_getfield f118_47 (f2) (by rfl) ?_
      refine wv_putfield f118_50 (f1) (by simp) (by rfl) ?_
      exact wv_vret f118_53 (by decide +kernel) (⟨rfl, _, lc1, k1, s1, lg_mono hg1 (by rw [hlt]; omega), rfl, by rw [e9]; rfl⟩)
    | k + 1, hik =>
      obtain ⟨z, hzm, hz0, hz1, hzd, hzt⟩ := at_i (show i < m.rs.length by omega)
      have hz2 := m4 z hzm
      have f5 : (aLst A0 l.la (vL lc1 ((m.rs.take i).map RunD.a)) k1 s1).1 z.a = some (cRun z) := by
        rw [aLst_ne (ne_ol hz2 h2)]
        exact hz2
      refine wv_s f118_9 rfl (fun _ => rfl) ?_
      refine wv_s f118_10 rfl (fun _ => rfl) ?_
      refine wv_getfield f118_11 (f2) (by rfl) ?_
      refine wv_lsize f118_14 (f3) (by omega) (by simp) (fun hs => ?_)
      rw [List.length_map] at hs ⊢
      refine wv_cF_ge f118_17 (by omega) (by omega) (by omega) ?_
      refine wv_s f118_20 rfl (fun _ => rfl) ?_
      refine wv_getfield f118_21 (f1) (by rfl) ?_
      refine wv_s f118_24 rfl (fun _ => rfl) ?_
      refine wv_getfield f118_25 (f2) (by rfl) ?_
      refine wv_s f118_28 rfl (fun _ => rfl) ?_
      refine wv_lget f118_29 (f3) (by first | rfl | omega) (hz1 _) (by omega) (by simp) ?_
      refine wv_cast f118_32 (f5) ?_
      refine wv_ladd f118_35 (f4) (by assumption) (by decide +kernel) (by omega) (by omega) (by simp) (fun c2 k2 s2 hg2 => ?_)
      refine wv_s f118_38 rfl (fun _ => rfl) ?_
      refine wv_inc2 f118_39 ?_
      refine wv_s (pc' := 9) f118_42 rfl (fun _ => rfl) ?_
      rw [aLst_lst]
      refine (c118_l' m1 m2 m4 h1 hn2 h2 hlen k (i + 1) _ (by omega) ⟨c2, k1 + k2, s1 + s2, ?_, ?_⟩)
      · have h7 := lg_trans hg1 hg2 (Nat.le_refl _)
        exact lg_mono h7 (by rw [hlt, List.length_map, List.length_take]; omega)
      · rw [hzt, List.map_append]
        rfl
theorem c118 {m : LvD} (h1 : A.1 l.a = some (cLv l)) (h2 : A.1 l.la = some (cLl l)) (hm : okLv A.1 m) (hn2 : m.la ≠ l.la) (hlen : m.rs.length < 2600) :
    Wc sc 7 118 [.ref l.a, .ref m.a] A (fun o A' => o = .inl none ∧ ∃ A1 lc' kc ks, lg l.lc m.rs.length lc' kc ks ∧ A1 = aLst A l.la (vL lc' (m.rs.map RunD.a)) kc ks ∧ A' = aPut A1 l.a (vO 6 [.ref l.la, .int (zI m.mu)])) := by
  show Wv sc 7 118 0 [some (.ref l.a), some (.ref m.a), none] [] A _
  obtain ⟨m1, m2, m3, m4⟩ := hm
  refine wv_s f118_0 rfl (fun _ => rfl) ?_
  refine wv_getfield f118_1 (by assumption) (by rfl) ?_
  refine wv_lclear f118_4 (by assumption) (by omega) (by simp) ?_
  refine wv_icon f118_7 ?_
  refine wv_st2 f118_8 rfl (fun _ _ => rfl) ?_
  have hfr : ∀ q ci fs, A.1 q = some (vO ci fs) → (aPut A l.la (vL l.lc [])).1 q = some (vO ci fs) := by
    intro q ci fs hq
    rw [aPut_ne (ne_ol hq h2)]
    exact hq
  have hz9 : ∀ q, q ∈ m.rs → (aPut A l.la (vL l.lc [])).1 q.a = some (cRun q) := fun q hq => hfr _ _ _ (m4 q hq).1
  refine (c118_l' (A0 := aPut A l.la (vL l.lc [])) (hfr _ _ _ m1) (by rw [aPut_ne hn2]; exact m2) hz9 (hfr _ _ _ h1) hn2 aPut_self hlen m.rs.length 0 _ (by omega) ?_).up (Nat.le_refl _) (fun o A' hq => ?_)
  · rw [List.take_zero]
    exact LsTo.refl aPut_self
  · obtain ⟨ho, A1, lc', kc, ks, h5, h6, h7⟩ := hq
    rw [aLst_put] at h6
    exact ⟨ho, A1, lc', kc, ks, h5, h6, h7⟩
end C8
