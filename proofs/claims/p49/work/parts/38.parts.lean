/-! THE PARTS OF RANGES, kept ranges -/
def clip (x y : Int) (c : ChD) : Nat × Nat × Nat × Nat × Int32 := (3, c.n, (max (c.f : Int) x).toNat, (min (c.t : Int) y).toNat, 0)
theorem Ext.refl {F : Nat → Option vC} : Ext F F := fun _ _ h => h
theorem Ext.trans {F G H : Nat → Option vC} (h1 : Ext F G) (h2 : Ext G H) : Ext F H := fun x y h => h2 x y (h1 x y h)
def fzL (F : Nat → Option vC) : List (Nat × vC) → Nat → Option vC
  | [] => F
  | p :: t => fzL (fz F p.1 p.2) t
theorem Own.frzL {A : gA} {L : List (Nat × vC)} : ∀ {X : List (Nat × vC)} {F : Nat → Option vC}, Own A F (X ++ L) → Own A (fzL F X) L ∧ Ext F (fzL F X) ∧ ∀ p, p ∈ X → fzL F X p.1 = some p.2
  | [], F, h => ⟨h, Ext.refl, fun p hp => by cases hp⟩
  | p :: t, F, h => by
    have h1 : Own A F ((p.1, p.2) :: (t ++ L)) := h
    obtain ⟨g1, g2, g3⟩ := Own.frzL (X := t) h1.frz
    refine ⟨g1, (Own.ext_fz h1).trans g2, fun r hr => ?_⟩
    rcases List.mem_cons.mp hr with rfl | hr
    · exact g2 _ _ fz_self
    · exact g3 r hr
section C13
variable {sc : gSc} {d : Nat} {x y z : Int} {r : RunD} {l : LvD} {f h : FamD} {q j ia ic ka kc : Nat} {v0 v1 v2 v3 v4 v5 v6 : Value} {L : List (Nat × vC)} {ins : List RunD} {kept : List ChD} {rg : ChD}
theorem c80_l {wl wc : Nat} {ws : List ChD} (hx : 0 ≤ x ∧ x ≤ 100) (hy : -1 ≤ y ∧ y ≤ 99) (hlen : ws.length < 2600) : ∀ (k i lc : Nat) (A : gA) (F : Nat → Option vC) (cs : List ChD) (x5 : Option Value), i + k = ws.length → F wl = some (vL wc (ws.map ChD.a)) → (∀ c, c ∈ ws → okCh F c) → Own A F ((q, vL lc (cs.map ChD.a)) :: L) → (∀ c, c ∈ cs → okCh F c) → cs.length ≤ i → lc ≤ 10 + 2 * cs.length →
    Wv sc 7 80 11 [some (.ref wl), some (.int (zI x)), some (.int (zI y)), some (.ref q), some (.int (zI i)), x5] [] A (fun o A' => ∃ v, o = .inl (some v) ∧ ∃ lc', ∃ cs' : List ChD, ∃ F', v = .ref q ∧ Ext F F' ∧ Own A' F' ((q, vL lc' (cs'.map ChD.a)) :: L) ∧ cs'.map Prod.snd = cs.map Prod.snd ++ ((ws.drop i).filter (fun c => c.ov x y)).map (clip x y) ∧ (∀ c, c ∈ cs' → okCh F' c) ∧
      5 * A'.2.1 + lc + 5 * cs.length ≤ 5 * A.2.1 + lc' + 5 * cs'.length ∧ A'.2.2 + 4 * lc + 5 * cs.length ≤ A.2.2 + 4 * lc' + 5 * cs'.length ∧ lc' ≤ 10 + 2 * cs'.length)
  | 0, i, lc, A, F, cs, x5, hik, hw, hk, hO, hcs, hci, hlc => by
    have e : ws.drop i = [] := List.drop_of_length_le (by omega)
    have hw2 := hO.1 _ _ hw
    refine wv_s f80_11 rfl (fun _ => rfl) ?_
    refine wv_s f80_13 rfl (fun _ => rfl) ?_
    refine wv_lsize f80_14 (by assumption) (by omega) (by simp) (fun hs => ?_)
    rw [List.length_map] at hs ⊢
    refine wv_cT_ge f80_17 (by omega) (by omega) (by omega) ?_
    refine wv_s f80_84 rfl (fun _ => rfl) ?_
    exact wv_aret f80_85 (by rfl) (⟨_, rfl, lc, cs, F, rfl, Ext.refl, hO, by rw [e]; simp, hcs, by omega, by omega, hlc⟩)
  | k + 1, i, lc, A, F, cs, x5, hik, hw, hk, hO, hcs, hci, hlc => by
    obtain ⟨c, hcm, hc0, hc1, hcd, -⟩ := at_i (show i < ws.length by omega)
    have hcc := hk c hcm
    have hcA := hcc.ext hO.1
    obtain ⟨hc2, h1, h2, h3, h4⟩ := id hcA
    have hw2 := hO.1 _ _ hw
    have hq := hO.at (List.mem_cons_self ..)
    refine wv_s f80_11 rfl (fun _ => rfl) ?_
    refine wv_s f80_13 rfl (fun _ => rfl) ?_
    refine wv_lsize f80_14 (by assumption) (by omega) (by simp) (fun hs => ?_)
    rw [List.length_map] at hs ⊢
    refine wv_cF_ge f80_17 (by omega) (by omega) (by omega) ?_
    refine wv_s f80_20 rfl (fun _ => rfl) ?_
    refine wv_s f80_21 rfl (fun _ => rfl) ?_
    refine wv_lget f80_23 (by assumption) (by first | rfl | omega) (hc1 _) (by omega) (by simp) ?_
    refine wv_cast f80_26 (by assumption) ?_
    refine wv_st5 f80_29 rfl (fun _ _ => rfl) ?_
    refine wv_s f80_31 rfl (fun _ => rfl) ?_
    refine wv_s f80_33 rfl (fun _ => rfl) ?_
    refine wv_s f80_34 rfl (fun _ => rfl) ?_
    refine wv_valV f80_35 (by decide) (by simp) (by simp) (by decide +kernel) (by assumption) (by rfl) (by decide +kernel) rfl (c102 hcA (by omega) (by omega)) (by omega) ?_
    refine wv_bX f80_38 (fun hb => ?_) (fun hb => ?_)
    · refine wv_inc4 f80_78 ?_
      refine wv_s (pc' := 11) f80_81 rfl (fun _ => rfl) ?_
      refine (c80_l hx hy hlen k (i + 1) lc A F cs _ (by omega) hw hk hO hcs (by omega) hlc).up (Nat.le_refl _) (fun o A' hq' => ?_)
      rw [hcd, List.filter_cons_of_neg (p := fun c : ChD => c.ov x y) (by simp [hb])]
      exact hq'
    · have hov := of_decide_eq_true (show decide ((c.f : Int) ≤ y ∧ x ≤ (c.t : Int)) = true from hb)
      refine wv_s f80_41 rfl (fun _ => rfl) ?_
      refine wv_newZ f80_42 (by decide) (by decide) (zs := [.int 0, .int 0, .int 0, .int 0, .int 0]) (by rfl) (fun ca hca => ?_)
      have hO1 := hO.new (n := gN 2) (c := vO 2 [.int 0, .int 0, .int 0, .int 0, .int 0]) hca
      have hc3 := (hcc.ext hO1.1).1
      have hca2 := hO1.at (List.mem_cons_self ..)
      refine wv_s f80_45 rfl (fun _ => rfl) ?_
      refine wv_icon f80_46 ?_
      refine wv_s f80_47 rfl (fun _ => rfl) ?_
      refine wv_getfield f80_49 (by assumption) (by rfl) ?_
      refine wv_s f80_52 rfl (fun _ => rfl) ?_
      refine wv_getfield f80_54 (by assumption) (by rfl) ?_
      refine wv_s f80_57 rfl (fun _ => rfl) ?_
      refine wv_valS f80_58 (by decide) (by simp) (by simp) (by decide +kernel) (cc_max (by omega) (by omega)) (by omega) ?_
      refine wv_s f80_61 rfl (fun _ => rfl) ?_
      refine wv_getfield f80_63 (by assumption) (by rfl) ?_
      refine wv_s f80_66 rfl (fun _ => rfl) ?_
      refine wv_valS f80_67 (by decide) (by simp) (by simp) (by decide +kernel) (cc_min (by omega) (by omega)) (by omega) ?_
      refine wv_icon f80_70 ?_
      refine wv_effI f80_71 (by decide) (by simp) (by simp) (by decide +kernel) (by rfl) (c101 (am := zI 0) hca2) (by omega) (fun A2 hA2 => ?_)
      have hO2 := hO1.put (L1 := []) (c := vO 2 [.int (zI 3), .int (zI c.n), .int (zI (max (c.f : Int) x)), .int (zI (min (c.t : Int) y)), .int (zI 0)])
      rw [← hA2] at hO2
      have hcd2 := hO2.at (List.mem_cons_self ..)
      have hq2 := hO2.at (q := q) (List.mem_cons_of_mem _ (List.mem_cons_self ..))
      have hll : (cs.map ChD.a).length = cs.length := List.length_map _
      refine wv_ladd f80_74 hq2 hcd2 (by decide +kernel) (by omega) (by omega) (by simp) (fun c1 k1 s1 hlg => ?_)
      have hO3 := Own.lst (L1 := [(ca, vO 2 [.int (zI 3), .int (zI c.n), .int (zI (max (c.f : Int) x)), .int (zI (min (c.t : Int) y)), .int (zI 0)])]) (c := vL c1 (cs.map ChD.a ++ [ca])) (kc := k1) (ks := s1) hO2
      have hO4 := Own.frz hO3
      have e1 := Own.ext_fz hO3
      have enw : okCh (fz F ca (vO 2 [.int (zI 3), .int (zI c.n), .int (zI (max (c.f : Int) x)), .int (zI (min (c.t : Int) y)), .int (zI 0)])) (ca, clip x y c) := by
        refine ⟨?_, by show 3 ≤ 4; omega, h2, by show (max (c.f : Int) x).toNat < 100; omega, by show (min (c.t : Int) y).toNat < 100; omega⟩
        show fz F ca _ ca = some (vO 2 [.int (zI 3), .int (zI c.n), .int (zI ((max (c.f : Int) x).toNat : Int)), .int (zI ((min (c.t : Int) y).toNat : Int)), .int (zI 0)])
        rw [show ((max (c.f : Int) x).toNat : Int) = max (c.f : Int) x by omega, show ((min (c.t : Int) y).toNat : Int) = min (c.t : Int) y by omega]
        exact fz_self
      have hO5 : Own (aLst A2 q (vL c1 (cs.map ChD.a ++ [ca])) k1 s1) (fz F ca (vO 2 [.int (zI 3), .int (zI c.n), .int (zI (max (c.f : Int) x)), .int (zI (min (c.t : Int) y)), .int (zI 0)])) ((q, vL c1 ((cs ++ [((ca, clip x y c) : ChD)]).map ChD.a)) :: L) := by
        rw [List.map_append]
        exact hO4
      refine wv_s f80_77 rfl (fun _ => rfl) ?_
      refine wv_inc4 f80_78 ?_
      refine wv_s (pc' := 11) f80_81 rfl (fun _ => rfl) ?_
      refine (c80_l hx hy hlen k (i + 1) c1 _ _ (cs ++ [((ca, clip x y c) : ChD)]) _ (by omega) (e1 _ _ hw) (fun c hc => (hk c hc).ext e1) hO5 (fun z hz => ?_) (by simp; omega) (by
        have := hlg.2.2.2
        rw [hll] at this
        simp
        omega)).up (Nat.le_refl _) (fun o A' hq' => ?_)
      · rcases List.mem_append.mp hz with hz | hz
        · exact (hcs z hz).ext e1
        · rw [List.mem_singleton.mp hz]
          exact enw
      · obtain ⟨v, g1, lc', cs', F', g2, g3, g4, g5, g6, g7, g8, g9⟩ := hq'
        refine ⟨v, g1, lc', cs', F', g2, e1.trans g3, g4, ?_, g6, ?_, ?_, g9⟩
        · rw [g5, hcd, List.filter_cons_of_pos (p := fun c : ChD => c.ov x y) hb, List.map_append, List.append_assoc]
          rfl
        · have a1 := hlg.2.1
          rw [hA2] at g7
          have g7' : 5 * A'.2.1 + c1 + 5 * (cs ++ [((ca, clip x y c) : ChD)]).length ≤ 5 * (A.2.1 + 1 + k1) + lc' + 5 * cs'.length := g7
          simp at g7'
          omega
        · have a1 := hlg.2.2.1
          rw [hA2] at g8
          have g8' : A'.2.2 + 4 * c1 + 5 * (cs ++ [((ca, clip x y c) : ChD)]).length ≤ A.2.2 + gN 2 + s1 + 4 * lc' + 5 * cs'.length := g8
          rw [show gN 2 = 5 from by decide +kernel] at g8'
          simp at g8'
          omega
theorem c80 {wl wc : Nat} {ws : List ChD} {A : gA} {F : Nat → Option vC} (hx : 0 ≤ x ∧ x ≤ 100) (hy : -1 ≤ y ∧ y ≤ 99) (hlen : ws.length < 2600) (hw : F wl = some (vL wc (ws.map ChD.a))) (hk : ∀ c, c ∈ ws → okCh F c) (hO : Own A F L) :
    Wc sc 7 80 [.ref wl, .int (zI x), .int (zI y)] A (fun o A' => ∃ v, o = .inl (some v) ∧ ∃ q lc', ∃ cs' : List ChD, ∃ F', v = .ref q ∧ Ext F F' ∧ Own A' F' ((q, vL lc' (cs'.map ChD.a)) :: L) ∧ cs'.map Prod.snd = (ws.filter (fun c => c.ov x y)).map (clip x y) ∧ (∀ c, c ∈ cs' → okCh F' c) ∧
      5 * A'.2.1 ≤ 5 * A.2.1 + 5 + lc' + 5 * cs'.length ∧ A'.2.2 ≤ A.2.2 + 3 + 4 * lc' + 5 * cs'.length ∧ lc' ≤ 10 + 2 * cs'.length) := by
  show Wv sc 7 80 0 [some (.ref wl), some (.int (zI x)), some (.int (zI y)), none, none, none] [] A _
  refine wv_newL f80_0 (fun q hq => ?_)
  refine wv_s f80_3 rfl (fun _ => rfl) ?_
  have hO1 := hO.new (n := 3) (c := vW) hq
  have f1 := hO1.at (List.mem_cons_self ..)
  refine wv_linit f80_4 (by assumption) (by omega) (by simp) ?_
  refine wv_st3 f80_7 rfl (fun _ _ => rfl) ?_
  refine wv_icon f80_8 ?_
  refine wv_st4 f80_9 rfl (fun _ _ => rfl) ?_
  have hO2 := hO1.put (L1 := []) (c := vL 0 [])
  refine (c80_l (L := L) hx hy hlen ws.length 0 0 _ F [] none (by omega) hw hk hO2 (fun c hc => by cases hc) (by simp) (by simp)).up (Nat.le_refl _) (fun o A' hq' => ?_)
  obtain ⟨v, g1, lc', cs', F', g2, g3, g4, g5, g6, g7, g8, g9⟩ := hq'
  refine ⟨v, g1, q, lc', cs', F', g2, g3, g4, g5, g6, ?_, ?_, g9⟩
  · have g7' : 5 * A'.2.1 + 0 + 5 * 0 ≤ 5 * (A.2.1 + 1) + lc' + 5 * cs'.length := g7
    omega
  · have g8' : A'.2.2 + 4 * 0 + 5 * 0 ≤ A.2.2 + 3 + 4 * lc' + 5 * cs'.length := g8
    omega
end C13
