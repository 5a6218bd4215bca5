/-! THE START, and the whole run of the law -/
def opC (k : Nat) : Nat := if k = 0 then 43 else if k = 1 then 62 else 60
section TZ
variable {sc : gSc} {d mm pc i9 len b9 : Nat} {ls : gL} {st : List Value} {A A0 : gA} {Q : gO → gA → Prop} {F : Nat → Option vC} {L : List (Nat × vC)} {o q qo nF C S : Nat} {fo : Nat → Int32} {f : Ls FamD} {w : Ls WrD} {s : Ls SnD} {c : Ls CuD} {b : Ls BkD} {fi : Nat × FiD} {y : Ls ChD} {me : Option MeD} {ct : CtD}
theorem wv_chr {k : Nat} (hk : k < 3) (hf : gFetch mm pc = some (.invokevirtual i9, len, 903, b9)) (h8 : st.length ≤ 8) (hn : Wv sc d mm (pc + 3) ls (.int (zI (opC k)) :: st) A Q) : Wv sc d mm pc ls (.int (zI k) :: .retAddr 1 :: st) A Q := fun h hR =>
  wq_primV hf (by decide) (st' := .int (zI (opC k)) :: st) (h' := h) (by
    rcases (show k = 0 ∨ k = 1 ∨ k = 2 by omega) with rfl | rfl | rfl <;> simp only [gPrim, if_pos h8] <;> rfl) (hn h hR)
theorem opC_ok {k : Nat} (hk : k < 3) : (opC k = 43 ∨ opC k = 62 ∨ opC k = 60) ∧ vp_nar .char (zI (opC k)) = zI (opC k) ∧ ((zI (opC k)).toUInt32 % 65536).toInt32 = zI (opC k) := by
  rcases (show k = 0 ∨ k = 1 ∨ k = 2 by omega) with rfl | rfl | rfl
  · exact ⟨.inl rfl, by decide, by decide⟩
  · exact ⟨.inr (.inl rfl), by decide, by decide⟩
  · exact ⟨.inr (.inr rfl), by decide, by decide⟩
theorem okO.set1 {c0 c1 : vC} (h : okO A F [(q, c0)] o f w s c b fi y me ct) : okO (aPut A q c1) F [(q, c1)] o f w s c b fi y me ct := by
  obtain ⟨R, h1, h2⟩ := h.outL
  exact h2 _ _ (Own.put (L1 := []) h1)
theorem six {α : Type} {a b c d e f : α} : [a, b, c, d, e, f].Perm [d, e, f, c, b, a] :=
  (List.perm_append_comm (l₁ := [a, b, c]) (l₂ := [d, e, f])).trans (List.Perm.append_left [d, e, f] (List.reverse_perm [a, b, c]).symm)
theorem ts_l (hs : sc.1 ≤ 260) (hn3 : nF ≤ 3) {wa sa ca ba : Nat}
    (hQ : ∀ A' F' f' fo' x5, okO A' F' [(qo, vN .char 3 fo')] o f' (wa, 0, []) (sa, 0, []) (ca, 0, []) (ba, 0, []) fi y none ct0 → f'.2.2.length = nF → GI [] 0 f'.2.2 [] [] none → OpI fo' f'.2.2 → 5 * A'.2.1 ≤ 5 * C + 70 * nF → A'.2.2 ≤ S + 100 * nF → Wv sc 16 0 87 [some (.retAddr 0), some (.ref o), some (.int (zI nF)), some (.ref qo), some (.int (zI 1)), x5, none, none, none, none, none, none, none, none, none, none, none, none, none, none, none] [] A' Q) :
    ∀ (n i : Nat) (A : gA) (F : Nat → Option vC) (f : Ls FamD) (fo : Nat → Int32), i + n = nF → okO A F [(qo, vN .char 3 fo)] o f (wa, 0, []) (sa, 0, []) (ca, 0, []) (ba, 0, []) fi y none ct0 → f.2.2.length = i → GI [] 0 f.2.2 [] [] none → OpI fo f.2.2 → 5 * A.2.1 ≤ 5 * C + 70 * i → A.2.2 ≤ S + 100 * i →
    Wv sc 16 0 27 [some (.retAddr 0), some (.ref o), some (.int (zI nF)), some (.ref qo), some (.int (zI 1)), some (.int (zI i)), none, none, none, none, none, none, none, none, none, none, none, none, none, none, none] [] A Q
  | 0, i, A, F, f, fo, hin, hO, hfl, hG, hop, hC, hS => by
    obtain rfl : i = nF := by omega
    refine wv_s f0_27 rfl (fun _ => rfl) ?_
    refine wv_s f0_29 rfl (fun _ => rfl) ?_
    refine wv_cT_ge f0_30 (by omega) (by omega) (by omega) ?_
    exact hQ A F f fo _ hO hfl hG hop hC hS
  | n + 1, i, A, F, f, fo, hin, hO, hfl, hG, hop, hC, hS => by
    have h0 : A.1 qo = some (vN .char 3 fo) := hO.inL (p := (qo, vN .char 3 fo)) (List.mem_singleton.mpr rfl)
    refine wv_s f0_27 rfl (fun _ => rfl) ?_
    refine wv_s f0_29 rfl (fun _ => rfl) ?_
    refine wv_cF_ge f0_30 (by omega) (by omega) (by omega) ?_
    refine wv_s f0_33 rfl (fun _ => rfl) ?_
    refine wv_s f0_34 rfl (fun _ => rfl) ?_
    refine wv_s f0_36 rfl (fun _ => rfl) ?_
    refine wv_s f0_38 rfl (fun _ => rfl) ?_
    refine wv_icon f0_39 ?_
    refine wv_s f0_40 rfl (fun _ => rfl) ?_
    refine wv_iadd f0_42 ?_
    rw [show (1 : Int) + (i : Int) = ((1 + i : Nat) : Int) by omega]
    refine wv_icon f0_43 ?_
    refine wv_resS f0_44 (by decide) (by simp) (by simp) (by decide +kernel) (c1 (m := 3) hs (by omega) (by omega)) (by omega) (fun v1 A1 e1 => ?_)
    obtain ⟨⟨k3, hk3, rfl⟩, eA⟩ := e1
    rw [eA]
    obtain ⟨o1, o2, o3⟩ := opC_ok hk3
    refine wv_chr hk3 f0_47 (by simp) ?_
    refine wv_castore (j := i) f0_50 (h0) (by first | rfl | omega) (by omega) (by omega) ?_
    rw [o2]
    have hO1 := okO.set1 (c1 := vN .char 3 (upd fo i (zI (opC k3)))) hO
    have h1 : (aPut A qo (vN .char 3 (upd fo i (zI (opC k3))))).1 qo = some (vN .char 3 (upd fo i (zI (opC k3)))) := hO1.inL (p := (qo, vN .char 3 (upd fo i (zI (opC k3))))) (List.mem_singleton.mpr rfl)
    have d0 : Wc sc 10 2 [.ref o, .int (zI 0), .int (zI (opC k3)), .int (zI 0), .int (zI 0), .int (zI 0), .int (zI 0)] (aPut A qo (vN .char 3 (upd fo i (zI (opC k3))))) (fun v A' => ∃ v9, v = .inl (some v9) ∧ (v9 = .int (zI f.2.2.length) ∧ ∃ g F' c', g.g = f.2.2.length ∧ g.o = opC k3 ∧ (∀ l, l ∈ g.lv → nilLv l) ∧ Ext F F' ∧ okO A' F' [(qo, vN .char 3 (upd fo i (zI (opC k3))))] o (f.1, c', f.2.2 ++ [g]) (wa, 0, []) (sa, 0, []) (ca, 0, []) (ba, 0, []) fi y none ct0 ∧ 5 * A'.2.1 ≤ 5 * (aPut A qo (vN .char 3 (upd fo i (zI (opC k3))))).2.1 + 70 ∧ A'.2.2 ≤ (aPut A qo (vN .char 3 (upd fo i (zI (opC k3))))).2.2 + 100)) :=
      c2_w (c13_0 hO1.ob rfl o3 (c19 hO1 (by omega) o1) (fun v A' hv => .inl ⟨_, hv.1⟩) (d := 9) (by omega)) (fun v A' hv => .inl ⟨_, hv.1⟩) (by omega) (fun v A' hv => ⟨_, by rw [hv.1]; rfl, rfl, hv.2⟩)
    refine wv_s f0_51 rfl (fun _ => rfl) ?_
    refine wv_zF_eq f0_53 (by omega) (by omega) ?_
    refine wv_s f0_56 rfl (fun _ => rfl) ?_
    refine wv_icon f0_57 ?_
    refine wv_s f0_58 rfl (fun _ => rfl) ?_
    refine wv_s f0_59 rfl (fun _ => rfl) ?_
    refine wv_caload (j := i) f0_61 (h1) (by first | rfl | omega) (by omega) (by omega) ?_
    rw [show upd fo i (zI (opC k3)) i = zI (opC k3) from upd_self]
    refine wv_icon f0_62 ?_
    refine wv_icon f0_63 ?_
    refine wv_icon f0_64 ?_
    refine wv_icon f0_65 ?_
    refine wv_resS f0_66 (by decide) (by simp) (by simp) (by decide +kernel) (d0) (by omega) (fun v9 A2 hv => ?_)
    obtain ⟨rfl, g, F', c', g1, g2, g3, e1, hO2, hC2, hS2⟩ := hv
    have hC2' : 5 * A2.2.1 ≤ 5 * A.2.1 + 70 := hC2
    have hS2' : A2.2.2 ≤ A.2.2 + 100 := hS2
    refine wv_s f0_69 rfl (fun _ => rfl) ?_
    refine wv_cF_ne f0_71 (by omega) (by omega) (by omega) ?_
    refine wv_icon f0_74 ?_
    refine wv_s (pc' := 79) f0_75 rfl (fun _ => rfl) ?_
    refine wv_st4 f0_79 rfl (fun _ _ => rfl) ?_
    refine wv_inc5 f0_81 ?_
    refine wv_s (pc' := 27) f0_84 rfl (fun _ => rfl) ?_
    refine ts_l hs hn3 hQ n (i + 1) A2 F' _ _ (by omega) hO2 (by show (f.2.2 ++ [g]).length = _; rw [List.length_append]; show f.2.2.length + 1 = _; omega) (hG.addF g1 (fun l hl => (g3 l hl).2.1)) (fun i9 x hx => ?_) (by omega) (by omega)
    have hx' : (f.2.2 ++ [g])[i9]? = some x := hx
    by_cases hi9 : i9 < f.2.2.length
    · rw [List.getElem?_append_left hi9] at hx'
      rw [upd_ne (by omega)]
      exact hop i9 x hx'
    · have h9 := (List.getElem?_eq_some_iff.mp hx').1
      rw [List.length_append] at h9
      have h10 : i9 < f.2.2.length + 1 := h9
      obtain rfl : i9 = i := by omega
      rw [List.getElem?_append_right (by omega), show i9 - f.2.2.length = 0 by omega] at hx'
      cases hx'
      rw [upd_self, g2]
theorem ts (hs : sc.1 ≤ 260) : Wv sc 16 0 0 (gStart 0 [.retAddr 0]) [] (fun _ => none, 0, 0) (fun v A' => v = .inl (some (.int (bI true))) ∧ A'.2.1 ≤ 385000 ∧ A'.2.2 ≤ 6010000) := by
  obtain ⟨A, hA⟩ : ∃ A : gA, A = (fun _ => none, 0, 0) := ⟨_, rfl⟩
  rw [← hA]
  have hO0 : Own A (fun _ => none) [] := ⟨fun q x h => (by cases h), fun p hp => (by cases hp), List.nodup_nil⟩
  have hA2 : A.2.1 = 0 ∧ A.2.2 = 0 := by rw [hA]; exact ⟨rfl, rfl⟩
  show Wv sc 16 0 0 [some (.retAddr 0), none, none, none, none, none, none, none, none, none, none, none, none, none, none, none, none, none, none, none, none] [] A _
  have hg11 : gN 11 ≤ 100 := by decide
  refine wv_newZ f0_0 (by decide) (by decide) (zs := [.null, .null, .null, .null, .null, .null, .null, .null, .int 0, .int 0, .int 0, .int 0, .int 0, .int 0, .int 0, .int 0, .int 0, .int 0]) (by rfl) (fun o hq => ?_)
  have hO1 := hO0.new (n := gN 11) (c := vO 11 [.null, .null, .null, .null, .null, .null, .null, .null, .int 0, .int 0, .int 0, .int 0, .int 0, .int 0, .int 0, .int 0, .int 0, .int 0]) hq
  refine wv_s f0_3 rfl (fun _ => rfl) ?_
  refine wv_effI f0_4 (by decide) (by simp) (by simp) (by decide +kernel) (by rfl) (c18 hO1) (by omega) (fun A1 hA1 => ?_)
  obtain ⟨fa, wa, sa, ca, ba, fi, ya, hO2, hC2, hS2⟩ := hA1
  have hC2' : A1.2.1 = A.2.1 + 1 + 7 := hC2
  have hS2' : A1.2.2 = A.2.2 + gN 11 + 21 := hS2
  refine wv_st1 f0_7 rfl (fun _ _ => rfl) ?_
  refine wv_icon f0_8 ?_
  refine wv_s f0_9 rfl (fun _ => rfl) ?_
  refine wv_icon f0_10 ?_
  refine wv_icon f0_11 ?_
  refine wv_resS f0_12 (by decide) (by simp) (by simp) (by decide +kernel) (c1 (i := 0) (m := 2) hs (by omega) (by omega)) (by omega) (fun v1 A9 e1 => ?_)
  obtain ⟨⟨p, hp, rfl⟩, eA⟩ := e1
  rw [eA]
  refine wv_iadd f0_15 ?_
  rw [show (1 : Int) + (p : Int) = ((p + 1 : Nat) : Int) by omega]
  refine wv_st2 f0_16 rfl (fun _ _ => rfl) ?_
  refine wv_icon f0_17 ?_
  refine wv_newarr (n := 3) f0_18 (by first | rfl | omega) (by omega) (fun qo hqo => ?_)
  have hO3 := okO.push hO2.2 (hO2.1.new (n := 3) (c := vN .char 3 (fun _ => 0)) hqo)
  refine wv_st3 f0_20 rfl (fun _ _ => rfl) ?_
  refine wv_icon f0_21 ?_
  refine wv_st4 f0_22 rfl (fun _ _ => rfl) ?_
  refine wv_icon f0_24 ?_
  refine wv_st5 f0_25 rfl (fun _ _ => rfl) ?_
  refine ts_l (C := A1.2.1 + 1) (S := A1.2.2 + 3) hs (by omega) (fun A4 F4 f4 fo x5 hO4 hfl hG hop hC4 hS4 => ?_) (p + 1) 0 _ _ (fa, 0, []) (fun _ => 0) (by omega) hO3 rfl GI.new0 (fun i g hg => by simp at hg) (by show 5 * (A1.2.1 + 1) ≤ _; omega) (by show A1.2.2 + 3 ≤ _; omega)
  refine wv_sip f0_87 (by decide) ?_
  refine wv_anew (n := 200) f0_90 (by decide) (by first | rfl | omega) (by omega) (fun qa hqa => ?_)
  have hO5 := okO.push hO4.2 (hO4.1.new (n := 200) (c := vR (gComp 2) 200 (fun _ => none)) hqa)
  refine wv_st5 f0_93 rfl (fun _ _ => rfl) ?_
  refine wv_icon f0_95 ?_
  refine wv_newarr (n := 1) f0_96 (by first | rfl | omega) (by omega) (fun qm hqm => ?_)
  have hO6 := okO.push hO5.2 (hO5.1.new (n := 1) (c := vN .int 1 (fun _ => 0)) hqm)
  refine wv_st6 f0_98 rfl (fun _ _ => rfl) ?_
  refine wv_bip f0_100 (by decide) ?_
  refine wv_newarr (n := 40) f0_102 (by first | rfl | omega) (by omega) (fun qh hqh => ?_)
  have hO7 := okO.push hO6.2 (hO6.1.new (n := 40) (c := vN .int 40 (fun _ => 0)) hqh)
  refine wv_st7 f0_104 rfl (fun _ _ => rfl) ?_
  refine wv_bip f0_106 (by decide) ?_
  refine wv_newarr (n := 40) f0_108 (by first | rfl | omega) (by omega) (fun qt hqt => ?_)
  have hO8 := okO.push hO7.2 (hO7.1.new (n := 40) (c := vN .int 40 (fun _ => 0)) hqt)
  refine wv_st8 f0_110 rfl (fun _ _ => rfl) ?_
  refine wv_icon f0_112 ?_
  refine wv_st9 f0_113 rfl (fun _ _ => rfl) ?_
  refine wv_icon f0_115 ?_
  refine wv_st10 f0_116 rfl (fun _ _ => rfl) ?_
  refine wv_icon f0_118 ?_
  refine wv_st11 f0_119 rfl (fun _ _ => rfl) ?_
  refine wv_icon f0_121 ?_
  refine wv_newarr (n := 3) f0_122 (by first | rfl | omega) (by omega) (fun ql hql => ?_)
  have hO9 := okO.push hO8.2 (hO8.1.new (n := 3) (c := vN .int 3 (fun _ => 0)) hql)
  refine wv_st12 f0_124 rfl (fun _ _ => rfl) ?_
  refine wv_icon f0_126 ?_
  refine wv_st13 f0_127 rfl (fun _ _ => rfl) ?_
  have eG : allG [] = fun _ => none := by
    funext k
    cases k <;> rfl
  obtain ⟨R, r1, r2⟩ := hO9.outL
  have hO10 := r2 _ (lwL qm qa (fun _ => 0) [] (KL qo qh qt ql fo (fun _ => 0) (fun _ => 0) (fun _ => 0))) (r1.perm (List.Perm.append_right R (by
    unfold lwL
    rw [eG]
    exact six)))
  refine tl (Q := fun v A' => v = .inl (some (.int (bI true))) ∧ A'.2.1 ≤ 385000 ∧ A'.2.2 ≤ 6010000) hs (by omega) (by omega) 120 0 _ (A4.2.1 + 5) (A4.2.2 + 284) 0 0 0 _ _ _ _ _ _ _ (by omega) ⟨F4, f4, (wa, 0, []), (sa, 0, []), ca, 0, (ba, 0, []), (fi, fi0), (ya, 0, []), none, ct0, fun _ => 0, [], fun _ => 0, fun _ => 0, fun _ => 0, [], hO10, rfl, ⟨rfl, fun i r w h => by simp at h⟩, hG, fun j => ⟨by show (0 : Nat) < 8; omega, fun b hb => by cases hb⟩, HeldI.nil, rfl, rfl, ⟨by show (0 : Nat) ≤ 3; omega, fun β bk h => by simp at h⟩, rfl, ⟨Nat.zero_le _, Nat.zero_le _, fun m hm => (by cases hm), Nat.zero_le _, Nat.zero_le _, Nat.zero_le _, Nat.zero_le _, Nat.zero_le _, Nat.le_refl _, Nat.le_refl _⟩, hfl, hop, by show A4.2.1 + 1 + 1 + 1 + 1 + 1 ≤ _; omega, by show A4.2.2 + 200 + 1 + 40 + 40 + 3 ≤ _; omega⟩ (fun A' hM mk9 bM y14 y15 y16 y17 y18 y19 y20 hL' => ?_)
  exact (te (by omega) hL').up (Nat.le_refl _) (fun v A'' hv => ⟨hv.1, by have := hv.2.1; omega, by have := hv.2.2; omega⟩)
end TZ
theorem gLaw_r9 (sc : gSc) (h : sc.1 ≤ 260) : ∃ (n : Nat) (h' : gH), gRun sc n 30 0 0 (gStart 0 [.retAddr 0]) [] (0, 0, []) = some (.inl (some (.int 1)), h') ∧ h'.1 ≤ 385000 ∧ h'.2.1 ≤ 6010000 := by
  have h1 := (ts (sc := sc) h).up (d' := 30) (by omega) (fun _ _ h => h)
  have hR : Rp (0, 0, []) (fun _ => none, 0, 0) := ⟨fun q c x hq => (by cases hq), fun q c xs hq => (by cases hq), fun q q' c c' xs xs' md md' b k k' hq => (by cases hq), rfl, rfl⟩
  obtain ⟨n, o, h', hr, A', hR', rfl, hC, hS⟩ := h1 (0, 0, []) hR
  refine ⟨n, h', hr, ?_, ?_⟩
  · rw [hR'.2.2.2.1]
    exact hC
  · rw [hR'.2.2.2.2]
    exact hS
