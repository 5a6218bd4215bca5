/-! isWhole -/
theorem nxU_at {P : Nat → Bool} {b : Nat} (hb : P b = true) : ∀ {n a : Nat}, (∀ k, a ≤ k → k < b → P k = false) → a ≤ b → b < a + n → nxU P n a = some b
  | 0, a, _, h1, h2 => by omega
  | n + 1, a, h, h1, h2 => by
    show (if P a = true then some a else nxU P n (a + 1)) = some b
    by_cases he : a = b
    · rw [he, if_pos hb]
    · rw [if_neg (by rw [h a (Nat.le_refl _) (by omega)]; decide)]
      exact nxU_at hb (fun k h3 h4 => h k (by omega) h4) (by omega) (by omega)
theorem nxU_no {P : Nat → Bool} : ∀ {n a : Nat}, (∀ k, a ≤ k → k < a + n → P k = false) → nxU P n a = none
  | 0, a, _ => rfl
  | n + 1, a, h => by
    show (if P a = true then some a else nxU P n (a + 1)) = none
    rw [if_neg (by rw [h a (Nat.le_refl _) (by omega)]; decide)]
    exact nxU_no (fun k h3 h4 => h k (by omega) (by omega))
theorem nxD_at {P : Nat → Bool} {b : Nat} (hb : P b = true) : ∀ {n : Nat}, (∀ k, b < k → k < n → P k = false) → b < n → nxD P n = some b
  | 0, _, h => by omega
  | n + 1, h, h2 => by
    show (if P n = true then some n else nxD P n) = some b
    by_cases he : n = b
    · rw [he, if_pos hb]
    · rw [if_neg (by rw [h n (by omega) (by omega)]; decide)]
      exact nxD_at hb (fun k h3 h4 => h k h3 (by omega)) (by omega)
theorem nxD_no {P : Nat → Bool} : ∀ {n : Nat}, (∀ k, k < n → P k = false) → nxD P n = none
  | 0, _ => rfl
  | n + 1, h => by
    show (if P n = true then some n else nxD P n) = none
    rw [if_neg (by rw [h n (by omega)]; decide)]
    exact nxD_no (fun k h3 => h k (by omega))
theorem vlE_none {o g : Nat} {x : Int} : ∀ {l : List WrD}, (∀ w, w ∈ l → w.on x = false) → vlE o g x l = none := by
  intro l h
  have e : aE g x l.reverse = [] := by
    unfold aE
    rw [List.map_eq_nil_iff, List.filter_eq_nil_iff]
    intro a ha hb
    have := h a (List.mem_reverse.mp ha)
    simp [this] at hb
  unfold vlE
  rw [e]
  rfl
section WH
variable {sc : gSc} {d : Nat} {A : gA} {F : Nat → Option vC} {L : List (Nat × vC)} {o : Nat} {f : Ls FamD} {w : Ls WrD} {s : Ls SnD} {c : Ls CuD} {b : Ls BkD} {fi : Nat × FiD} {fd : FiD} {y : Ls ChD} {me : Option MeD} {ct : CtD} {g : FamD} {i j m n k qm qa qo q ci ca cc fa9 : Nat} {x z p : Int} {fm fo : Nat → Int32} {rows : List LrD} {K : List (Nat × vC)} {a2 a3 a4 a5 : Int32}
theorem mv_R {α : Type} {r : Option Nat} {e : Int} {x : CuD} {P : α → CuD → gA → Prop} : isR (fun v A' => ∃ (fd' : α) (x' : CuD), P fd' x' A' ∧ A'.2 = A.2 ∧ mvR r e x v x') := by
  rintro v A' ⟨fd', x', -, -, h⟩
  rcases h with ⟨k, -, h, -⟩ | ⟨-, h, -⟩
  · exact .inl ⟨_, h⟩
  · exact .inl ⟨_, h⟩
theorem dn_s (hO : okO A F L o f w s (ca, cc, [(q, ci, g.a, m, p)]) b (fa9, fd) y me ct) (hgm : g ∈ f.2.2) (hp : p + 1 = (i : Nat)) (hn : i + n = 100) (hr : nxU (fun k => (anF g w.2.2 m k).1) n i = some k) : Wc sc 7 2 [.ref o, .int (zI 9), .int (zI ci), .int a2, .int a3, .int a4, .int a5] A (fun v A' => ∃ v9, v = .inl (some v9) ∧ (v9 = .int (zI (k : Nat)) ∧ ∃ fd', okO A' F L o f w s (ca, cc, [(q, ci, g.a, m, (k : Int))]) b (fa9, fd') y me ct ∧ A'.2 = A.2)) := by
  have h1 := c78 (sc := sc) hO hgm rfl hp hn
  refine c2_w (c13_9 hO.ob rfl h1 mv_R (d := 6) (by omega)) mv_R (by omega) (fun v A' hv => ?_)
  obtain ⟨fd', x', e1, e2, e3⟩ := hv
  rcases e3 with ⟨k', e3, rfl, rfl⟩ | ⟨e3, -⟩
  · have e4 : some k' = some k := e3.symm.trans hr
    cases e4
    exact ⟨_, rfl, rfl, fd', e1, e2⟩
  · have e4 : none = some k := e3.symm.trans hr
    cases e4
theorem dn_n (hO : okO A F L o f w s (ca, cc, [(q, ci, g.a, m, p)]) b (fa9, fd) y me ct) (hgm : g ∈ f.2.2) (hp : p + 1 = (i : Nat)) (hn : i + n = 100) (hr : nxU (fun k => (anF g w.2.2 m k).1) n i = none) : Wc sc 7 2 [.ref o, .int (zI 9), .int (zI ci), .int a2, .int a3, .int a4, .int a5] A (fun v A' => ∃ v9, v = .inl (some v9) ∧ (v9 = .int (zI (-1)) ∧ ∃ fd', okO A' F L o f w s (ca, cc, [(q, ci, g.a, m, 100)]) b (fa9, fd') y me ct ∧ A'.2 = A.2)) := by
  have h1 := c78 (sc := sc) hO hgm rfl hp hn
  refine c2_w (c13_9 hO.ob rfl h1 mv_R (d := 6) (by omega)) mv_R (by omega) (fun v A' hv => ?_)
  obtain ⟨fd', x', e1, e2, e3⟩ := hv
  rcases e3 with ⟨k', e3, -⟩ | ⟨-, rfl, rfl⟩
  · have e4 : some k' = none := e3.symm.trans hr
    cases e4
  · exact ⟨_, rfl, rfl, fd', e1, e2⟩
theorem dn_e (hO : okO A F L o f w s (ca, cc, [(q, ci, g.a, m, 100)]) b (fa9, fd) y me ct) : Wc sc 7 2 [.ref o, .int (zI 9), .int (zI ci), .int a2, .int a3, .int a4, .int a5] A (fun v A' => ∃ v9, v = .inl (some v9) ∧ (v9 = .int (zI (-1)) ∧ okO A' F L o f w s (ca, cc, [(q, ci, g.a, m, 100)]) b (fa9, fd) y me ct ∧ A'.2 = A.2)) := by
  have h1 := c78_e (sc := sc) hO rfl
  refine c2_w (c13_9 hO.ob rfl h1 (fun v A' hv => .inl ⟨_, hv.1⟩) (d := 6) (by omega)) (fun v A' hv => .inl ⟨_, hv.1⟩) (by omega) (fun v A' hv => ?_)
  obtain ⟨rfl, e1, e2⟩ := hv
  exact ⟨_, rfl, rfl, e1, e2⟩
theorem dp_s (hO : okO A F L o f w s (ca, cc, [(q, ci, g.a, m, p)]) b (fa9, fd) y me ct) (hgm : g ∈ f.2.2) (hp : p = (i : Nat)) (hr : nxD (fun k => (anF g w.2.2 m k).1) i = some k) : Wc sc 7 2 [.ref o, .int (zI 10), .int (zI ci), .int a2, .int a3, .int a4, .int a5] A (fun v A' => ∃ v9, v = .inl (some v9) ∧ (v9 = .int (zI (k : Nat)) ∧ ∃ fd', okO A' F L o f w s (ca, cc, [(q, ci, g.a, m, (k : Int))]) b (fa9, fd') y me ct ∧ A'.2 = A.2)) := by
  have h1 := c84 (sc := sc) hO hgm rfl hp
  refine c2_w (c13_10 hO.ob rfl h1 mv_R (d := 6) (by omega)) mv_R (by omega) (fun v A' hv => ?_)
  obtain ⟨fd', x', e1, e2, e3⟩ := hv
  rcases e3 with ⟨k', e3, rfl, rfl⟩ | ⟨e3, -⟩
  · have e4 : some k' = some k := e3.symm.trans hr
    cases e4
    exact ⟨_, rfl, rfl, fd', e1, e2⟩
  · have e4 : none = some k := e3.symm.trans hr
    cases e4
theorem dp_n (hO : okO A F L o f w s (ca, cc, [(q, ci, g.a, m, p)]) b (fa9, fd) y me ct) (hgm : g ∈ f.2.2) (hp : p = (i : Nat)) (hr : nxD (fun k => (anF g w.2.2 m k).1) i = none) : Wc sc 7 2 [.ref o, .int (zI 10), .int (zI ci), .int a2, .int a3, .int a4, .int a5] A (fun v A' => ∃ v9, v = .inl (some v9) ∧ (v9 = .int (zI (-1)) ∧ ∃ fd', okO A' F L o f w s (ca, cc, [(q, ci, g.a, m, -1)]) b (fa9, fd') y me ct ∧ A'.2 = A.2)) := by
  have h1 := c84 (sc := sc) hO hgm rfl hp
  refine c2_w (c13_10 hO.ob rfl h1 mv_R (d := 6) (by omega)) mv_R (by omega) (fun v A' hv => ?_)
  obtain ⟨fd', x', e1, e2, e3⟩ := hv
  rcases e3 with ⟨k', e3, -⟩ | ⟨-, rfl, rfl⟩
  · have e4 : some k' = none := e3.symm.trans hr
    cases e4
  · exact ⟨_, rfl, rfl, fd', e1, e2⟩
theorem dp_e (hO : okO A F L o f w s (ca, cc, [(q, ci, g.a, m, -1)]) b (fa9, fd) y me ct) : Wc sc 7 2 [.ref o, .int (zI 10), .int (zI ci), .int a2, .int a3, .int a4, .int a5] A (fun v A' => ∃ v9, v = .inl (some v9) ∧ (v9 = .int (zI (-1)) ∧ okO A' F L o f w s (ca, cc, [(q, ci, g.a, m, -1)]) b (fa9, fd) y me ct ∧ A'.2 = A.2)) := by
  have h1 := c84_e (sc := sc) hO rfl
  refine c2_w (c13_10 hO.ob rfl h1 (fun v A' hv => .inl ⟨_, hv.1⟩) (d := 6) (by omega)) (fun v A' hv => .inl ⟨_, hv.1⟩) (by omega) (fun v A' hv => ?_)
  obtain ⟨rfl, e1, e2⟩ := hv
  exact ⟨_, rfl, rfl, e1, e2⟩
theorem a2_v {a6 : Int32} (hO : okO A F L o f w s (ca, cc, [(q, ci, g.a, m, (k : Int))]) b (fa9, fd) y me ct) (hgm : g ∈ f.2.2) (hk : k < 100) (hP : (anF g w.2.2 m k).1 = true) : Wc sc 7 8 [.ref o, .int (zI 2), .int (zI ci), .int a2, .int a3, .int a4] A (fun v A' => ∃ v9, v = .inl (some v9) ∧ (v9 = .int (anF g w.2.2 m k).2.2 ∧ ∃ fd', okO A' F L o f w s (ca, cc, [(q, ci, g.a, m, (k : Int))]) b (fa9, fd') y me ct ∧ A'.2 = A.2)) := by
  have h1 := c96 (sc := sc) hO hgm rfl ⟨Int.natCast_nonneg k, by show (k : Int) < 100; omega⟩
  have hr : ∀ v A', (∃ A1, okO A1 F L o f w s (ca, cc, [(q, ci, g.a, m, (k : Int))]) b (fa9, anF g w.2.2 m k) y me ct ∧ A1.2 = A.2 ∧ rdR (anF g w.2.2 m k) v A1 A') → v = .inl (some (.int (anF g w.2.2 m k).2.2)) ∧ ∃ fd', okO A' F L o f w s (ca, cc, [(q, ci, g.a, m, (k : Int))]) b (fa9, fd') y me ct ∧ A'.2 = A.2 := by
    rintro v A' ⟨A1, e1, e2, e3⟩
    rcases e3 with ⟨-, rfl, rfl⟩ | ⟨e3, -⟩
    · exact ⟨rfl, _, e1, e2⟩
    · rw [hP] at e3
      cases e3
  refine c8_w (c15_2 hO.ob rfl h1 (fun v A' hv => .inl ⟨_, (hr v A' hv).1⟩) (d := 6) (by omega)) (fun v A' hv => .inl ⟨_, (hr v A' hv).1⟩) (by omega) (fun v A' hv => ?_) (fun A' hv => by
    have := (hr _ A' hv).1
    cases this)
  obtain ⟨rfl, h2⟩ := hr v A' hv
  exact ⟨_, rfl, rfl, h2⟩
theorem an_opt (hN : NumW w.2.2) (hm : m ≤ w.2.2.length) (hgg : g.g = j) : vlE g.o j x (w.2.2.take m) = opt (anF g w.2.2 m x) := by
  rw [an_val hN hm, hgg]
/-- a value of the law: there, or not -/
theorem vl_cs (hN : NumW w.2.2) (hW : ∀ x, x ∈ w.2.2 → WOk x) (hlw : w.2.2.length ≤ 120) (hgg : g.g = j) (hm : m ≤ w.2.2.length) : ((anF g w.2.2 m x).1 = false ∧ vlI (vlE g.o j x (w.2.2.take m)) = zI (-2000005)) ∨ ((anF g w.2.2 m x).1 = true ∧ ∃ V : Int, -80000 ≤ V ∧ V ≤ 80000 ∧ vlI (vlE g.o j x (w.2.2.take m)) = zI V ∧ (anF g w.2.2 m x).2.2 = zI V) := by
  have e := an_opt (x := x) hN hm hgg
  cases h : (anF g w.2.2 m x).1 with
  | false =>
    refine .inl ⟨rfl, ?_⟩
    rw [e]
    unfold opt
    rw [if_neg (by rw [h]; decide)]
    rfl
  | true =>
    have e2 : vlE g.o j x (w.2.2.take m) = some (anF g w.2.2 m x).2.2 := by
      rw [e]
      unfold opt
      rw [if_pos h]
    have h9 := vlE_sm (by rw [List.length_take]; omega) (fun w hw => hW w (List.mem_of_mem_take hw)) e2
    refine .inr ⟨rfl, (anF g w.2.2 m x).2.2.toInt, h9.1, h9.2, ?_, ?_⟩
    · rw [e2]
      exact (Int32.ofInt_toInt _).symm
    · exact (Int32.ofInt_toInt _).symm
theorem c11_u {Q : gO → gA → Prop} {x4 : Option Value} {kS : Nat × Nat} (hR : RowsOk rows w.2.2) (hN : NumW w.2.2) (hW : ∀ x, x ∈ w.2.2 → WOk x) (hwz : ∀ x, x ∈ w.2.2 → x.s ≤ 20 ∧ x.g ≤ 3) (hlw : w.2.2.length ≤ 120) (hg : f.2.2[j]? = some g) (hgg : g.g = j) (hj : j < 3) (hqo : (qo, vN .char 3 fo) ∈ K) (hfo : fo j = zI g.o) (hgo : g.o = 43 ∨ g.o = 62 ∨ g.o = 60) (hm : m ≤ w.2.2.length) (hci : ci ≤ 1000000)
    (hQ : ∀ A' p' fd' x8 x9, okO A' F (lwL qm qa fm rows K) o f w s (ca, cc, [(q, ci, g.a, m, p')]) b (fa9, fd') y me ct → (-1 ≤ p' ∧ p' < 22) → (∀ k : Nat, p' < k → k < 22 → (anF g w.2.2 m k).1 = false) → A'.2 = kS → Wv sc 10 11 145 [some (.ref o), some (.ref qa), some (.ref qo), some (.int (zI j)), x4, some (.int (zI m)), some (.int (zI ci)), some (.int (zI 1)), x8, x9] [] A' Q) :
    ∀ (n key : Nat) (p : Int) (fd : FiD) (A : gA) (x9 : Option Value), key + n = 22 → okO A F (lwL qm qa fm rows K) o f w s (ca, cc, [(q, ci, g.a, m, p)]) b (fa9, fd) y me ct → (-1 ≤ p ∧ p < key) → (∀ k : Nat, p < k → k < key → (anF g w.2.2 m k).1 = false) → A.2 = kS →
    Wv sc 10 11 69 [some (.ref o), some (.ref qa), some (.ref qo), some (.int (zI j)), x4, some (.int (zI m)), some (.int (zI ci)), some (.int (zI 1)), some (.int (zI key)), x9] [] A Q
  | 0, key, p, fd, A, x9, hkn, hO, hp, hno, hA => by
    obtain rfl : key = 22 := by omega
    refine wv_s f11_69 rfl (fun _ => rfl) ?_
    refine wv_bip f11_71 (by decide) ?_
    refine wv_cT_ge f11_73 (by omega) (by omega) (by omega) ?_
    exact hQ A p fd _ _ hO hp hno hA
  | n + 1, key, p, fd, A, x9, hkn, hO, hp, hno, hA => by
    have hgm := List.mem_of_getElem? hg
    have hq0 := hO.lk hqo
    have hz9 : ∀ x, x ∈ w.2.2 → WOk x ∧ x.s ≤ 20 ∧ x.g ≤ 3 := fun x hx => ⟨hW x hx, hwz x hx⟩
    have hv := c9 (sc := sc) (k := key) hR hO.lr hz9 hlw hj hq0 hfo hgo (by omega) hm
    refine wv_s f11_69 rfl (fun _ => rfl) ?_
    refine wv_bip f11_71 (by decide) ?_
    refine wv_cF_ge f11_73 (by omega) (by omega) (by omega) ?_
    refine wv_s f11_76 rfl (fun _ => rfl) ?_
    refine wv_zF_eq f11_78 (by omega) (by omega) ?_
    refine wv_s f11_81 rfl (fun _ => rfl) ?_
    refine wv_s f11_82 rfl (fun _ => rfl) ?_
    refine wv_s f11_83 rfl (fun _ => rfl) ?_
    refine wv_s f11_84 rfl (fun _ => rfl) ?_
    refine wv_s f11_86 rfl (fun _ => rfl) ?_
    refine wv_valS f11_88 (by decide) (by simp) (by simp) (by decide +kernel) (hv) (by omega) ?_
    rcases vl_cs (x := (key : Int)) hN hW hlw hgg hm with ⟨hP, e⟩ | ⟨hP, V, V1, V2, e, e2⟩
    · rw [e]
      refine wv_st9 f11_91 rfl (fun _ _ => rfl) ?_
      refine wv_s f11_93 rfl (fun _ => rfl) ?_
      refine wv_ldcI (k := -2000005) f11_95 (by decide) ?_
      refine wv_cT_eq f11_97 (by omega) (by omega) (by omega) ?_
      refine wv_icon f11_132 ?_
      refine wv_s (pc' := 137) f11_133 rfl (fun _ => rfl) ?_
      refine wv_st7 f11_137 rfl (fun _ _ => rfl) ?_
      refine wv_inc8 f11_139 ?_
      refine wv_s (pc' := 69) f11_142 rfl (fun _ => rfl) ?_
      exact c11_u hR hN hW hwz hlw hg hgg hj hqo hfo hgo hm hci hQ n (key + 1) p fd A _ (by omega) hO (by omega) (fun k h1 h2 => by
        by_cases hk : k = key
        · rw [hk]
          exact hP
        · exact hno k h1 (by omega)) hA
    · rw [e]
      obtain ⟨a, ha⟩ : ∃ a : Nat, p + 1 = (a : Nat) := ⟨(p + 1).toNat, by omega⟩
      have hnx := nxU_at (P := fun k : Nat => (anF g w.2.2 m k).1) (b := key) hP (n := 100 - a) (a := a) (fun k h1 h2 => hno k (by omega) h2) (by omega) (by omega)
      refine wv_st9 f11_91 rfl (fun _ _ => rfl) ?_
      refine wv_s f11_93 rfl (fun _ => rfl) ?_
      refine wv_ldcI (k := -2000005) f11_95 (by decide) ?_
      refine wv_cF_eq f11_97 (by omega) (by omega) (by omega) ?_
      refine wv_s f11_100 rfl (fun _ => rfl) ?_
      refine wv_bip f11_101 (by decide) ?_
      refine wv_s f11_103 rfl (fun _ => rfl) ?_
      refine wv_icon f11_105 ?_
      refine wv_icon f11_106 ?_
      refine wv_icon f11_107 ?_
      refine wv_icon f11_108 ?_
      refine wv_resS f11_109 (by decide) (by simp) (by simp) (by decide +kernel) (dn_s hO hgm ha (by omega) hnx) (by omega) (fun v9 A1 h1 => ?_)
      obtain ⟨rfl, fd1, hO1, hA1⟩ := h1
      refine wv_s f11_112 rfl (fun _ => rfl) ?_
      refine wv_cF_ne f11_114 (by omega) (by omega) (by omega) ?_
      refine wv_s f11_117 rfl (fun _ => rfl) ?_
      refine wv_icon f11_118 ?_
      refine wv_s f11_119 rfl (fun _ => rfl) ?_
      refine wv_icon f11_121 ?_
      refine wv_icon f11_122 ?_
      refine wv_icon f11_123 ?_
      refine wv_resS f11_124 (by decide) (by simp) (by simp) (by decide +kernel) (a2_v (a6 := 0) hO1 hgm (by omega) hP) (by omega) (fun v9 A2 h2 => ?_)
      obtain ⟨rfl, fd2, hO2, hA2⟩ := h2
      rw [e2]
      refine wv_s f11_127 rfl (fun _ => rfl) ?_
      refine wv_cF_ne f11_129 (by omega) (by omega) (by omega) ?_
      refine wv_icon f11_132 ?_
      refine wv_s (pc' := 137) f11_133 rfl (fun _ => rfl) ?_
      refine wv_st7 f11_137 rfl (fun _ _ => rfl) ?_
      refine wv_inc8 f11_139 ?_
      refine wv_s (pc' := 69) f11_142 rfl (fun _ => rfl) ?_
      exact c11_u hR hN hW hwz hlw hg hgg hj hqo hfo hgo hm hci hQ n (key + 1) (key : Int) fd2 A2 _ (by omega) hO2 (by omega) (fun k h1 h2 => by omega) (hA2.trans (hA1.trans hA))
theorem c11_d {Q : gO → gA → Prop} {x4 : Option Value} {kS : Nat × Nat} (hR : RowsOk rows w.2.2) (hN : NumW w.2.2) (hW : ∀ x, x ∈ w.2.2 → WOk x) (hwz : ∀ x, x ∈ w.2.2 → x.s ≤ 20 ∧ x.g ≤ 3) (hlw : w.2.2.length ≤ 120) (hg : f.2.2[j]? = some g) (hgg : g.g = j) (hj : j < 3) (hqo : (qo, vN .char 3 fo) ∈ K) (hfo : fo j = zI g.o) (hgo : g.o = 43 ∨ g.o = 62 ∨ g.o = 60) (hm : m ≤ w.2.2.length) (hci : ci ≤ 1000000)
    (hQ : ∀ A' i' fd' x8 x9, okO A' F (lwL qm qa fm rows K) o f w s (ca, cc, [(q, ci, g.a, m, ((i' : Nat) : Int))]) b (fa9, fd') y me ct → i' ≤ 100 → (∀ k : Nat, k < i' → (anF g w.2.2 m k).1 = false) → A'.2 = kS → Wv sc 10 11 267 [some (.ref o), some (.ref qa), some (.ref qo), some (.int (zI j)), x4, some (.int (zI m)), some (.int (zI ci)), some (.int (zI 1)), x8, x9] [] A' Q) :
    ∀ (n i : Nat) (fd : FiD) (A : gA) (x9 : Option Value), n ≤ 22 → okO A F (lwL qm qa fm rows K) o f w s (ca, cc, [(q, ci, g.a, m, (i : Int))]) b (fa9, fd) y me ct → (n ≤ i ∧ i ≤ 100) → (∀ k : Nat, n ≤ k → k < i → (anF g w.2.2 m k).1 = false) → A.2 = kS →
    Wv sc 10 11 193 [some (.ref o), some (.ref qa), some (.ref qo), some (.int (zI j)), x4, some (.int (zI m)), some (.int (zI ci)), some (.int (zI 1)), some (.int (zI ((n : Int) - 1))), x9] [] A Q
  | 0, i, fd, A, x9, hkn, hO, hp, hno, hA => by
    refine wv_s f11_193 rfl (fun _ => rfl) ?_
    refine wv_zT_lt f11_195 (by omega) (by omega) ?_
    exact hQ A i fd _ _ hO hp.2 (fun k hk => hno k (Nat.zero_le _) hk) hA
  | n + 1, i, fd, A, x9, hkn, hO, hp, hno, hA => by
    have hgm := List.mem_of_getElem? hg
    have hq0 := hO.lk hqo
    have hz9 : ∀ x, x ∈ w.2.2 → WOk x ∧ x.s ≤ 20 ∧ x.g ≤ 3 := fun x hx => ⟨hW x hx, hwz x hx⟩
    have hv := c9 (sc := sc) (k := n) hR hO.lr hz9 hlw hj hq0 hfo hgo (by omega) hm
    rw [show ((n + 1 : Nat) : Int) - 1 = ((n : Nat) : Int) by omega]
    refine wv_s f11_193 rfl (fun _ => rfl) ?_
    refine wv_zF_lt f11_195 (by omega) (by omega) ?_
    refine wv_s f11_198 rfl (fun _ => rfl) ?_
    refine wv_zF_eq f11_200 (by omega) (by omega) ?_
    refine wv_s f11_203 rfl (fun _ => rfl) ?_
    refine wv_s f11_204 rfl (fun _ => rfl) ?_
    refine wv_s f11_205 rfl (fun _ => rfl) ?_
    refine wv_s f11_206 rfl (fun _ => rfl) ?_
    refine wv_s f11_208 rfl (fun _ => rfl) ?_
    refine wv_valS f11_210 (by decide) (by simp) (by simp) (by decide +kernel) (hv) (by omega) ?_
    rcases vl_cs (x := (n : Int)) hN hW hlw hgg hm with ⟨hP, e⟩ | ⟨hP, V, V1, V2, e, e2⟩
    · rw [e]
      refine wv_st9 f11_213 rfl (fun _ _ => rfl) ?_
      refine wv_s f11_215 rfl (fun _ => rfl) ?_
      refine wv_ldcI (k := -2000005) f11_217 (by decide) ?_
      refine wv_cT_eq f11_219 (by omega) (by omega) (by omega) ?_
      refine wv_icon f11_254 ?_
      refine wv_s (pc' := 259) f11_255 rfl (fun _ => rfl) ?_
      refine wv_st7 f11_259 rfl (fun _ _ => rfl) ?_
      refine wv_inc8 f11_261 ?_
      rw [show ((n : Nat) : Int) + -1 = (n : Int) - 1 by omega]
      refine wv_s (pc' := 193) f11_264 rfl (fun _ => rfl) ?_
      exact c11_d hR hN hW hwz hlw hg hgg hj hqo hfo hgo hm hci hQ n i fd A _ (by omega) hO (by omega) (fun k h1 h2 => by
        by_cases hk : k = n
        · rw [hk]
          exact hP
        · exact hno k (by omega) h2) hA
    · rw [e]
      have hnx := nxD_at (P := fun k : Nat => (anF g w.2.2 m k).1) (b := n) hP (n := i) (fun k h1 h2 => hno k (by omega) h2) (by omega)
      refine wv_st9 f11_213 rfl (fun _ _ => rfl) ?_
      refine wv_s f11_215 rfl (fun _ => rfl) ?_
      refine wv_ldcI (k := -2000005) f11_217 (by decide) ?_
      refine wv_cF_eq f11_219 (by omega) (by omega) (by omega) ?_
      refine wv_s f11_222 rfl (fun _ => rfl) ?_
      refine wv_bip f11_223 (by decide) ?_
      refine wv_s f11_225 rfl (fun _ => rfl) ?_
      refine wv_icon f11_227 ?_
      refine wv_icon f11_228 ?_
      refine wv_icon f11_229 ?_
      refine wv_icon f11_230 ?_
      refine wv_resS f11_231 (by decide) (by simp) (by simp) (by decide +kernel) (dp_s hO hgm rfl hnx) (by omega) (fun v9 A1 h1 => ?_)
      obtain ⟨rfl, fd1, hO1, hA1⟩ := h1
      refine wv_s f11_234 rfl (fun _ => rfl) ?_
      refine wv_cF_ne f11_236 (by omega) (by omega) (by omega) ?_
      refine wv_s f11_239 rfl (fun _ => rfl) ?_
      refine wv_icon f11_240 ?_
      refine wv_s f11_241 rfl (fun _ => rfl) ?_
      refine wv_icon f11_243 ?_
      refine wv_icon f11_244 ?_
      refine wv_icon f11_245 ?_
      refine wv_resS f11_246 (by decide) (by simp) (by simp) (by decide +kernel) (a2_v (a6 := 0) hO1 hgm (by omega) hP) (by omega) (fun v9 A2 h2 => ?_)
      obtain ⟨rfl, fd2, hO2, hA2⟩ := h2
      rw [e2]
      refine wv_s f11_249 rfl (fun _ => rfl) ?_
      refine wv_cF_ne f11_251 (by omega) (by omega) (by omega) ?_
      refine wv_icon f11_254 ?_
      refine wv_s (pc' := 259) f11_255 rfl (fun _ => rfl) ?_
      refine wv_st7 f11_259 rfl (fun _ _ => rfl) ?_
      refine wv_inc8 f11_261 ?_
      rw [show ((n : Nat) : Int) + -1 = (n : Int) - 1 by omega]
      refine wv_s (pc' := 193) f11_264 rfl (fun _ => rfl) ?_
      exact c11_d hR hN hW hwz hlw hg hgg hj hqo hfo hgo hm hci hQ n n fd2 A2 _ (by omega) hO2 (by omega) (fun k h1 h2 => by omega) (hA2.trans (hA1.trans hA))
theorem c11 (hO : okO A F (lwL qm qa fm rows K) o f w s (ca, cc, []) b fi y me ct) (hR : RowsOk rows w.2.2) (hN : NumW w.2.2) (hW : ∀ x, x ∈ w.2.2 → WOk x) (hlw : w.2.2.length ≤ 120) (hg : f.2.2[j]? = some g) (hgg : g.g = j) (hj : j < 3) (hqo : (qo, vN .char 3 fo) ∈ K) (hfo : fo j = zI g.o) (hm : m ≤ w.2.2.length) (hn : ct.2.1 + 1 ≤ 1000000) (hmo : Wc sc 4 76 [.ref o, .int (zI z)] A (fun r A' => r = .inl (some (.int (zI m))) ∧ A' = A)) :
    Wc sc 10 11 [.ref o, .ref qa, .ref qo, .int (zI j), .int (zI z), .int (zI m)] A (fun v A' => ∃ v9, v = .inl (some v9) ∧ (v9 = .int (bI true) ∧ ∃ c' fd ct', ct' = (ct.1, ct.2.1 + 1, ct.2.2) ∧ okO A' F (lwL qm qa fm rows K) o f w s (ca, c', []) b (fi.1, fd) y me ct' ∧ A'.2.1 ≤ A.2.1 + 5 ∧ A'.2.2 ≤ A.2.2 + 56)) := by
  have hgm := List.mem_of_getElem? hg
  have hgo := (hO.fm hgm).2.2.2.2
  have hwz : ∀ x, x ∈ w.2.2 → x.s ≤ 20 ∧ x.g ≤ 3 := fun x hx => ⟨(hO.2.2.1 x hx).2.2.1, (hO.2.2.1 x hx).2.1⟩
  have no18 : ∀ k : Nat, 18 ≤ k → (anF g w.2.2 m k).1 = false := by
    intro k hk
    have e := an_opt (x := (k : Int)) hN hm hgg
    rw [vlE_none (fun u hu => by
      have h9 := (hW u (List.mem_of_mem_take hu)).kf
      refine decide_eq_false (fun q => ?_)
      omega)] at e
    cases h : (anF g w.2.2 m k).1 with
    | false => rfl
    | true =>
      unfold opt at e
      rw [if_pos h] at e
      cases e
  show Wv sc 10 11 0 [some (.ref o), some (.ref qa), some (.ref qo), some (.int (zI j)), some (.int (zI z)), some (.int (zI m)), none, none, none, none] [] A _
  have d8 : Wc sc 9 2 [.ref o, .int (zI 8), .int (zI j), .int (zI z), .int (zI 0), .int (zI 0), .int (zI 0)] A (fun v A' => ∃ v9, v = .inl (some v9) ∧ (v9 = .int (zI ct.2.1) ∧ ∃ q c' ct', ct' = (ct.1, ct.2.1 + 1, ct.2.2) ∧ okO A' F (lwL qm qa fm rows K) o f w s (ca, c', [(q, ct.2.1, g.a, m, -1)]) b fi y me ct' ∧ A'.2.1 ≤ A.2.1 + 3 ∧ A'.2.2 ≤ A.2.2 + 44)) :=
    c2_w (c13_8 hO.ob rfl (c79 hO hg (by omega) hmo hn) (fun v A' hv => .inl ⟨_, hv.1⟩) (d := 8) (by omega)) (fun v A' hv => .inl ⟨_, hv.1⟩) (by omega) (fun v A' hv => ⟨_, by rw [hv.1]; rfl, rfl, hv.2⟩)
  refine wv_s f11_0 rfl (fun _ => rfl) ?_
  refine wv_bip f11_1 (by decide) ?_
  refine wv_s f11_3 rfl (fun _ => rfl) ?_
  refine wv_s f11_4 rfl (fun _ => rfl) ?_
  refine wv_icon f11_6 ?_
  refine wv_icon f11_7 ?_
  refine wv_icon f11_8 ?_
  refine wv_resS f11_9 (by decide) (by simp) (by simp) (by decide +kernel) (d8) (by omega) (fun v8 A1 h8 => ?_)
  obtain ⟨rfl, q, c', ct', ect, hO1, hC1, hS1⟩ := h8
  have a2t : Wc sc 7 8 [.ref o, .int (zI 2), .int (zI ct.2.1), .int (zI 0), .int (zI 0), .int (zI 0)] A1 (fun v A' => v = .inl (some (.int (zI (-2000005)))) ∧ A' = aThr A1) := aT3_2 hO1.ob rfl (c96_t hO1 rfl)
  refine wv_st6 f11_12 rfl (fun _ _ => rfl) ?_
  refine wv_s f11_14 rfl (fun _ => rfl) ?_
  refine wv_ldcI (k := -2000003) f11_16 (by decide) ?_
  refine wv_cT_ne f11_18 (by omega) (by omega) (by omega) ?_
  refine wv_s f11_23 rfl (fun _ => rfl) ?_
  refine wv_zF_lt f11_25 (by omega) (by omega) ?_
  refine wv_s f11_28 rfl (fun _ => rfl) ?_
  refine wv_icon f11_29 ?_
  refine wv_s f11_30 rfl (fun _ => rfl) ?_
  refine wv_icon f11_32 ?_
  refine wv_icon f11_33 ?_
  refine wv_icon f11_34 ?_
  refine wv_invS f11_35 (by decide) (by simp) (by simp) (by decide +kernel) a2t (by omega) (fun v A2 hv => ?_)
  obtain ⟨rfl, rfl⟩ := hv
  show Wv sc 10 11 38 _ (.int (zI (-2000005)) :: []) (aThr A1) _
  refine wv_ldcI (k := -2000005) f11_38 (by decide) ?_
  refine wv_cF_ne f11_40 (by omega) (by omega) (by omega) ?_
  refine wv_s f11_43 rfl (fun _ => rfl) ?_
  refine wv_bip f11_44 (by decide) ?_
  refine wv_s f11_46 rfl (fun _ => rfl) ?_
  refine wv_icon f11_48 ?_
  refine wv_icon f11_49 ?_
  refine wv_icon f11_50 ?_
  refine wv_icon f11_51 ?_
  refine wv_resS f11_52 (by decide) (by simp) (by simp) (by decide +kernel) (dp_e hO1.thr) (by omega) (fun v8 A2 h2 => ?_)
  obtain ⟨rfl, hO2, hA2⟩ := h2
  refine wv_icon f11_55 ?_
  refine wv_cF_ne f11_56 (by omega) (by omega) (by omega) ?_
  refine wv_icon f11_59 ?_
  refine wv_s (pc' := 64) f11_60 rfl (fun _ => rfl) ?_
  refine wv_st7 f11_64 rfl (fun _ _ => rfl) ?_
  refine wv_icon f11_66 ?_
  refine wv_st8 f11_67 rfl (fun _ _ => rfl) ?_
  refine c11_u (kS := A2.2) hR hN hW hwz hlw hg hgg hj hqo hfo hgo hm (by omega) (fun A3 p3 fd3 x8 x9 hO3 hp3 hno3 hA3 => ?_) 22 0 (-1) fi.2 A2 _ (by omega) hO2 (by omega) (fun k h1 h2 => by omega) rfl
  obtain ⟨a, ha⟩ : ∃ a : Nat, p3 + 1 = (a : Nat) := ⟨(p3 + 1).toNat, by omega⟩
  have hnn := nxU_no (P := fun k : Nat => (anF g w.2.2 m k).1) (n := 100 - a) (a := a) (fun k h1 h2 => by
    by_cases hk : k < 22
    · exact hno3 k (by omega) hk
    · exact no18 k (by omega))
  refine wv_s f11_145 rfl (fun _ => rfl) ?_
  refine wv_zF_eq f11_147 (by omega) (by omega) ?_
  refine wv_s f11_150 rfl (fun _ => rfl) ?_
  refine wv_bip f11_151 (by decide) ?_
  refine wv_s f11_153 rfl (fun _ => rfl) ?_
  refine wv_icon f11_155 ?_
  refine wv_icon f11_156 ?_
  refine wv_icon f11_157 ?_
  refine wv_icon f11_158 ?_
  refine wv_resS f11_159 (by decide) (by simp) (by simp) (by decide +kernel) (dn_n hO3 hgm ha (by omega) hnn) (by omega) (fun v8 A4 h4 => ?_)
  obtain ⟨rfl, fd4, hO4, hA4⟩ := h4
  refine wv_icon f11_162 ?_
  refine wv_cF_ne f11_163 (by omega) (by omega) (by omega) ?_
  refine wv_s f11_166 rfl (fun _ => rfl) ?_
  refine wv_bip f11_167 (by decide) ?_
  refine wv_s f11_169 rfl (fun _ => rfl) ?_
  refine wv_icon f11_171 ?_
  refine wv_icon f11_172 ?_
  refine wv_icon f11_173 ?_
  refine wv_icon f11_174 ?_
  refine wv_resS f11_175 (by decide) (by simp) (by simp) (by decide +kernel) (dn_e hO4) (by omega) (fun v8 A5 h5 => ?_)
  obtain ⟨rfl, hO5, hA5⟩ := h5
  refine wv_icon f11_178 ?_
  refine wv_cF_ne f11_179 (by omega) (by omega) (by omega) ?_
  refine wv_icon f11_182 ?_
  refine wv_s (pc' := 187) f11_183 rfl (fun _ => rfl) ?_
  refine wv_st7 f11_187 rfl (fun _ _ => rfl) ?_
  refine wv_bip f11_189 (by decide) ?_
  refine wv_st8 f11_191 rfl (fun _ _ => rfl) ?_
  refine c11_d (kS := A5.2) hR hN hW hwz hlw hg hgg hj hqo hfo hgo hm (by omega) (fun A6 i6 fd6 x8 x9 hO6 hi6 hno6 hA6 => ?_) 22 100 fd4 A5 _ (by omega) hO5 (by omega) (fun k h1 h2 => no18 k (by omega)) rfl
  have hnd := nxD_no (P := fun k : Nat => (anF g w.2.2 m k).1) (n := i6) hno6
  refine wv_s f11_267 rfl (fun _ => rfl) ?_
  refine wv_zF_eq f11_269 (by omega) (by omega) ?_
  refine wv_s f11_272 rfl (fun _ => rfl) ?_
  refine wv_bip f11_273 (by decide) ?_
  refine wv_s f11_275 rfl (fun _ => rfl) ?_
  refine wv_icon f11_277 ?_
  refine wv_icon f11_278 ?_
  refine wv_icon f11_279 ?_
  refine wv_icon f11_280 ?_
  refine wv_resS f11_281 (by decide) (by simp) (by simp) (by decide +kernel) (dp_n hO6 hgm rfl hnd) (by omega) (fun v8 A7 h7 => ?_)
  obtain ⟨rfl, fd7, hO7, hA7⟩ := h7
  have d11 : Wc sc 6 2 [.ref o, .int (zI 11), .int (zI ct.2.1), .int (zI 0), .int (zI 0), .int (zI 0), .int (zI 0)] A7 (fun v A' => ∃ v9, v = .inl (some v9) ∧ (v9 = .int (zI 0) ∧ okO A' F (lwL qm qa fm rows K) o f w s (ca, c', []) b (fi.1, fd7) y me ct' ∧ A'.2 = A7.2)) :=
    c2_w (c13_11 hO7.ob rfl (c30 hO7) (fun v A' hv => .inl ⟨_, hv.1⟩) (d := 5) (by omega)) (fun v A' hv => .inl ⟨_, hv.1⟩) (by omega) (fun v A' hv => ⟨_, by rw [hv.1]; rfl, rfl, hv.2⟩)
  refine wv_icon f11_284 ?_
  refine wv_cF_ne f11_285 (by omega) (by omega) (by omega) ?_
  refine wv_s f11_288 rfl (fun _ => rfl) ?_
  refine wv_bip f11_289 (by decide) ?_
  refine wv_s f11_291 rfl (fun _ => rfl) ?_
  refine wv_icon f11_293 ?_
  refine wv_icon f11_294 ?_
  refine wv_icon f11_295 ?_
  refine wv_icon f11_296 ?_
  refine wv_resS f11_297 (by decide) (by simp) (by simp) (by decide +kernel) (d11) (by omega) (fun v8 A8 h8 => ?_)
  obtain ⟨rfl, hO8, hA8⟩ := h8
  have d11t : Wc sc 6 2 [.ref o, .int (zI 11), .int (zI ct.2.1), .int (zI 0), .int (zI 0), .int (zI 0), .int (zI 0)] A8 (fun v A' => ∃ v9, v = .inl (some v9) ∧ (v9 = .int (zI (-2000001)) ∧ A' = aThr A8)) :=
    c2_w (c13_11 hO8.ob rfl (c30_t hO8 (by omega)) (fun v A' hv => .inr ⟨_, hv.1⟩) (d := 5) (by omega)) (fun v A' hv => .inr ⟨_, hv.1⟩) (by omega) (fun v A' hv => ⟨_, by rw [hv.1]; rfl, rfl, hv.2⟩)
  refine wv_zF_lt f11_300 (by omega) (by omega) ?_
  refine wv_s f11_303 rfl (fun _ => rfl) ?_
  refine wv_bip f11_304 (by decide) ?_
  refine wv_s f11_306 rfl (fun _ => rfl) ?_
  refine wv_icon f11_308 ?_
  refine wv_icon f11_309 ?_
  refine wv_icon f11_310 ?_
  refine wv_icon f11_311 ?_
  refine wv_resS f11_312 (by decide) (by simp) (by simp) (by decide +kernel) (d11t) (by omega) (fun v8 A9 h9 => ?_)
  obtain ⟨rfl, rfl⟩ := h9
  have eA : A8.2 = (A1.2.1 + 1, A1.2.2 + 6) := by
    rw [hA8, hA7, hA6, hA5, hA4, hA3, hA2]
    rfl
  refine wv_ldcI (k := -2000001) f11_315 (by decide) ?_
  refine wv_cF_ne f11_317 (by omega) (by omega) (by omega) ?_
  refine wv_icon f11_320 ?_
  refine wv_s (pc' := 325) f11_321 rfl (fun _ => rfl) ?_
  exact wv_iretB (p := true) f11_325 (by decide +kernel) ( ⟨_, rfl, rfl, c', fd7, ct', ect, hO8.thr, by show A8.2.1 + 1 ≤ _; rw [eA]; show A1.2.1 + 1 + 1 ≤ _; omega, by show A8.2.2 + 6 ≤ _; rw [eA]; show A1.2.2 + 6 + 6 ≤ _; omega⟩)
end WH
