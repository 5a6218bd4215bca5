/-! CURSORS, backups -/
def nxU (p : Nat → Bool) : Nat → Nat → Option Nat
  | 0, _ => none
  | k + 1, i => if p i then some i else nxU p k (i + 1)
def nxD (p : Nat → Bool) : Nat → Option Nat
  | 0 => none
  | k + 1 => if p k then some k else nxD p k
def CuD.go (x : CuD) (p : Int) : CuD := (x.a, x.i, x.h, x.m, p)
/-- what moving a cursor gives -/
def mvR (r : Option Nat) (e : Int) (x : CuD) (v : gO) (x' : CuD) : Prop := (∃ k, r = some k ∧ v = .inl (some (.int (zI (k : Nat)))) ∧ x' = x.go k) ∨ (r = none ∧ v = .inl (some (.int (zI (-1)))) ∧ x' = x.go e)
theorem Wc.res {sc : gSc} {d a : Nat} {av : List Value} {A : gA} {v : Value} {P : gA → Prop} (h : Wc sc d a av A (fun o A' => o = .inl (some v) ∧ P A')) : Wc sc d a av A (fun o A' => ∃ v9, o = .inl (some v9) ∧ (v9 = v ∧ P A')) := h.up (Nat.le_refl _) (fun _ _ h => ⟨v, h.1, rfl, h.2⟩)
section CU
variable {sc : gSc} {d : Nat} {A : gA} {F : Nat → Option vC} {L : List (Nat × vC)} {o : Nat} {f : Ls FamD} {w : Ls WrD} {s : Ls SnD} {c : Ls CuD} {b : Ls BkD} {fi : Nat × FiD} {y : Ls ChD} {me : Option MeD} {ct : CtD} {g : FamD} {l : LvD} {r : RunD} {i j m ca cc fa9 : Nat} {x : CuD} {z : Int}
theorem okO.putCu (h : okO A F L o f w s (ca, cc, [x]) b fi y me ct) {p : Int} (hp : -1 ≤ p ∧ p ≤ 100) : okO (aPut A x.a (cCu (x.go p))) F L o f w s (ca, cc, [x.go p]) b fi y me ct := by
  have h1 := h.1
  have e1 : obC o f w s (ca, cc, [x]) b fi y me ct L = ([(o, cOb f w s (ca, cc, [x]) b fi y me ct), (f.1, vL f.2.1 (f.2.2.map FamD.a)), (w.1, vL w.2.1 (w.2.2.map WrD.a)), (s.1, vL s.2.1 (s.2.2.map SnD.a)), (ca, vL cc [x.a]), (b.1, vL b.2.1 (b.2.2.map BkD.a)), (fi.1, cFi fi.2), (y.1, vL y.2.1 (y.2.2.map ChD.a))] ++ meC me) ++ (x.a, cCu x) :: (w.2.2.map wrP ++ (f.2.2.flatMap fmP ++ L)) := by
    simp [obC, obT, cuP]
  rw [e1] at h1
  have h2 := h1.put (c := cCu (x.go p))
  have e2 : obC o f w s (ca, cc, [x.go p]) b fi y me ct L = ([(o, cOb f w s (ca, cc, [x]) b fi y me ct), (f.1, vL f.2.1 (f.2.2.map FamD.a)), (w.1, vL w.2.1 (w.2.2.map WrD.a)), (s.1, vL s.2.1 (s.2.2.map SnD.a)), (ca, vL cc [x.a]), (b.1, vL b.2.1 (b.2.2.map BkD.a)), (fi.1, cFi fi.2), (y.1, vL y.2.1 (y.2.2.map ChD.a))] ++ meC me) ++ (x.a, cCu (x.go p)) :: (w.2.2.map wrP ++ (f.2.2.flatMap fmP ++ L)) := by
    simp [obC, obT, cuP, cOb, CuD.go, CuD.a]
  refine ⟨?_, h.2.1, h.2.2.1, h.2.2.2.1, fun z hz => ?_, h.2.2.2.2.2⟩
  · rw [e2]
    exact h2
  · have k := h.2.2.2.2.1 x (List.mem_cons_self ..)
    rw [List.mem_singleton.mp hz]
    exact ⟨k.1, k.2.1, hp⟩
theorem c79 {cc : Nat} (hO : okO A F L o f w s (ca, cc, []) b fi y me ct) (hg : f.2.2[i]? = some g) (hm : m ≤ 1000000) (hmo : Wc sc 4 76 [.ref o, .int (zI z)] A (fun r A' => r = .inl (some (.int (zI m))) ∧ A' = A)) (hn : ct.2.1 + 1 ≤ 1000000) :
    Wc sc 7 79 [.ref o, .int (zI i), .int (zI z)] A (fun v A' => v = .inl (some (.int (zI ct.2.1))) ∧ ∃ q c' ct', ct' = (ct.1, ct.2.1 + 1, ct.2.2) ∧ okO A' F L o f w s (ca, c', [(q, ct.2.1, g.a, m, -1)]) b fi y me ct' ∧ A'.2.1 ≤ A.2.1 + 3 ∧ A'.2.2 ≤ A.2.2 + 44) := by
  show Wv sc 7 79 0 [some (.ref o), some (.int (zI i)), some (.int (zI z)), none, none, none] [] A _
  have h1 := hO.ob
  have h2 : A.1 ca = some (vL cc []) := hO.cl
  refine wv_s f79_0 rfl (fun _ => rfl) ?_
  refine wv_s f79_1 rfl (fun _ => rfl) ?_
  refine wv_valV f79_2 (by decide) (by simp) (by simp) (by decide +kernel) (by assumption) (by rfl) (by decide +kernel) rfl (c47 hO hg) (by omega) ?_
  refine wv_st3 f79_5 rfl (fun _ _ => rfl) ?_
  refine wv_s f79_6 rfl (fun _ => rfl) ?_
  refine wv_s f79_7 rfl (fun _ => rfl) ?_
  refine wv_valV f79_8 (by decide) (by simp) (by simp) (by decide +kernel) (by assumption) (by rfl) (by decide +kernel) rfl (hmo) (by omega) ?_
  refine wv_st4 f79_11 rfl (fun _ _ => rfl) ?_
  refine wv_s f79_13 rfl (fun _ => rfl) ?_
  refine wv_getfield f79_14 (by assumption) (by rfl) ?_
  refine wv_lsize f79_17 h2 (by omega) (by simp) (fun hs => ?_)
  rw [show ([] : List Nat).length = 0 from rfl]
  refine wv_icon f79_20 ?_
  refine wv_cT_lt f79_21 (by omega) (by omega) (by omega) ?_
  refine wv_newZ f79_34 (by decide) (by decide) (zs := [.int 0, .null, .int 0, .int 0]) (by rfl) (fun q hq => ?_)
  have hO1 := okO.push hO.2 (hO.1.new (n := gN 3) (c := vO 3 [.int 0, .null, .int 0, .int 0]) hq)
  have h4 := hO1.ob
  have h6q := hO1.atL
  refine wv_s f79_37 rfl (fun _ => rfl) ?_
  refine wv_s f79_38 rfl (fun _ => rfl) ?_
  refine wv_getfield f79_39 (h4) (by rfl) ?_
  refine wv_s f79_42 rfl (fun _ => rfl) ?_
  refine wv_s f79_43 rfl (fun _ => rfl) ?_
  refine wv_effI f79_45 (by decide) (by simp) (by simp) (by decide +kernel) (by rfl) (c103 (id := ct.2.1) (ho := g.a) (mo := m) h6q) (by omega) (fun A2 hA2 => ?_)
  have hO2 := hO1.lsL (c' := 0) (kc := 0) (ks := 0) (v' := cCu (q, ct.2.1, g.a, m, -1))
  rw [show aLst (aNew A q (vO 3 [.int 0, .null, .int 0, .int 0]) (gN 3)) q (cCu (q, ct.2.1, g.a, m, -1)) 0 0 = A2 from hA2.symm] at hO2
  have h7 := hO2.ob
  have hct : okCt (ct.1, ct.2.1 + 1, ct.2.2) := okCt_of hO.ctc hO.ctc.1 hn rfl
  have hO3 := hO2.putCt hct
  refine wv_st5 f79_48 rfl (fun _ _ => rfl) ?_
  refine wv_s f79_50 rfl (fun _ => rfl) ?_
  refine wv_s f79_51 rfl (fun _ => rfl) ?_
  refine wv_getfield f79_52 (h7) (by rfl) ?_
  refine wv_icon f79_55 ?_
  refine wv_iadd f79_56 ?_
  refine wv_putfield f79_57 (h7) (by simp) (by rfl) ?_
  show Wv sc 7 79 60 _ _ (aPut A2 o (cOb f w s (ca, cc, []) b fi y me (ct.1, ct.2.1 + 1, ct.2.2))) _
  have h8 := hO3.ob
  have h9 : (aPut A2 o (cOb f w s (ca, cc, []) b fi y me (ct.1, ct.2.1 + 1, ct.2.2))).1 ca = some (vL cc []) := hO3.cl
  have h10 : (aPut A2 o (cOb f w s (ca, cc, []) b fi y me (ct.1, ct.2.1 + 1, ct.2.2))).1 q = some (vO 3 [.int (zI ct.2.1), .ref g.a, .int (zI m), .int (zI (-1))]) := hO3.atL
  refine wv_s f79_60 rfl (fun _ => rfl) ?_
  refine wv_getfield f79_61 (h8) (by rfl) ?_
  refine wv_s f79_64 rfl (fun _ => rfl) ?_
  refine wv_ladd f79_66 h9 h10 (by decide +kernel) (by decide) (by omega) (by simp) (fun c1 k1 s1 hlg => ?_)
  have hlf := lg_flat hlg
  have hO4 : okO (aLst (aPut A2 o (cOb f w s (ca, cc, []) b fi y me (ct.1, ct.2.1 + 1, ct.2.2))) ca (vL c1 ([q])) k1 s1) F L o f w s (ca, c1, [(q, ct.2.1, g.a, m, -1)]) b fi y me (ct.1, ct.2.1 + 1, ct.2.2) := by
    have h11 := hO3.pop.setAt 5 rfl (c := vL c1 [q]) (kc := k1) (ks := s1)
    refine ⟨h11.perm ?_, hO3.2.1, hO3.2.2.1, hO3.2.2.2.1, fun z hz => ?_, hO3.2.2.2.2.2⟩
    · show ((q, cCu (q, ct.2.1, g.a, m, -1)) :: ([(o, cOb f w s (ca, cc, []) b fi y me (ct.1, ct.2.1 + 1, ct.2.2)), (f.1, vL f.2.1 (f.2.2.map FamD.a)), (w.1, vL w.2.1 (w.2.2.map WrD.a)), (s.1, vL s.2.1 (s.2.2.map SnD.a)), (ca, vL c1 [q]), (b.1, vL b.2.1 (b.2.2.map BkD.a)), (fi.1, cFi fi.2), (y.1, vL y.2.1 (y.2.2.map ChD.a))] ++ (meC me ++ (w.2.2.map wrP ++ (f.2.2.flatMap fmP ++ L))))).Perm _
      refine List.perm_middle.symm.trans (List.Perm.append_left _ ?_)
      exact List.perm_middle.symm
    · rw [List.mem_singleton.mp hz]
      exact ⟨by show ct.2.1 ≤ 1000000; omega, hm, by show -1 ≤ (-1 : Int); omega, by show (-1 : Int) ≤ 100; omega⟩
  have h12 := hO4.cu (x := (q, ct.2.1, g.a, m, -1)) (List.mem_cons_self ..)
  have e9 : A2.2 = (A.2.1 + 1, A.2.2 + 4) := by rw [hA2]; rfl
  refine wv_s f79_69 rfl (fun _ => rfl) ?_
  refine wv_s f79_70 rfl (fun _ => rfl) ?_
  refine wv_getfield f79_72 (h12) (by rfl) ?_
  exact wv_iret f79_75 (by rfl) (⟨rfl, q, c1, _, rfl, hO4, by show A2.2.1 + k1 ≤ _; rw [e9]; simp only [List.length_nil] at hlf ⊢; omega, by show A2.2.2 + s1 ≤ _; rw [e9]; simp only [List.length_nil] at hlf ⊢; omega⟩)
theorem c35_1 (hO : okO A F L o f w s (ca, cc, [x]) b fi y me ct) : Wc sc 4 35 [.ref o, .int (zI x.i)] A (fun r A' => r = .inl (some (.ref x.a)) ∧ A' = A) :=
  c35 hO (by omega) (by have := (hO.2.2.2.2.1 x (List.mem_cons_self ..)).1; omega) (k := 0) (v := x) (by show plI _ 0 [x.i] = 0; simp only [plI]; rw [if_pos trivial]; rfl) rfl
theorem c63 (hO : okO A F L o f w s (ca, cc, [x]) b fi y me ct) (hg : g ∈ f.2.2) (hxg : x.h = g.a) (hz : i32 z) : Wc sc 4 63 [.ref o, .ref x.a, .int (zI z)] A (fun v A' => v = .inl (some (.int (bI (anF g w.2.2 x.m z).1))) ∧ A' = aPut A fi.1 (cFi (anF g w.2.2 x.m z))) := by
  show Wv sc 4 63 0 [some (.ref o), some (.ref x.a), some (.int (zI z))] [] A _
  have h1 := hO.ob
  obtain ⟨k1, k2, k3⟩ := hO.2.2.2.2.1 x (List.mem_cons_self ..)
  have hx : A.1 x.a = some (vO 3 [.int (zI x.i), .ref g.a, .int (zI x.m), .int (zI x.p)]) := by
    rw [← hxg]
    exact hO.cu (List.mem_cons_self ..)
  refine wv_s f63_0 rfl (fun _ => rfl) ?_
  refine wv_s f63_1 rfl (fun _ => rfl) ?_
  refine wv_getfield f63_2 (hx) (by rfl) ?_
  refine wv_s f63_5 rfl (fun _ => rfl) ?_
  refine wv_s f63_6 rfl (fun _ => rfl) ?_
  refine wv_getfield f63_7 (hx) (by rfl) ?_
  refine wv_effV f63_10 (by decide) (by simp) (by simp) (by decide +kernel) (by assumption) (by rfl) (by decide +kernel) rfl (c49 hO hg hz k2) (by omega) (fun A1 hA1 => ?_)
  have hO1 := hO.putFi (fd := anF g w.2.2 x.m z)
  rw [show aPut A fi.1 (cFi (anF g w.2.2 x.m z)) = A1 from hA1.symm] at hO1
  have h2 := hO1.ob
  have h3 := hO1.fic
  refine wv_s f63_13 rfl (fun _ => rfl) ?_
  refine wv_getfield f63_14 (by assumption) (by rfl) ?_
  refine wv_getfield f63_17 (by assumption) (by rfl) ?_
  exact wv_iretB f63_20 (by decide +kernel) (⟨rfl, hA1⟩)
theorem c78_l (hg : g ∈ f.2.2) (hxg : x.h = g.a) : ∀ (n k : Nat) (A : gA) (fd : FiD), k + n = 100 → okO A F L o f w s (ca, cc, [x]) b (fa9, fd) y me ct →
    Wv sc 5 78 13 [some (.ref o), some (.int (zI x.i)), some (.ref x.a), some (.int (zI k))] [] A (fun v A' => ∃ fd' x', okO A' F L o f w s (ca, cc, [x']) b (fa9, fd') y me ct ∧ A'.2 = A.2 ∧ mvR (nxU (fun k => (anF g w.2.2 x.m k).1) n k) 100 x v x')
  | 0, k, A, fd, hk, hO => by
    have hx := hO.cu (List.mem_cons_self ..)
    have hO1 := hO.putCu (p := 100) ⟨by omega, by omega⟩
    refine wv_s f78_13 rfl (fun _ => rfl) ?_
    refine wv_bip f78_14 (by decide) ?_
    refine wv_cT_ge f78_16 (by omega) (by omega) (by omega) ?_
    refine wv_s f78_41 rfl (fun _ => rfl) ?_
    refine wv_bip f78_42 (by decide) ?_
    refine wv_putfield f78_44 (by assumption) (by simp) (by rfl) ?_
    refine wv_icon f78_47 ?_
    exact wv_iret f78_48 (by rfl) (⟨fd, x.go 100, hO1, rfl, .inr ⟨rfl, rfl, rfl⟩⟩)
  | n + 1, k, A, fd, hk, hO => by
    have h1 := hO.ob
    refine wv_s f78_13 rfl (fun _ => rfl) ?_
    refine wv_bip f78_14 (by decide) ?_
    refine wv_cF_ge f78_16 (by omega) (by omega) (by omega) ?_
    refine wv_s f78_19 rfl (fun _ => rfl) ?_
    refine wv_s f78_20 rfl (fun _ => rfl) ?_
    refine wv_s f78_21 rfl (fun _ => rfl) ?_
    refine wv_resV f78_22 (by decide) (by simp) (by simp) (by decide +kernel) (by assumption) (by rfl) (by decide +kernel) rfl ((c63 hO hg hxg (z := (k : Int)) (by omega)).res) (by omega) (fun v9 A1 hv => ?_)
    obtain ⟨rfl, hA1⟩ := hv
    have hO1 := hO.putFi (fd := anF g w.2.2 x.m k)
    rw [← hA1] at hO1
    have e1 : A1.2 = A.2 := by rw [hA1]; rfl
    cases hb : (anF g w.2.2 x.m k).1 with
    | true =>
      have hx := hO1.cu (List.mem_cons_self ..)
      have hO2 := hO1.putCu (p := (k : Int)) ⟨by omega, by omega⟩
      refine wv_bF f78_25 (rfl) ?_
      refine wv_s f78_28 rfl (fun _ => rfl) ?_
      refine wv_s f78_29 rfl (fun _ => rfl) ?_
      refine wv_putfield f78_30 (by assumption) (by simp) (by rfl) ?_
      refine wv_s f78_33 rfl (fun _ => rfl) ?_
      exact wv_iret f78_34 (by rfl) (⟨_, x.go k, hO2, e1, .inl ⟨k, by simp only [nxU]; rw [if_pos hb], rfl, rfl⟩⟩)
    | false =>
      refine wv_bT f78_25 (rfl) ?_
      refine wv_inc3 f78_35 ?_
      refine wv_s (pc' := 13) f78_38 rfl (fun _ => rfl) ?_
      refine (c78_l hg hxg n (k + 1) A1 _ (by omega) hO1).up (Nat.le_refl _) (fun v A' h => ?_)
      obtain ⟨fd', x', q1, q2, q3⟩ := h
      refine ⟨fd', x', q1, q2.trans e1, ?_⟩
      rw [show nxU (fun k => (anF g w.2.2 x.m k).1) (n + 1) k = nxU (fun k => (anF g w.2.2 x.m k).1) n (k + 1) by simp only [nxU]; rw [if_neg (by rw [hb]; decide)]]
      exact q3
theorem c78 {n k : Nat} (hO : okO A F L o f w s (ca, cc, [x]) b fi y me ct) (hg : g ∈ f.2.2) (hxg : x.h = g.a) (hk : x.p + 1 = (k : Int)) (hn : k + n = 100) : Wc sc 5 78 [.ref o, .int (zI x.i)] A (fun v A' => ∃ fd' x', okO A' F L o f w s (ca, cc, [x']) b (fi.1, fd') y me ct ∧ A'.2 = A.2 ∧ mvR (nxU (fun k => (anF g w.2.2 x.m k).1) n k) 100 x v x') := by
  show Wv sc 5 78 0 [some (.ref o), some (.int (zI x.i)), none, none] [] A _
  have h1 := hO.ob
  have hx := hO.cu (List.mem_cons_self ..)
  refine wv_s f78_0 rfl (fun _ => rfl) ?_
  refine wv_s f78_1 rfl (fun _ => rfl) ?_
  refine wv_valV f78_2 (by decide) (by simp) (by simp) (by decide +kernel) (by assumption) (by rfl) (by decide +kernel) rfl (c35_1 hO) (by omega) ?_
  refine wv_st2 f78_5 rfl (fun _ _ => rfl) ?_
  refine wv_s f78_6 rfl (fun _ => rfl) ?_
  refine wv_getfield f78_7 (hx) (by rfl) ?_
  refine wv_icon f78_10 ?_
  refine wv_iadd f78_11 ?_
  rw [hk]
  refine wv_st3 f78_12 rfl (fun _ _ => rfl) ?_
  exact c78_l hg hxg n k A fi.2 hn hO
theorem c78_e (hO : okO A F L o f w s (ca, cc, [x]) b fi y me ct) (hk : x.p = 100) : Wc sc 5 78 [.ref o, .int (zI x.i)] A (fun v A' => v = .inl (some (.int (zI (-1)))) ∧ okO A' F L o f w s (ca, cc, [x.go 100]) b fi y me ct ∧ A'.2 = A.2) := by
  show Wv sc 5 78 0 [some (.ref o), some (.int (zI x.i)), none, none] [] A _
  have h1 := hO.ob
  have hx := hO.cu (List.mem_cons_self ..)
  have hO1 := hO.putCu (p := 100) ⟨by omega, by omega⟩
  refine wv_s f78_0 rfl (fun _ => rfl) ?_
  refine wv_s f78_1 rfl (fun _ => rfl) ?_
  refine wv_valV f78_2 (by decide) (by simp) (by simp) (by decide +kernel) (by assumption) (by rfl) (by decide +kernel) rfl (c35_1 hO) (by omega) ?_
  refine wv_st2 f78_5 rfl (fun _ _ => rfl) ?_
  refine wv_s f78_6 rfl (fun _ => rfl) ?_
  refine wv_getfield f78_7 (hx) (by rfl) ?_
  refine wv_icon f78_10 ?_
  refine wv_iadd f78_11 ?_
  rw [hk]
  refine wv_st3 f78_12 rfl (fun _ _ => rfl) ?_
  refine wv_s f78_13 rfl (fun _ => rfl) ?_
  refine wv_bip f78_14 (by decide) ?_
  refine wv_cT_ge f78_16 (by omega) (by omega) (by omega) ?_
  refine wv_s f78_41 rfl (fun _ => rfl) ?_
  refine wv_bip f78_42 (by decide) ?_
  refine wv_putfield f78_44 (by assumption) (by simp) (by rfl) ?_
  refine wv_icon f78_47 ?_
  exact wv_iret f78_48 (by rfl) (⟨rfl, hO1, rfl⟩)
theorem c84_l (hg : g ∈ f.2.2) (hxg : x.h = g.a) : ∀ (k : Nat) (A : gA) (fd : FiD), k ≤ 100 → okO A F L o f w s (ca, cc, [x]) b (fa9, fd) y me ct →
    Wv sc 5 84 13 [some (.ref o), some (.int (zI x.i)), some (.ref x.a), some (.int (zI ((k : Int) - 1)))] [] A (fun v A' => ∃ fd' x', okO A' F L o f w s (ca, cc, [x']) b (fa9, fd') y me ct ∧ A'.2 = A.2 ∧ mvR (nxD (fun k => (anF g w.2.2 x.m k).1) k) (-1) x v x')
  | 0, A, fd, hk, hO => by
    have hx := hO.cu (List.mem_cons_self ..)
    have hO1 := hO.putCu (p := -1) ⟨by omega, by omega⟩
    refine wv_s f84_13 rfl (fun _ => rfl) ?_
    refine wv_zT_lt f84_14 (by omega) (by omega) ?_
    refine wv_s f84_39 rfl (fun _ => rfl) ?_
    refine wv_icon f84_40 ?_
    refine wv_putfield f84_41 (by assumption) (by simp) (by rfl) ?_
    refine wv_icon f84_44 ?_
    exact wv_iret f84_45 (by rfl) (⟨fd, x.go (-1), hO1, rfl, .inr ⟨rfl, rfl, rfl⟩⟩)
  | k + 1, A, fd, hk, hO => by
    have h1 := hO.ob
    rw [show ((k + 1 : Nat) : Int) - 1 = (k : Int) by omega]
    refine wv_s f84_13 rfl (fun _ => rfl) ?_
    refine wv_zF_lt f84_14 (by omega) (by omega) ?_
    refine wv_s f84_17 rfl (fun _ => rfl) ?_
    refine wv_s f84_18 rfl (fun _ => rfl) ?_
    refine wv_s f84_19 rfl (fun _ => rfl) ?_
    refine wv_resV f84_20 (by decide) (by simp) (by simp) (by decide +kernel) (by assumption) (by rfl) (by decide +kernel) rfl ((c63 hO hg hxg (z := (k : Int)) (by omega)).res) (by omega) (fun v9 A1 hv => ?_)
    obtain ⟨rfl, hA1⟩ := hv
    have hO1 := hO.putFi (fd := anF g w.2.2 x.m k)
    rw [← hA1] at hO1
    have e1 : A1.2 = A.2 := by rw [hA1]; rfl
    cases hb : (anF g w.2.2 x.m k).1 with
    | true =>
      have hx := hO1.cu (List.mem_cons_self ..)
      have hO2 := hO1.putCu (p := (k : Int)) ⟨by omega, by omega⟩
      refine wv_bF f84_23 (rfl) ?_
      refine wv_s f84_26 rfl (fun _ => rfl) ?_
      refine wv_s f84_27 rfl (fun _ => rfl) ?_
      refine wv_putfield f84_28 (by assumption) (by simp) (by rfl) ?_
      refine wv_s f84_31 rfl (fun _ => rfl) ?_
      exact wv_iret f84_32 (by rfl) (⟨_, x.go k, hO2, e1, .inl ⟨k, by simp only [nxD]; rw [if_pos hb], rfl, rfl⟩⟩)
    | false =>
      refine wv_bT f84_23 (rfl) ?_
      refine wv_inc3 f84_33 ?_
      refine wv_s (pc' := 13) f84_36 rfl (fun _ => rfl) ?_
      rw [show (k : Int) + -1 = (k : Int) - 1 by omega]
      refine (c84_l hg hxg k A1 _ (by omega) hO1).up (Nat.le_refl _) (fun v A' h => ?_)
      obtain ⟨fd', x', q1, q2, q3⟩ := h
      refine ⟨fd', x', q1, q2.trans e1, ?_⟩
      rw [show nxD (fun k => (anF g w.2.2 x.m k).1) (k + 1) = nxD (fun k => (anF g w.2.2 x.m k).1) k by simp only [nxD]; rw [if_neg (by rw [hb]; decide)]]
      exact q3
theorem c84 {k : Nat} (hO : okO A F L o f w s (ca, cc, [x]) b fi y me ct) (hg : g ∈ f.2.2) (hxg : x.h = g.a) (hk : x.p = (k : Int)) : Wc sc 5 84 [.ref o, .int (zI x.i)] A (fun v A' => ∃ fd' x', okO A' F L o f w s (ca, cc, [x']) b (fi.1, fd') y me ct ∧ A'.2 = A.2 ∧ mvR (nxD (fun k => (anF g w.2.2 x.m k).1) k) (-1) x v x') := by
  show Wv sc 5 84 0 [some (.ref o), some (.int (zI x.i)), none, none] [] A _
  have h1 := hO.ob
  have hx := hO.cu (List.mem_cons_self ..)
  have h3 := (hO.2.2.2.2.1 x (List.mem_cons_self ..)).2.2.2
  refine wv_s f84_0 rfl (fun _ => rfl) ?_
  refine wv_s f84_1 rfl (fun _ => rfl) ?_
  refine wv_valV f84_2 (by decide) (by simp) (by simp) (by decide +kernel) (by assumption) (by rfl) (by decide +kernel) rfl (c35_1 hO) (by omega) ?_
  refine wv_st2 f84_5 rfl (fun _ _ => rfl) ?_
  refine wv_s f84_6 rfl (fun _ => rfl) ?_
  refine wv_getfield f84_7 (hx) (by rfl) ?_
  refine wv_icon f84_10 ?_
  refine wv_isub f84_11 ?_
  rw [hk]
  refine wv_st3 f84_12 rfl (fun _ _ => rfl) ?_
  exact c84_l hg hxg k A fi.2 (by omega) hO
theorem c84_e (hO : okO A F L o f w s (ca, cc, [x]) b fi y me ct) (hk : x.p = -1) : Wc sc 5 84 [.ref o, .int (zI x.i)] A (fun v A' => v = .inl (some (.int (zI (-1)))) ∧ okO A' F L o f w s (ca, cc, [x.go (-1)]) b fi y me ct ∧ A'.2 = A.2) := by
  show Wv sc 5 84 0 [some (.ref o), some (.int (zI x.i)), none, none] [] A _
  have h1 := hO.ob
  have hx := hO.cu (List.mem_cons_self ..)
  have hO1 := hO.putCu (p := -1) ⟨by omega, by omega⟩
  refine wv_s f84_0 rfl (fun _ => rfl) ?_
  refine wv_s f84_1 rfl (fun _ => rfl) ?_
  refine wv_valV f84_2 (by decide) (by simp) (by simp) (by decide +kernel) (by assumption) (by rfl) (by decide +kernel) rfl (c35_1 hO) (by omega) ?_
  refine wv_st2 f84_5 rfl (fun _ _ => rfl) ?_
  refine wv_s f84_6 rfl (fun _ => rfl) ?_
  refine wv_getfield f84_7 (hx) (by rfl) ?_
  refine wv_icon f84_10 ?_
  refine wv_isub f84_11 ?_
  rw [hk]
  refine wv_st3 f84_12 rfl (fun _ _ => rfl) ?_
  refine wv_s f84_13 rfl (fun _ => rfl) ?_
  refine wv_zT_lt f84_14 (by omega) (by omega) ?_
  refine wv_s f84_39 rfl (fun _ => rfl) ?_
  refine wv_icon f84_40 ?_
  refine wv_putfield f84_41 (by assumption) (by simp) (by rfl) ?_
  refine wv_icon f84_44 ?_
  exact wv_iret f84_45 (by rfl) (⟨rfl, hO1, rfl⟩)
theorem c96 (hO : okO A F L o f w s (ca, cc, [x]) b fi y me ct) (hg : g ∈ f.2.2) (hxg : x.h = g.a) (hk : 0 ≤ x.p ∧ x.p < 100) : Wc sc 5 96 [.ref o, .int (zI x.i)] A (fun v A' => ∃ A1, okO A1 F L o f w s (ca, cc, [x]) b (fi.1, anF g w.2.2 x.m x.p) y me ct ∧ A1.2 = A.2 ∧ rdR (anF g w.2.2 x.m x.p) v A1 A') := by
  show Wv sc 5 96 0 [some (.ref o), some (.int (zI x.i)), none] [] A _
  have h1 := hO.ob
  obtain ⟨k1, k2, k3⟩ := hO.2.2.2.2.1 x (List.mem_cons_self ..)
  have hx : A.1 x.a = some (vO 3 [.int (zI x.i), .ref g.a, .int (zI x.m), .int (zI x.p)]) := by
    rw [← hxg]
    exact hO.cu (List.mem_cons_self ..)
  refine wv_s f96_0 rfl (fun _ => rfl) ?_
  refine wv_s f96_1 rfl (fun _ => rfl) ?_
  refine wv_valV f96_2 (by decide) (by simp) (by simp) (by decide +kernel) (by assumption) (by rfl) (by decide +kernel) rfl (c35_1 hO) (by omega) ?_
  refine wv_st2 f96_5 rfl (fun _ _ => rfl) ?_
  refine wv_s f96_6 rfl (fun _ => rfl) ?_
  refine wv_getfield f96_7 (hx) (by rfl) ?_
  refine wv_valS f96_10 (by decide) (by simp) (by simp) (by decide +kernel) (c60 (by omega)) (by omega) ?_
  refine wv_nT f96_13 (decide_eq_true hk) ?_
  refine wv_s f96_26 rfl (fun _ => rfl) ?_
  refine wv_s f96_27 rfl (fun _ => rfl) ?_
  refine wv_getfield f96_28 (hx) (by rfl) ?_
  refine wv_s f96_31 rfl (fun _ => rfl) ?_
  refine wv_getfield f96_32 (hx) (by rfl) ?_
  refine wv_s f96_35 rfl (fun _ => rfl) ?_
  refine wv_getfield f96_36 (hx) (by rfl) ?_
  refine wv_effV f96_39 (by decide) (by simp) (by simp) (by decide +kernel) (by assumption) (by rfl) (by decide +kernel) rfl (c49 hO hg (by omega) k2) (by omega) (fun A2 hA2 => ?_)
  have q2 := hO.putFi (fd := anF g w.2.2 x.m x.p)
  rw [show aPut A fi.1 (cFi (anF g w.2.2 x.m x.p)) = A2 from hA2.symm] at q2
  have h2 := q2.ob
  have e2 : A2.2 = A.2 := by rw [hA2]; rfl
  refine wv_s f96_42 rfl (fun _ => rfl) ?_
  cases ht : (anF g w.2.2 x.m x.p).1 with
  | true =>
    refine wv_valV f96_43 (by decide) (by simp) (by simp) (by decide +kernel) (by assumption) (by rfl) (by decide +kernel) rfl (c54 q2 ht) (by omega) ?_
    exact wv_iret f96_46 (by rfl) (⟨A2, q2, e2, .inl ⟨ht, rfl, rfl⟩⟩)
  | false =>
    exact wv_thrV f96_43 (by decide) (by simp) (by simp) (by decide +kernel) h2 (by rfl) (by decide +kernel) rfl (c54_t q2 ht) (by omega) (by decide +kernel) (by decide +kernel) (fun A' h => ⟨A2, q2, e2, .inr ⟨ht, rfl, h⟩⟩)
theorem c96_t (hO : okO A F L o f w s (ca, cc, [x]) b fi y me ct) (hk : x.p = -1) : Wc sc 5 96 [.ref o, .int (zI x.i)] A (fun v A' => v = .inr 3 ∧ A' = aThr A) := by
  show Wv sc 5 96 0 [some (.ref o), some (.int (zI x.i)), none] [] A _
  have h1 := hO.ob
  have hx : A.1 x.a = some (vO 3 [.int (zI x.i), .ref x.h, .int (zI x.m), .int (zI x.p)]) := hO.cu (List.mem_cons_self ..)
  refine wv_s f96_0 rfl (fun _ => rfl) ?_
  refine wv_s f96_1 rfl (fun _ => rfl) ?_
  refine wv_valV f96_2 (by decide) (by simp) (by simp) (by decide +kernel) (by assumption) (by rfl) (by decide +kernel) rfl (c35_1 hO) (by omega) ?_
  refine wv_st2 f96_5 rfl (fun _ _ => rfl) ?_
  refine wv_s f96_6 rfl (fun _ => rfl) ?_
  refine wv_getfield f96_7 (hx) (by rfl) ?_
  refine wv_valS f96_10 (by decide) (by simp) (by simp) (by decide +kernel) (c60 (by omega)) (by omega) ?_
  refine wv_nF f96_13 (decide_eq_false (by omega)) ?_
  exact wv_throw f96_16 (by decide) (by simp) (by decide +kernel) (⟨rfl, rfl⟩)
theorem c30 (hO : okO A F L o f w s (ca, cc, [x]) b fi y me ct) : Wc sc 4 30 [.ref o, .int (zI x.i)] A (fun v A' => v = .inl (some (.int (zI 0))) ∧ okO A' F L o f w s (ca, cc, []) b fi y me ct ∧ A'.2 = A.2) := by
  show Wv sc 4 30 0 [some (.ref o), some (.int (zI x.i)), none] [] A _
  have h1 := hO.ob
  have h2 : A.1 ca = some (vL cc [x.a]) := hO.cl
  have k1 := (hO.2.2.2.2.1 x (List.mem_cons_self ..)).1
  refine wv_s f30_0 rfl (fun _ => rfl) ?_
  refine wv_s f30_1 rfl (fun _ => rfl) ?_
  refine wv_valV f30_2 (by decide) (by simp) (by simp) (by decide +kernel) (by assumption) (by rfl) (by decide +kernel) rfl (c82 hO (by omega)) (by omega) ?_
  refine wv_st2 f30_5 rfl (fun _ _ => rfl) ?_
  have e1 : plI (x.i : Int) 0 (((ca, cc, [x]) : Ls CuD).2.2.map CuD.i) = 0 := by show plI _ 0 [x.i] = 0; simp only [plI]; rw [if_pos trivial]; rfl
  rw [e1]
  refine wv_s f30_6 rfl (fun _ => rfl) ?_
  refine wv_zF_lt f30_7 (by omega) (by omega) ?_
  refine wv_s f30_10 rfl (fun _ => rfl) ?_
  refine wv_s f30_11 rfl (fun _ => rfl) ?_
  refine wv_getfield f30_12 (by assumption) (by rfl) ?_
  refine wv_lsize f30_15 h2 (by omega) (by simp) (fun hs => ?_)
  rw [show ([x.a] : List Nat).length = 1 from rfl]
  refine wv_cT_lt f30_18 (by omega) (by omega) (by omega) ?_
  refine wv_s f30_31 rfl (fun _ => rfl) ?_
  refine wv_getfield f30_32 (by assumption) (by rfl) ?_
  refine wv_s f30_35 rfl (fun _ => rfl) ?_
  refine wv_lrem (j := 0) f30_36 h2 rfl rfl (by omega) (by simp) ?_
  have hO1 := hO.clC
  have h3 := hO1.ob
  have h4 : (aPut A ca (vL cc [])).1 ca = some (vL cc []) := hO1.cl
  show Wv sc 4 30 39 _ _ (aPut A ca (vL cc [])) _
  refine wv_s f30_39 rfl (fun _ => rfl) ?_
  refine wv_s f30_40 rfl (fun _ => rfl) ?_
  refine wv_getfield f30_41 (by assumption) (by rfl) ?_
  refine wv_lsize f30_44 h4 (by omega) (by simp) (fun hs => ?_)
  exact wv_iret f30_47 (by rfl) (⟨rfl, hO1, rfl⟩)
theorem c30_t (hO : okO A F L o f w s (ca, cc, []) b fi y me ct) (hz : i32 z) : Wc sc 4 30 [.ref o, .int (zI z)] A (fun v A' => v = .inr 0 ∧ A' = aThr A) := by
  show Wv sc 4 30 0 [some (.ref o), some (.int (zI z)), none] [] A _
  have h1 := hO.ob
  refine wv_s f30_0 rfl (fun _ => rfl) ?_
  refine wv_s f30_1 rfl (fun _ => rfl) ?_
  refine wv_valV f30_2 (by decide) (by simp) (by simp) (by decide +kernel) (by assumption) (by rfl) (by decide +kernel) rfl (c82 hO hz) (by omega) ?_
  refine wv_st2 f30_5 rfl (fun _ _ => rfl) ?_
  rw [show plI z 0 (((ca, cc, []) : Ls CuD).2.2.map CuD.i) = -1 from rfl]
  refine wv_s f30_6 rfl (fun _ => rfl) ?_
  refine wv_zT_lt f30_7 (by omega) (by omega) ?_
  exact wv_throw f30_21 (by decide) (by simp) (by decide +kernel) (⟨rfl, rfl⟩)
/-- backups -/
theorem okO.inF (h : okO A F L o f w s c b fi y me ct) {p : Nat × vC} (hp : p ∈ obC o f w s c b fi y me ct L) : inFL F (obC o f w s c b fi y me ct L) p.1 p.2 := .inr hp
theorem obC_tm {p : Nat × vC} (hp : p ∈ obT f w c me L) : p ∈ obC o f w s c b fi y me ct L := by
  simp only [obC, List.mem_cons]
  exact .inr (.inr (.inr (.inr (.inr (.inr (.inr (.inr hp)))))))
theorem c23 {B : Nat} (hO : okO A F L o f w s c b fi y me ct) (h3 : b.2.2.length < 3) (hB : ∀ g, g ∈ f.2.2 → ∀ l, l ∈ g.lv → l.rs.length ≤ B) (hB2 : B < 2600) (hf3 : f.2.2.length ≤ 3) :
    Wc sc 10 23 [.ref o] A (fun v A' => v = .inl (some (.int (zI b.2.2.length))) ∧ ∃ bk F' c', Ext F F' ∧ bk.fams.map FamD.dat = f.2.2.map FamD.dat ∧ bk.sts = stB w.2.2 ∧ okO A' F' L o f w s c (b.1, c', b.2.2 ++ [bk]) fi y me ct ∧ 5 * A'.2.1 ≤ 5 * A.2.1 + 50 + 3 * (90 + 8 * B) ∧ A'.2.2 ≤ A.2.2 + 140 + 3 * (187 + 32 * B) + w.2.2.length) := by
  show Wv sc 10 23 0 [some (.ref o)] [] A _
  have h1 := hO.ob
  have h2 := hO.bl
  refine wv_s f23_0 rfl (fun _ => rfl) ?_
  refine wv_getfield f23_1 (h1) (by rfl) ?_
  refine wv_lsize f23_4 (h2) (by omega) (by simp) (fun hs => ?_)
  rw [List.length_map] at hs ⊢
  refine wv_icon f23_7 ?_
  refine wv_cT_lt f23_8 (by omega) (by omega) (by omega) ?_
  refine wv_s f23_22 rfl (fun _ => rfl) ?_
  refine wv_getfield f23_23 (h1) (by rfl) ?_
  refine wv_newZ f23_26 (by decide) (by decide) (zs := [.null, .null]) (by rfl) (fun q hq => ?_)
  have hO1 := hO.1.new (n := gN 1) (c := vO 1 [.null, .null]) hq
  have h4 := hO1.at (q := o) (List.mem_cons_of_mem _ (List.mem_cons_self ..))
  refine wv_s f23_29 rfl (fun _ => rfl) ?_
  refine wv_s f23_30 rfl (fun _ => rfl) ?_
  refine wv_getfield f23_31 (h4) (by rfl) ?_
  refine wv_s f23_34 rfl (fun _ => rfl) ?_
  refine wv_getfield f23_35 (h4) (by rfl) ?_
  refine wv_effI f23_38 (by decide) (by simp) (by simp) (by decide +kernel) (by rfl) (c100 (B := B) (L := obC o f w s c b fi y me ct L) (ha := f.1) (hc := f.2.1) (wa := w.1) (wc := w.2.1) (.inr (by simp [obC])) (fun g hg => ⟨(hO.2.1 g hg).1, fun l hl => ⟨⟨.inr (obC_tm (obT_mem.mpr (.inr (.inr (.inr (.inl (List.mem_flatMap.mpr ⟨g, hg, (fCells_mem hl).1⟩))))))), .inr (obC_tm (obT_mem.mpr (.inr (.inr (.inr (.inl (List.mem_flatMap.mpr ⟨g, hg, (fCells_mem hl).2⟩))))))), ((hO.2.1 g hg).2 l hl).1, ((hO.2.1 g hg).2 l hl).2⟩, hB g hg l hl⟩⟩) hB2 hf3 (.inr (by simp [obC])) (fun x hx => ⟨.inr (obC_tm (obT_mem.mpr (.inr (.inr (.inl (List.mem_map_of_mem (f := wrP) hx)))))), (hO.2.2.1 x hx).2.2.2⟩) hO1) (by omega) (fun A2 hA2 => ?_)
  obtain ⟨bk, F', rfl, g2, g3, g4, g5, g6, g7, g8⟩ := hA2
  have hO2 : okO A2 F' L o f w s c b fi y me ct := ⟨g6, hO.2.ext g4⟩
  have h5 := hO2.ob
  have h6 := hO2.bl
  have h7 := (g5.ext hO2.1.1).1
  have hll : (b.2.2.map BkD.a).length = b.2.2.length := List.length_map _
  refine wv_ladd f23_41 h6 h7 (by decide +kernel) (by omega) (by omega) (by simp) (fun c1 k1 s1 hlg => ?_)
  rw [hll] at hlg
  have hlf := lg_flat hlg
  have hO3 : okO (aLst A2 b.1 (vL c1 ((b.2.2 ++ [bk]).map BkD.a)) k1 s1) F' L o f w s c (b.1, c1, b.2.2 ++ [bk]) fi y me ct := by
    refine ⟨hO2.1.setAt 5 rfl, hO2.2.1, hO2.2.2.1, hO2.2.2.2.1, hO2.2.2.2.2.1, fun x hx => ?_, hO2.2.2.2.2.2.2⟩
    rcases List.mem_append.mp hx with hx | hx
    · exact hO2.2.2.2.2.2.1 x hx
    · rw [List.mem_singleton.mp hx]
      exact g5
  rw [List.map_append] at hO3
  have h8 := hO3.ob
  have h9 := hO3.bl
  have e7 : (aNew A bk.a (vO 1 [.null, .null]) (gN 1)).2 = (A.2.1 + 1, A.2.2 + 2) := rfl
  rw [e7] at g7 g8
  simp only at g7 g8
  have h9' : (aLst A2 b.1 (vL c1 (b.2.2.map BkD.a ++ [bk].map BkD.a)) k1 s1).1 b.1 = some (vL c1 (b.2.2.map BkD.a ++ [bk.a])) := aLst_self
  refine wv_s f23_44 rfl (fun _ => rfl) ?_
  refine wv_s f23_45 rfl (fun _ => rfl) ?_
  refine wv_getfield f23_46 (h8) (by rfl) ?_
  refine wv_lsize f23_49 h9' (by omega) (by simp) (fun hs2 => ?_)
  refine wv_icon f23_52 ?_
  refine wv_isub f23_53 ?_
  rw [show ((b.2.2.map BkD.a ++ [bk.a]).length : Int) - 1 = (b.2.2.length : Int) by rw [List.length_append, List.length_map, List.length_singleton]; omega]
  exact wv_iret f23_54 (by rfl) ⟨rfl, bk, F', c1, g4, g2, g3, hO3, by show 5 * (A2.2.1 + k1) ≤ _; omega, by show A2.2.2 + s1 ≤ _; omega⟩
theorem c23_t (hO : okO A F L o f w s c b fi y me ct) (h3 : 3 ≤ b.2.2.length) : Wc sc 10 23 [.ref o] A (fun v A' => v = .inr 2 ∧ A' = aThr A) := by
  show Wv sc 10 23 0 [some (.ref o)] [] A _
  have h1 := hO.ob
  have h2 := hO.bl
  refine wv_s f23_0 rfl (fun _ => rfl) ?_
  refine wv_getfield f23_1 (h1) (by rfl) ?_
  refine wv_lsize f23_4 (h2) (by omega) (by simp) (fun hs => ?_)
  rw [List.length_map] at hs ⊢
  refine wv_icon f23_7 ?_
  refine wv_cF_lt f23_8 (by omega) (by omega) (by omega) ?_
  exact wv_throw f23_11 (by decide) (by simp) (by decide +kernel) (⟨rfl, rfl⟩)
theorem stLv0 {V : Nat → Option vC} {l : LvD} (h : stLv V [] l) : okLv V l := ⟨h.1.elim id (fun w => by cases w), h.2.1.elim id (fun w => by cases w), h.2.2.1, h.2.2.2⟩
theorem c91_l {bk : BkD} {x1 x2 : Option Value} (hb : okBk A.1 bk) (h3 : bk.fams.length ≤ 3) : ∀ (k i n : Nat), i + k = bk.fams.length → n ≤ 16000 * i →
    Wv sc 6 91 19 [some (.ref o), x1, x2, some (.ref bk.a), some (.ref bk.a), some (.int (zI n)), some (.int (zI i))] [] A (fun v A' => ∃ v9, v = .inl (some v9) ∧ ∃ n : Nat, v9 = .int (zI n) ∧ n ≤ 48000 ∧ A' = A)
  | 0, i, n, hik, hn => by
    obtain ⟨k1, k2, k3, k4, k5⟩ := hb
    refine wv_s f91_19 rfl (fun _ => rfl) ?_
    refine wv_s f91_21 rfl (fun _ => rfl) ?_
    refine wv_getfield f91_22 (k1) (by rfl) ?_
    refine wv_lsize f91_25 (k2) (by omega) (by simp) (fun hs => ?_)
    rw [List.length_map] at hs ⊢
    refine wv_cT_ge f91_28 (by omega) (by omega) (by omega) ?_
    refine wv_s f91_83 rfl (fun _ => rfl) ?_
    exact wv_iret f91_85 (by rfl) (⟨_, rfl, n, rfl, by omega, rfl⟩)
  | k + 1, i, n, hik, hn => by
    have hb0 := hb
    obtain ⟨k1, k2, k3, k4, k5⟩ := hb
    obtain ⟨g, hgm, hg0, hg1, hgd, -⟩ := at_i (show i < bk.fams.length by omega)
    obtain ⟨q1, q2⟩ := k4 g hgm
    have q3 := q1.1
    refine wv_s f91_19 rfl (fun _ => rfl) ?_
    refine wv_s f91_21 rfl (fun _ => rfl) ?_
    refine wv_getfield f91_22 (k1) (by rfl) ?_
    refine wv_lsize f91_25 (k2) (by omega) (by simp) (fun hs => ?_)
    rw [List.length_map] at hs ⊢
    refine wv_cF_ge f91_28 (by omega) (by omega) (by omega) ?_
    refine wv_s f91_31 rfl (fun _ => rfl) ?_
    refine wv_s f91_33 rfl (fun _ => rfl) ?_
    refine wv_getfield f91_35 (k1) (by rfl) ?_
    refine wv_lsize f91_38 (k2) (by omega) (by simp) (fun hs2 => ?_)
    rw [List.length_map] at hs2 ⊢
    refine wv_cF_ge f91_41 (by omega) (by omega) (by omega) ?_
    refine wv_s f91_44 rfl (fun _ => rfl) ?_
    refine wv_s f91_46 rfl (fun _ => rfl) ?_
    refine wv_getfield f91_47 (k1) (by rfl) ?_
    refine wv_s f91_50 rfl (fun _ => rfl) ?_
    refine wv_lget f91_52 (k2) (by first | rfl | omega) (hg1 _) (by omega) (by simp) ?_
    refine wv_cast f91_55 (q3) ?_
    refine wv_s f91_58 rfl (fun _ => rfl) ?_
    refine wv_getfield f91_60 (k1) (by rfl) ?_
    refine wv_s f91_63 rfl (fun _ => rfl) ?_
    refine wv_lget f91_65 (k2) (by first | rfl | omega) (hg1 _) (by omega) (by simp) ?_
    refine wv_cast f91_68 (q3) ?_
    refine wv_resV f91_71 (by decide) (by simp) (by simp) (by decide +kernel) q3 (by rfl) (by decide +kernel) rfl (c107 q1 (fun l hl => stLv0 (q2 l hl)) q1 (fun l hl => stLv0 (q2 l hl))) (by omega) (fun v A1 hv => ?_)
    obtain ⟨n1, rfl, hn1, hA1⟩ := hv
    rw [hA1]
    refine wv_iadd f91_74 ?_
    refine wv_st5 f91_75 rfl (fun _ _ => rfl) ?_
    refine wv_inc6 f91_77 ?_
    refine wv_s (pc' := 19) f91_80 rfl (fun _ => rfl) ?_
    exact c91_l hb0 h3 k (i + 1) (n + n1) (by omega) (by omega)
theorem c91 {bk : BkD} (hO : okO A F L o f w s c b fi y me ct) (hg : b.2.2[i]? = some bk) (h3 : bk.fams.length ≤ 3) : Wc sc 6 91 [.ref o, .int (zI i), .int (zI i)] A (fun v A' => ∃ v9, v = .inl (some v9) ∧ ∃ n : Nat, v9 = .int (zI n) ∧ n ≤ 48000 ∧ A' = A) := by
  show Wv sc 6 91 0 [some (.ref o), some (.int (zI i)), some (.int (zI i)), none, none, none, none] [] A _
  have h1 := hO.ob
  refine wv_s f91_0 rfl (fun _ => rfl) ?_
  refine wv_s f91_1 rfl (fun _ => rfl) ?_
  refine wv_valV f91_2 (by decide) (by simp) (by simp) (by decide +kernel) (by assumption) (by rfl) (by decide +kernel) rfl (c24 hO hg) (by omega) ?_
  refine wv_st3 f91_5 rfl (fun _ _ => rfl) ?_
  refine wv_s f91_6 rfl (fun _ => rfl) ?_
  refine wv_s f91_7 rfl (fun _ => rfl) ?_
  refine wv_valV f91_8 (by decide) (by simp) (by simp) (by decide +kernel) (by assumption) (by rfl) (by decide +kernel) rfl (c24 hO hg) (by omega) ?_
  refine wv_st4 f91_11 rfl (fun _ _ => rfl) ?_
  refine wv_icon f91_13 ?_
  refine wv_st5 f91_14 rfl (fun _ _ => rfl) ?_
  refine wv_icon f91_16 ?_
  refine wv_st6 f91_17 rfl (fun _ _ => rfl) ?_
  exact c91_l (hO.bk (List.mem_of_getElem? hg)) h3 bk.fams.length 0 0 (by omega) (by omega)
end CU
