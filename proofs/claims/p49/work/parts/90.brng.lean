/-! THE LAW BRINGS IN -/
theorem wok_br {xa ca gg n fr to_ st : Nat} {v : Int32} (hs : 1 ≤ st) (h1 : fr ≤ to_) (h2 : to_ ≤ fr + 2 * st) (ht : to_ < 18) (hv : -4 ≤ v.toInt ∧ v.toInt ≤ 4) : WOk (newWr xa ca gg 1 n fr to_ v st 3) :=
  ⟨Nat.le_refl 3, fun q => (by have q' : (3 : Nat) = 1 ∨ (3 : Nat) = 2 := q; omega), fun q => (by have q' : st = 0 := q; omega), fun _ => ⟨rfl, h1, h2⟩, ht, hv⟩
theorem lwr_br {xa ca gg n fr to_ st : Nat} {v : Int32} {fn : Nat → Int32} (h0 : fn 0 = zI gg) (h1 : fn 1 = zI 112) (h2 : fn 2 = zI fr) (h3 : fn 3 = zI to_) (h4 : fn 4 = v) (h5 : fn 5 = zI st) (h6 : fn 6 = zI 1) (h7 : fn 7 = zI 0) (h8 : fn 8 = zI 0) : LwR (newWr xa ca gg 1 n fr to_ v st 3) fn :=
  ⟨h0, h1, h2, h3, fun _ => h4, h5, .inr h6, .inl h7, h8, fun _ => h6, fun q => (by have q' : (3 : Nat) = 1 ∨ (3 : Nat) = 2 := q; omega), fun q => (by have q' : (3 : Nat) = 1 := q; omega), fun q => (by have q' : (3 : Nat) = 2 := q; omega)⟩
section IB
variable {sc : gSc} {d : Nat} {A A0 : gA} {F : Nat → Option vC} {L : List (Nat × vC)} {o : Nat} {f : Ls FamD} {w : Ls WrD} {s : Ls SnD} {c : Ls CuD} {b : Ls BkD} {fi : Nat × FiD} {y : Ls ChD} {me : Option MeD} {ct : CtD} {g : FamD} {i j m n k qm qa : Nat} {x z : Int} {fm : Nat → Int32} {rows : List LrD} {K : List (Nat × vC)} {ws : List WrD} {f1 f2 : List FamD} {l0 : LvD} {lt : List LvD} {first step cnt : Nat} {v : Int32}
def tchd (gg first : Nat) (last : Int) (ws : List WrD) : Bool := ws.any (fun v => v.memOf gg && v.c.ov first last)
theorem tchd_pos {gg : Nat} {last : Int} (h : tchd gg first last ws = true) : 0 < cntM gg ws := by
  obtain ⟨u, hu, h1⟩ := List.any_eq_true.mp h
  have h2 := (Bool.and_eq_true_iff.mp h1).1
  exact List.length_pos_of_mem (List.mem_filter.mpr ⟨hu, h2⟩)
theorem tchd_fl {gg : Nat} {last : Int} : (ws.map (flW gg)).any (fun v => v.memOf gg && v.c.ov first last) = false := by
  refine List.any_eq_false.mpr (fun u hu => ?_)
  obtain ⟨u', -, rfl⟩ := List.mem_map.mp hu
  rw [fl_no, Bool.false_and]
  decide
def BwQ (A : gA) (F : Nat → Option vC) (L : List (Nat × vC)) (o : Nat) (f : Ls FamD) (w : Ls WrD) (s : Ls SnD) (c : Ls CuD) (b : Ls BkD) (fi : Nat × FiD) (y : Ls ChD) (me : Option MeD) (ct : CtD) (gg first step cnt : Nat) (v : Int32) (v8 : Value) (A' : gA) : Prop :=
  ∃ (jl : Nat) (F' : Nat → Option vC) (f' : Ls FamD) (w' : Ls WrD) (ct' : CtD) (xa ca df : Nat), v8 = .int (zI jl) ∧ jl ≤ 3 ∧ Ext F F' ∧ okO A' F' L o f' w' s c b fi y me ct' ∧ df = (if tchd gg first ((first + step * (cnt - 1) : Nat) : Int) w.2.2 = true then 2 else 1) ∧ w'.2.2 = (if tchd gg first ((first + step * (cnt - 1) : Nat) : Int) w.2.2 = true then w.2.2.map (flW gg) else w.2.2) ++ [newWr xa ca gg 1 (w.2.2.length + 1) first (first + step * (cnt - 1)) v step 3] ∧
    GI (s.2.2.map SnD.m) ct'.2.2.1 f'.2.2 w'.2.2 b.2.2 me ∧ Same f.2.2 f'.2.2 ∧ ctK ct' = ctKs ct df df ∧ 5 * A'.2.1 ≤ 5 * A.2.1 + 3000 ∧ A'.2.2 ≤ A.2.2 + 12000
def BwX (A : gA) (F : Nat → Option vC) (L : List (Nat × vC)) (o : Nat) (f : Ls FamD) (w : Ls WrD) (s : Ls SnD) (c : Ls CuD) (b : Ls BkD) (fi : Nat × FiD) (y : Ls ChD) (me : Option MeD) (ct : CtD) (n6 gg first step cnt : Nat) (v : Int32) (v9 : gO) (A' : gA) : Prop :=
  (6 ≤ n6 ∧ v9 = .inr 2 ∧ A' = aThr A) ∨ (n6 < 6 ∧ ∃ v8, v9 = .inl (some v8) ∧ BwQ A F L o f w s c b fi y me ct gg first step cnt v v8 A')
def BwY (A : gA) (F : Nat → Option vC) (L : List (Nat × vC)) (o : Nat) (f : Ls FamD) (w : Ls WrD) (s : Ls SnD) (c : Ls CuD) (b : Ls BkD) (fi : Nat × FiD) (y : Ls ChD) (me : Option MeD) (ct : CtD) (n6 gg first step cnt : Nat) (v : Int32) (v9 : gO) (A' : gA) : Prop :=
  ∃ v8, v9 = .inl (some v8) ∧ ((6 ≤ n6 ∧ v8 = .int (zI (-2000003)) ∧ A' = aThr A) ∨ (n6 < 6 ∧ BwQ A F L o f w s c b fi y me ct gg first step cnt v v8 A'))
theorem c28_x {last : Nat} (hO : okO A F L o f w s c b fi y me ct) (hG : GI (s.2.2.map SnD.m) ct.2.2.1 f.2.2 w.2.2 b.2.2 me) (hlw : w.2.2.length ≤ 119) (hf : f.2.2 = f1 ++ g :: f2) (hg : g.lv = l0 :: lt) (hcnt : cnt ≤ 3) (hc1 : 1 ≤ cnt) (hst : 1 ≤ step ∧ step ≤ 3) (hfs : first + step * (cnt - 1) < 18) (hfl : first ≤ last) (hla : last < 100) (hq1 : (last - first) / step = cnt - 1) (hq2 : last - (last - first) % step = first + step * (cnt - 1)) (hv : -4 ≤ v.toInt ∧ v.toInt ≤ 4) (hid : ct.2.2.1 + 2 < 1000000) (hvs : ct.2.2.2.2.1 + 2 ≤ 1000000) :
    Wc sc 11 28 [.ref o, .int (zI f1.length), .int (zI first), .int (zI last), .int (zI step), .int v] A (BwX A F L o f w s c b fi y me ct l0.rs.length g.g first step cnt v) := by
  have hgm : g ∈ f.2.2 := by rw [hf]; simp
  have h4 := hO.l4 g hgm
  have hsc : step * (cnt - 1) ≤ 2 * step := by
    rw [Nat.mul_comm 2]
    exact Nat.mul_le_mul_left _ (by omega)
  by_cases h6 : l0.rs.length < 6
  · have hrl : ∀ l, l ∈ g.lv → l.rs.length ≤ 480 := fun l hl => (lv_wt hO hG (by omega) hgm hl).2
    refine c28_a hO hf hg h6 (by omega) hc1 ⟨hst.1, by omega⟩ hfl hla hq1 hq2 (by omega) (by omega) (by omega) (fun ht A1 ct1 hct1 hO1 hA1 => ?_) (fun ht A1 F1 ct1 r c1 hct1 hE1 r1 r2 r3 r4 r5 hO1 hC1 hS1 => ?_)
    · have hk := ctK_0 hct1
      have hA1' : A1.2.1 = A.2.1 ∧ A1.2.2 = A.2.2 := by rw [hA1]; exact ⟨rfl, rfl⟩
      refine (c28_b hO1 hf (by omega) hc1 ⟨hst.1, by omega⟩ (by omega) (by omega) (by omega) (by omega) (fun l hl => by have := hrl l hl; omega)).up (Nat.le_refl _) (fun v9 A2 hv2 => .inr ⟨h6, ?_⟩)
      obtain ⟨jl, l, xa, ca, c', F', ct', r, c2, b1, b2, b3, b4, b5, b6, b7, b8, b9, b10, b11, b12, b13, b14⟩ := hv2
      have hjl := (List.getElem?_eq_some_iff.mp b1).1
      have hlr := hrl l (List.mem_of_getElem? b1)
      have hG1 := hG.bring (w := newWr xa ca g.g 1 (w.2.2.length + 1) first (first + step * (cnt - 1)) v step 3) (l' := (l.a, l.mu, l.la, c2, insLv jl r l)) hf b1 rfl b2 rfl rfl rfl rfl rfl rfl (wok_br hst.1 (Nat.le_add_right _ _) (by omega) hfs hv) b9 b10 hst.1 hc1 (by omega) (by rw [b7, hk.2.2.1]) b8 ht (fun l9 hl9 => by
        rw [hg] at hl9
        cases hl9
        omega)
      have hk2 := ctK_0 b6
      refine ⟨_, b3, jl, F', _, _, ct', xa, ca, 1, rfl, by omega, b4, b12, ?_, ?_, ?_, by rw [hf]; exact same_lv, ?_, by omega, by omega⟩
      · rw [if_neg (by rw [show tchd g.g first _ w.2.2 = false from ht]; decide)]
      · rw [if_neg (by rw [show tchd g.g first _ w.2.2 = false from ht]; decide)]
      · rw [hk2.2.2.1, hk.2.2.1, Nat.add_zero]
        exact hG1
      · simp only [ctK, ctKs, Prod.mk.injEq] at hct1 b6 ⊢
        omega
    · have hk := ctK_0 hct1
      have hG0 := hG.flush (l0' := (l0.a, l0.mu, l0.la, c1, r :: l0.rs)) hf hg rfl r3 r4 r1 r2 (tchd_pos ht) (by omega)
      rw [show ct.2.2.1 + 1 = ct1.2.2.1 by omega] at hG0
      have hgm1 : setLv g ((l0.a, l0.mu, l0.la, c1, r :: l0.rs) :: lt) ∈ f1 ++ setLv g ((l0.a, l0.mu, l0.la, c1, r :: l0.rs) :: lt) :: f2 := by simp
      have hlm : (w.2.2.map (flW g.g)).length = w.2.2.length := List.length_map ..
      have hrl1 : ∀ l, l ∈ (setLv g ((l0.a, l0.mu, l0.la, c1, r :: l0.rs) :: lt)).lv → l.rs.length ≤ 480 := fun l hl => (lv_wt (w := (w.1, w.2.1, w.2.2.map (flW g.g))) hO1 hG0 (by show (w.2.2.map (flW g.g)).length ≤ 120; omega) hgm1 hl).2
      refine (c28_b (g := setLv g ((l0.a, l0.mu, l0.la, c1, r :: l0.rs) :: lt)) hO1 rfl (by omega) hc1 ⟨hst.1, by omega⟩ (by omega) (by show (w.2.2.map (flW g.g)).length < 1900; omega) (by omega) (by omega) (fun l hl => by have := hrl1 l hl; omega)).up (Nat.le_refl _) (fun v9 A2 hv2 => .inr ⟨h6, ?_⟩)
      obtain ⟨jl, l, xa, ca, c', F', ct', r9, c2, b1, b2, b3, b4, b5, b6, b7, b8, b9, b10, b11, b12, b13, b14⟩ := hv2
      have hjl : jl < (setLv g ((l0.a, l0.mu, l0.la, c1, r :: l0.rs) :: lt)).lv.length := (List.getElem?_eq_some_iff.mp b1).1
      have h44 : (setLv g ((l0.a, l0.mu, l0.la, c1, r :: l0.rs) :: lt)).lv.length = 4 := by
        rw [hg] at h4
        exact h4
      have hlr := hrl1 l (List.mem_of_getElem? b1)
      have b9' : r9.rows.map Prod.snd = brL ((w.2.2.map (flW g.g)).length + 1) first step v cnt := b9
      have b12' : okO A2 F' L o (f.1, f.2.1, f1 ++ setLv (setLv g ((l0.a, l0.mu, l0.la, c1, r :: l0.rs) :: lt)) ((setLv g ((l0.a, l0.mu, l0.la, c1, r :: l0.rs) :: lt)).lv.take jl ++ (l.a, l.mu, l.la, c2, insLv jl r9 l) :: (setLv g ((l0.a, l0.mu, l0.la, c1, r :: l0.rs) :: lt)).lv.drop (jl + 1)) :: f2) (w.1, c', w.2.2.map (flW g.g) ++ [newWr xa ca g.g 1 ((w.2.2.map (flW g.g)).length + 1) first (first + step * (cnt - 1)) v step 3]) s c b fi y me ct' := b12
      have hG1 := hG0.bring (g := setLv g ((l0.a, l0.mu, l0.la, c1, r :: l0.rs) :: lt)) (w := newWr xa ca g.g 1 ((w.2.2.map (flW g.g)).length + 1) first (first + step * (cnt - 1)) v step 3) (l' := (l.a, l.mu, l.la, c2, insLv jl r9 l)) rfl b1 rfl b2 rfl rfl rfl rfl rfl rfl (wok_br hst.1 (Nat.le_add_right _ _) (by omega) hfs hv) b9' b10 hst.1 hc1 (by omega) b7 b8 tchd_fl (fun l9 hl9 => by
        have hl9' : some (l0.a, l0.mu, l0.la, c1, r :: l0.rs) = some l9 := hl9
        cases hl9'
        show l0.rs.length + 1 ≤ 999
        omega)
      have hk2 := ctK_0 b6
      have b13' : 5 * A2.2.1 ≤ 5 * A1.2.1 + 150 + 2 * (w.2.2.map (flW g.g)).length + 2 * l.rs.length := b13
      have b14' : A2.2.2 ≤ A1.2.2 + 460 + 8 * (w.2.2.map (flW g.g)).length + 8 * l.rs.length := b14
      rw [hlm] at b12' hG1 b13' b14'
      refine ⟨_, b3, jl, F', _, _, ct', xa, ca, 2, rfl, by omega, hE1.trans b4, b12', ?_, ?_, ?_, by rw [hf]; exact same_lv, ?_, by omega, by omega⟩
      · rw [if_pos (show tchd g.g first _ w.2.2 = true from ht)]
      · rw [if_pos (show tchd g.g first _ w.2.2 = true from ht)]
      · rw [hk2.2.2.1]
        exact hG1
      · simp only [ctK, ctKs, Prod.mk.injEq] at hct1 b6 ⊢
        omega
  · exact (c28_t hO hf hg (by omega) (by omega) hc1 ⟨hst.1, by omega⟩ hfl hla hq1).up (Nat.le_refl _) (fun v A' hv => .inl ⟨by omega, hv⟩)
theorem bwX_R {n6 gg : Nat} : isR (BwX A F L o f w s c b fi y me ct n6 gg first step cnt v) := by
  rintro v9 A' (h | h)
  · exact .inr ⟨2, h.2.1⟩
  · obtain ⟨-, v8, rfl, jl, -, -, -, -, -, -, -, rfl, -⟩ := h
    exact .inl ⟨_, rfl⟩
theorem bwX_Y {n6 gg : Nat} {v9 : gO} {A' : gA} (h : BwX A F L o f w s c b fi y me ct n6 gg first step cnt v v9 A') : BwY A F L o f w s c b fi y me ct n6 gg first step cnt v (ctD v9) A' := by
  rcases h with h | h
  · obtain ⟨h1, rfl, h2⟩ := h
    exact ⟨_, rfl, .inl ⟨h1, rfl, h2⟩⟩
  · obtain ⟨h1, v8, rfl, h2⟩ := h
    exact ⟨_, rfl, .inr ⟨h1, h2⟩⟩
/-- is something in memory touched -/
theorem c3_t {Q : gO → gA → Prop} {key jj last : Nat} {x0 x1 x2 x6 x8 x9 x10 x11 x14 : Option Value} (hO : okO A F (lwL qm qa fm rows K) o f w s c b fi y me ct) (hfm : fm 0 = zI ws.length) (hR : RowsOk rows ws) (hz : ∀ x, x ∈ ws → WOk x ∧ x.g ≤ 3) (hl : ws.length ≤ 120) (hj : jj ≤ 3) (hst : step ≤ 3) (hcn : cnt ≤ 3) (hc1 : 1 ≤ cnt) (hky : key < 30) (hla : last = key + step * (cnt - 1)) : ∀ (k i : Nat) (p : Bool), i + k = ws.length →
    (∀ x16, Wv sc 14 3 456 [x0, x1, x2, some (.ref qa), some (.ref qm), some (.int (zI jj)), x6, some (.int (zI key)), x8, x9, x10, x11, some (.int (zI step)), some (.int (zI cnt)), x14, some (.int (bI (p || tchd jj key (last : Nat) (ws.drop i)))), x16] [] A Q) →
    Wv sc 14 3 368 [x0, x1, x2, some (.ref qa), some (.ref qm), some (.int (zI jj)), x6, some (.int (zI key)), x8, x9, x10, x11, some (.int (zI step)), some (.int (zI cnt)), x14, some (.int (bI p)), some (.int (zI ((i + 1 : Nat) : Int)))] [] A Q
  | 0, i, p, hik, hQ => by
    have hm := hO.lm
    have e : ws.drop i = [] := List.drop_of_length_le (by omega)
    rw [e] at hQ
    rw [show (p || tchd jj key (last : Nat) ([] : List WrD)) = p by cases p <;> rfl] at hQ
    refine wv_s f3_368 rfl (fun _ => rfl) ?_
    refine wv_s f3_370 rfl (fun _ => rfl) ?_
    refine wv_icon f3_372 ?_
    refine wv_iaload (j := 0) f3_373 (hm) (by first | rfl | omega) (by omega) (by omega) ?_
    rw [hfm]
    refine wv_cT_gt f3_374 (by omega) (by omega) (by omega) ?_
    exact hQ _
  | k + 1, i, p, hik, hQ => by
    have hm := hO.lm
    have hlr := hO.lr
    have hI1 := hlr.1
    obtain ⟨u, hum, hu, -, hd, -⟩ := at_i (l := ws) (i := i) (by omega)
    obtain ⟨q, fn, hq, hfq, hr⟩ := row_at hR hlr hu
    obtain ⟨hz1, hz2⟩ := hz u hum
    obtain ⟨e6, e7, a1, a2, r6, r7, a3, a4, a5, a6⟩ := hr.m hz1.1
    obtain ⟨r0, -, r2, r3, -, -, -, -, r8, -⟩ := hr
    have hkf := hz1.kf
    have next : ∀ t : Bool, (p || (u.memOf jj && u.c.ov key (last : Nat))) = t → Wv sc 14 3 448 [x0, x1, x2, some (.ref qa), some (.ref qm), some (.int (zI jj)), x6, some (.int (zI key)), x8, x9, x10, x11, some (.int (zI step)), some (.int (zI cnt)), x14, some (.int (bI p)), some (.int (zI ((i + 1 : Nat) : Int)))] [.int (bI t)] A Q := by
      intro t ht
      refine wv_st15 f3_448 rfl (fun _ _ => rfl) ?_
      refine wv_inc16 f3_450 ?_
      refine wv_s (pc' := 368) f3_453 rfl (fun _ => rfl) ?_
      refine c3_t hO hfm hR hz hl hj hst hcn hc1 hky hla k (i + 1) t (by omega) (fun x16 => ?_)
      have h9 := hQ x16
      rw [hd] at h9
      have e9 : (p || tchd jj key (last : Nat) (u :: ws.drop (i + 1))) = (t || tchd jj key (last : Nat) (ws.drop (i + 1))) := by
        rw [← ht]
        show (p || ((u.memOf jj && u.c.ov key (last : Nat)) || _)) = _
        rw [Bool.or_assoc]
        rfl
      rw [e9] at h9
      exact h9
    have no : (p || (u.memOf jj && u.c.ov key (last : Nat))) = false → Wv sc 14 3 447 [x0, x1, x2, some (.ref qa), some (.ref qm), some (.int (zI jj)), x6, some (.int (zI key)), x8, x9, x10, x11, some (.int (zI step)), some (.int (zI cnt)), x14, some (.int (bI p)), some (.int (zI ((i + 1 : Nat) : Int)))] [] A Q := by
      intro h
      refine wv_icon f3_447 ?_
      exact next false h
    have yes : (p || (u.memOf jj && u.c.ov key (last : Nat))) = true → Wv sc 14 3 443 [x0, x1, x2, some (.ref qa), some (.ref qm), some (.int (zI jj)), x6, some (.int (zI key)), x8, x9, x10, x11, some (.int (zI step)), some (.int (zI cnt)), x14, some (.int (bI p)), some (.int (zI ((i + 1 : Nat) : Int)))] [] A Q := by
      intro h
      refine wv_icon f3_443 ?_
      refine wv_s (pc' := 448) f3_444 rfl (fun _ => rfl) ?_
      exact next true h
    refine wv_s f3_368 rfl (fun _ => rfl) ?_
    refine wv_s f3_370 rfl (fun _ => rfl) ?_
    refine wv_icon f3_372 ?_
    refine wv_iaload (j := 0) f3_373 (hm) (by first | rfl | omega) (by omega) (by omega) ?_
    rw [hfm]
    refine wv_cF_gt f3_374 (by omega) (by omega) (by omega) ?_
    refine wv_s f3_377 rfl (fun _ => rfl) ?_
    cases p with
    | true =>
      refine wv_nT f3_379 rfl ?_
      exact yes rfl
    | false =>
      refine wv_nF f3_379 rfl ?_
      have nom : u.memOf jj = false → (false || (u.memOf jj && u.c.ov key (last : Nat))) = false := fun h => by rw [h]; rfl
      have noo : u.c.ov key (last : Nat) = false → (false || (u.memOf jj && u.c.ov key (last : Nat))) = false := fun h => by rw [h, Bool.and_false]; rfl
      refine wv_s f3_382 rfl (fun _ => rfl) ?_
      refine wv_s f3_383 rfl (fun _ => rfl) ?_
      refine wv_aaload (j := i + 1) f3_385 (by assumption) (by rfl) (by first | rfl | omega) (by omega) (by omega) (hq) ?_
      refine wv_icon f3_386 ?_
      refine wv_iaload (j := 0) f3_387 (by assumption) (by first | rfl | omega) (by omega) (by omega) ?_
      refine wv_s f3_388 rfl (fun _ => rfl) ?_
      rw [r0]
      refine wv_cX_ne f3_390 (by omega) (by omega) (fun hb => ?_) (fun hb => ?_)
      · exact no (nom (decide_eq_false (by omega)))
      · refine wv_s f3_393 rfl (fun _ => rfl) ?_
        refine wv_s f3_394 rfl (fun _ => rfl) ?_
        refine wv_aaload (j := i + 1) f3_396 (by assumption) (by rfl) (by first | rfl | omega) (by omega) (by omega) (hq) ?_
        refine wv_bip f3_397 (by decide) ?_
        refine wv_iaload (j := 6) f3_399 (by assumption) (by first | rfl | omega) (by omega) (by omega) ?_
        rw [r6]
        refine wv_zX_ne f3_400 (by omega) (fun hb2 => ?_) (fun hb2 => ?_)
        · exact no (nom (decide_eq_false (by omega)))
        · refine wv_s f3_403 rfl (fun _ => rfl) ?_
          refine wv_s f3_404 rfl (fun _ => rfl) ?_
          refine wv_aaload (j := i + 1) f3_406 (by assumption) (by rfl) (by first | rfl | omega) (by omega) (by omega) (hq) ?_
          refine wv_bip f3_407 (by decide) ?_
          refine wv_iaload (j := 8) f3_409 (by assumption) (by first | rfl | omega) (by omega) (by omega) ?_
          rw [r8]
          by_cases h0 : u.z = 0
          · rw [if_pos h0]
            refine wv_zT_ne f3_410 (by omega) (by omega) ?_
            exact no (nom (decide_eq_false (by omega)))
          · rw [if_neg h0]
            refine wv_zF_ne f3_410 (by omega) (by omega) ?_
            have hz3 := hz1.1
            have hmo : u.memOf jj = true := decide_eq_true (by omega)
            have el : (key : Int) + (step : Int) * ((cnt : Int) - 1) = (last : Nat) := by
              rw [hla]
              rcases (show cnt = 1 ∨ cnt = 2 ∨ cnt = 3 by omega) with rfl | rfl | rfl <;> omega
            have hlb : last < 40 := by
              rcases (show cnt = 1 ∨ cnt = 2 ∨ cnt = 3 by omega) with rfl | rfl | rfl <;> omega
            refine wv_s f3_413 rfl (fun _ => rfl) ?_
            refine wv_s f3_414 rfl (fun _ => rfl) ?_
            refine wv_aaload (j := i + 1) f3_416 (by assumption) (by rfl) (by first | rfl | omega) (by omega) (by omega) (hq) ?_
            refine wv_icon f3_417 ?_
            refine wv_iaload (j := 2) f3_418 (by assumption) (by first | rfl | omega) (by omega) (by omega) ?_
            refine wv_s f3_419 rfl (fun _ => rfl) ?_
            refine wv_s f3_421 rfl (fun _ => rfl) ?_
            refine wv_s f3_423 rfl (fun _ => rfl) ?_
            refine wv_icon f3_425 ?_
            refine wv_isub f3_426 ?_
            refine wv_imul f3_427 ?_
            refine wv_iadd f3_428 ?_
            rw [r2, el]
            refine wv_cX_gt f3_429 (by omega) (by omega) (fun hb3 => ?_) (fun hb3 => ?_)
            · exact no (noo (decide_eq_false (by omega)))
            · refine wv_s f3_432 rfl (fun _ => rfl) ?_
              refine wv_s f3_433 rfl (fun _ => rfl) ?_
              refine wv_aaload (j := i + 1) f3_435 (by assumption) (by rfl) (by first | rfl | omega) (by omega) (by omega) (hq) ?_
              refine wv_icon f3_436 ?_
              refine wv_iaload (j := 3) f3_437 (by assumption) (by first | rfl | omega) (by omega) (by omega) ?_
              refine wv_s f3_438 rfl (fun _ => rfl) ?_
              rw [r3]
              refine wv_cX_lt f3_440 (by omega) (by omega) (fun hb4 => ?_) (fun hb4 => ?_)
              · exact no (noo (decide_eq_false (by omega)))
              · refine yes ?_
                rw [hmo, show u.c.ov key (last : Nat) = true from decide_eq_true (by omega)]
                rfl
end IB
