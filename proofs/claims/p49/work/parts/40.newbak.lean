/-! A NEW BACKUP: cell, families (cell, room, families), array of states, states -/
abbrev BkD : Type := Nat × (Nat × Nat × List FamD) × Nat × List Nat
def BkD.a (b : BkD) : Nat := b.1
def BkD.fa (b : BkD) : Nat := b.2.1.1
def BkD.fc (b : BkD) : Nat := b.2.1.2.1
def BkD.fams (b : BkD) : List FamD := b.2.1.2.2
def BkD.sa (b : BkD) : Nat := b.2.2.1
def BkD.sts (b : BkD) : List Nat := b.2.2.2
def okBk (V : Nat → Option vC) (b : BkD) : Prop := V b.a = some (vO 1 [.ref b.fa, .ref b.sa]) ∧ V b.fa = some (vL b.fc (b.fams.map FamD.a)) ∧ V b.sa = some (vN .int b.sts.length (fun j => zI (b.sts.getD j 0))) ∧ (∀ f, f ∈ b.fams → okFm V f ∧ ∀ l, l ∈ f.lv → stLv V [] l) ∧ ∀ z, z ∈ b.sts → z ≤ 3
def LvD.dat (l : LvD) : Int × List RunD := (l.mu, l.rs)
def FamD.dat (f : FamD) : Nat × Nat × List (Int × List RunD) := (f.g, f.o, f.lv.map LvD.dat)
def stB (ws : List WrD) : List Nat := ws.map (fun w => if w.z = 1 then 0 else w.z)
theorem okBk.ext {F G : Nat → Option vC} {b : BkD} (h : okBk F b) (he : Ext F G) : okBk G b := ⟨he _ _ h.1, he _ _ h.2.1, he _ _ h.2.2.1, fun f hf => ⟨(h.2.2.2.1 f hf).1.ext he, fun l hl => ((h.2.2.2.1 f hf).2 l hl).ext he⟩, h.2.2.2.2⟩
theorem Bec_dat : ∀ {l m t : List LvD}, Bec l m t → t.map LvD.a = l.map LvD.a ∧ t.map LvD.la = l.map LvD.la ∧ t.map LvD.dat = m.map LvD.dat
  | [], [], [], _ => ⟨rfl, rfl, rfl⟩
  | l :: ls, m :: ms, t :: ts, h => by
    obtain ⟨⟨h1, h2, h3, h4, -⟩, h5⟩ := h
    obtain ⟨g1, g2, g3⟩ := Bec_dat h5
    simp only [List.map_cons, g1, g2, g3, h1, h2, LvD.dat, h3, h4, and_self]
theorem Bec_cap {B : Nat} : ∀ {l m t : List LvD}, Bec l m t → (∀ x, x ∈ l → x.lc = 0) → (∀ x, x ∈ m → x.rs.length ≤ B) → capL t ≤ m.length * (10 + 2 * B)
  | [], [], [], _, _, _ => Nat.zero_le _
  | l :: ls, m :: ms, t :: ts, h, h0, hB => by
    obtain ⟨⟨-, -, -, -, h4, h5⟩, h6⟩ := h
    have g := Bec_cap h6 (fun x hx => h0 x (List.mem_cons_of_mem _ hx)) (fun x hx => hB x (List.mem_cons_of_mem _ hx))
    have g0 := h0 l (List.mem_cons_self ..)
    have g1 := hB m (List.mem_cons_self ..)
    have a9 : (ms.length + 1) * (10 + 2 * B) = ms.length * (10 + 2 * B) + (10 + 2 * B) := Nat.succ_mul _ _
    simp only [capL, List.length_cons]
    omega
theorem Bec_len : ∀ {l m t : List LvD}, Bec l m t → t.length = l.length ∧ m.length = l.length
  | [], [], [], _ => ⟨rfl, rfl⟩
  | l :: ls, m :: ms, t :: ts, h => by
    have := Bec_len h.2
    simp only [List.length_cons]
    omega
theorem Bec_mem {x : LvD} : ∀ {l m t : List LvD}, Bec l m t → x ∈ t → ∃ y, y ∈ m ∧ x.mu = y.mu ∧ x.rs = y.rs
  | [], [], [], _, hx => by cases hx
  | l :: ls, m :: ms, t :: ts, h, hx => by
    rcases List.mem_cons.mp hx with rfl | hx
    · exact ⟨m, List.mem_cons_self .., h.1.2.2.1, h.1.2.2.2.1⟩
    · obtain ⟨y, h1, h2⟩ := Bec_mem h.2 hx
      exact ⟨y, List.mem_cons_of_mem _ h1, h2⟩
theorem capL_nil : ∀ {l : List LvD}, (∀ x, x ∈ l → nilLv x) → capL l = 0
  | [], _ => rfl
  | x :: t, h => by
    have h1 := (h x (List.mem_cons_self ..)).2.2
    have h2 := capL_nil (fun y hy => h y (List.mem_cons_of_mem x hy))
    simp only [capL]
    omega
theorem fCells_mem {t : List LvD} {l : LvD} (h : l ∈ t) : (l.a, cLv l) ∈ fCells t ∧ (l.la, cLl l) ∈ fCells t := by
  unfold fCells lvCells
  constructor
  · exact List.mem_flatMap.mpr ⟨l, h, by simp⟩
  · exact List.mem_flatMap.mpr ⟨l, h, by simp⟩
section C15
variable {sc : gSc} {d : Nat} {x y z : Int} {r : RunD} {l : LvD} {f h : FamD} {q j : Nat} {v0 v1 : Value} {L : List (Nat × vC)}
theorem c100_f {Q : gO → gA → Prop} {F0 : Nat → Option vC} {ha hc wa fq B : Nat} {fams : List FamD} (hha : inFL F0 L ha (vL hc (fams.map FamD.a))) (hfm : ∀ f, f ∈ fams → okFm F0 f ∧ ∀ l, l ∈ f.lv → stLv F0 L l ∧ l.rs.length ≤ B) (hB : B < 2600) (hfl : fams.length ≤ 3) : ∀ (k i lc : Nat) (A : gA) (F : Nat → Option vC) (dn : List FamD) (x4 : Option Value), i + k = fams.length → Ext F0 F → Own A F ((fq, vL lc (dn.map FamD.a)) :: (q, vO 1 [.ref fq, v1]) :: L) → dn.map FamD.dat = (fams.take i).map FamD.dat → dn.length = i → (∀ f, f ∈ dn → okFm F f ∧ ∀ l, l ∈ f.lv → stLv F [] l) → lc ≤ 10 + 2 * i →
    (∀ A' F' lc' (dn : List FamD) x4, Ext F F' → Own A' F' ((fq, vL lc' (dn.map FamD.a)) :: (q, vO 1 [.ref fq, v1]) :: L) → dn.map FamD.dat = fams.map FamD.dat → (∀ f, f ∈ dn → okFm F' f ∧ ∀ l, l ∈ f.lv → stLv F' [] l) → lc' ≤ 16 → 5 * A'.2.1 + lc ≤ 5 * A.2.1 + lc' + k * (90 + 8 * B) → A'.2.2 + 4 * lc ≤ A.2.2 + 4 * lc' + k * (187 + 32 * B) → Wv sc 9 100 85 [some (.ref q), some (.ref ha), some (.ref wa), some (.int (zI fams.length)), x4] [] A' Q) →
    Wv sc 9 100 17 [some (.ref q), some (.ref ha), some (.ref wa), some (.int (zI i)), x4] [] A Q
  | 0, i, lc, A, F, dn, x4, hik, he, hO, hdat, hdn, hdk, hlc, hQ => by
    have hh := (Own.fl (X := [(fq, vL lc (dn.map FamD.a)), (q, vO 1 [.ref fq, v1])]) hO (hha.ext he)).1
    have hQ := hQ A F lc dn x4 Ext.refl hO (by rw [hdat, List.take_of_length_le (by omega)]) hdk (by omega) (by omega) (by omega)
    refine wv_s f100_17 rfl (fun _ => rfl) ?_
    refine wv_s f100_18 rfl (fun _ => rfl) ?_
    refine wv_lsize f100_19 (by assumption) (by omega) (by simp) (fun hs => ?_)
    rw [List.length_map] at hs ⊢
    have e2 : i = fams.length := by omega
    refine wv_cT_ge f100_22 (by omega) (by omega) (by omega) ?_
    rw [e2]
    exact hQ
  | k + 1, i, lc, A, F, dn, x4, hik, he, hO, hdat, hdn, hdk, hlc, hQ => by
    have hh := (Own.fl (X := [(fq, vL lc (dn.map FamD.a)), (q, vO 1 [.ref fq, v1])]) hO (hha.ext he)).1
    obtain ⟨f, hfM, hf0, hf1, hfd, hft⟩ := at_i (show i < fams.length by omega)
    obtain ⟨hfF, hfl2⟩ := hfm f hfM
    have hfF1 := hfF.ext he
    have hfA := hfF1.ext hO.1
    have hfa := hfA.1
    refine wv_s f100_17 rfl (fun _ => rfl) ?_
    refine wv_s f100_18 rfl (fun _ => rfl) ?_
    refine wv_lsize f100_19 (by assumption) (by omega) (by simp) (fun hs => ?_)
    rw [List.length_map] at hs ⊢
    refine wv_cF_ge f100_22 (by omega) (by omega) (by omega) ?_
    refine wv_newZ f100_25 (by decide) (by decide) (zs := [.int 0, .int 0, .null]) (by rfl) (fun n hn => ?_)
    have hO1 := hO.new (n := gN 4) (c := vO 4 [.int 0, .int 0, .null]) hn
    have hh1 := (Own.fl (X := [(n, vO 4 [.int 0, .int 0, .null]), (fq, vL lc (dn.map FamD.a)), (q, vO 1 [.ref fq, v1])]) hO1 (hha.ext he)).1
    have hfa1 := (hfF1.ext hO1.1).1
    refine wv_s f100_28 rfl (fun _ => rfl) ?_
    refine wv_s f100_29 rfl (fun _ => rfl) ?_
    refine wv_s f100_30 rfl (fun _ => rfl) ?_
    refine wv_lget f100_31 (by assumption) (by first | rfl | omega) (hf1 _) (by omega) (by simp) ?_
    refine wv_cast f100_34 (by assumption) ?_
    refine wv_getfield f100_37 (by assumption) (by rfl) ?_
    refine wv_s f100_40 rfl (fun _ => rfl) ?_
    refine wv_s f100_41 rfl (fun _ => rfl) ?_
    refine wv_lget f100_42 (by assumption) (by first | rfl | omega) (hf1 _) (by omega) (by simp) ?_
    refine wv_cast f100_45 (by assumption) ?_
    refine wv_getfield f100_48 (by assumption) (by rfl) ?_
    refine wv_effI f100_51 (by decide) (by simp) (by simp) (by decide +kernel) (by rfl) (c104 hO1 hfA.2.2.2.1 hfA.2.2.2.2) (by omega) (fun A2 hA2 => ?_)
    obtain ⟨f2, F2, n1, n2, n3, n4, n5, n6, n7, n8, n9⟩ := hA2
    subst n1
    have hh2 := (Own.fl (X := fCells f2.lv ++ [(fq, vL lc (dn.map FamD.a)), (q, vO 1 [.ref fq, v1])]) (L := L) (by rw [List.append_assoc]; exact n7) (hha.ext (he.trans n5))).1
    have hfa2 := (hfF1.ext (n5.trans n7.1)).1
    have hf2A := (n6.ext n7.1).1
    refine wv_st4 f100_54 rfl (fun _ _ => rfl) ?_
    refine wv_s f100_56 rfl (fun _ => rfl) ?_
    refine wv_s f100_58 rfl (fun _ => rfl) ?_
    refine wv_s f100_59 rfl (fun _ => rfl) ?_
    refine wv_lget f100_60 (by assumption) (by first | rfl | omega) (hf1 _) (by omega) (by simp) ?_
    refine wv_cast f100_63 (by assumption) ?_
    refine wv_effV f100_66 (by decide) (by simp) (by simp) (by decide +kernel) (by assumption) (by rfl) (by decide +kernel) rfl (c105 (h := f) n6 (hfF1.ext n5) (fun m hm => ⟨(((hfl2 m hm).1.ext (he.trans n5)).cons.cons).1, (((hfl2 m hm).1.ext (he.trans n5)).cons.cons).2.1, (hfl2 m hm).1.2.2.1, fun r hr => ((hfl2 m hm).1.2.2.2 r hr).ext (he.trans n5), by have := (hfl2 m hm).2; omega⟩) n7) (by omega) (fun A3 hA3 => ?_)
    obtain ⟨t', b1, b2, b3, b4⟩ := hA3
    obtain ⟨b5, b6, b7⟩ := Own.frzL b2
    obtain ⟨d1, d2, d3⟩ := Bec_dat b1
    have dl := Bec_len b1
    have dcap := Bec_cap b1 (fun x hx => (n4 x hx).2.2) (fun x hx => (hfl2 x hx).2)
    have dz := capL_nil n4
    rw [dl.2, n6.2.2.1] at dcap
    have hf3 : okFm (fzL F2 (fCells t')) (f2.a, f2.g, f2.o, f2.va, t') := by
      refine ⟨b6 _ _ n6.1, ?_, by rw [← n6.2.2.1]; exact dl.1, n6.2.2.2.1, n6.2.2.2.2⟩
      show fzL F2 (fCells t') f2.va = some (vR (gComp 1) 4 (fun j => (t'.map LvD.a)[j]?))
      rw [d1]
      exact b6 _ _ n6.2.1
    have hf4 := (hf3.ext b5.1).1
    have hq4 := b5.at (q := q) (List.mem_cons_of_mem _ (List.mem_cons_self ..))
    have hl4 := b5.at (q := fq) (List.mem_cons_self ..)
    have hll : (dn.map FamD.a).length = dn.length := List.length_map _
    refine wv_s f100_69 rfl (fun _ => rfl) ?_
    refine wv_getfield f100_70 (hq4) (by rfl) ?_
    refine wv_s f100_73 rfl (fun _ => rfl) ?_
    refine wv_ladd f100_75 (by assumption) (by assumption) (by decide +kernel) (by omega) (by omega) (by simp) (fun c1 k1 s1 hlg => ?_)
    refine wv_s f100_78 rfl (fun _ => rfl) ?_
    have hO5 := Own.lst (L1 := []) (c := vL c1 (dn.map FamD.a ++ [f2.a])) (kc := k1) (ks := s1) b5
    have hO6 : Own (aLst A3 fq (vL c1 (dn.map FamD.a ++ [f2.a])) k1 s1) (fzL F2 (fCells t')) ((fq, vL c1 ((dn ++ [((f2.a, f2.g, f2.o, f2.va, t') : FamD)]).map FamD.a)) :: (q, vO 1 [.ref fq, v1]) :: L) := by
      rw [List.map_append]
      exact hO5
    have hdat2 : (dn ++ [((f2.a, f2.g, f2.o, f2.va, t') : FamD)]).map FamD.dat = (fams.take (i + 1)).map FamD.dat := by
      rw [hft, List.map_append, List.map_append, hdat]
      congr 1
      show [((f2.g, f2.o, t'.map LvD.dat) : Nat × Nat × List (Int × List RunD))] = [f.dat]
      rw [d3, n2, n3]
      rfl
    rw [hll, hdn] at hlg
    have hlg2 := hlg.2.2.2
    refine wv_inc3 f100_79 ?_
    refine wv_s (pc' := 17) f100_82 rfl (fun _ => rfl) ?_
    refine c100_f hha hfm hB hfl k (i + 1) c1 _ _ (dn ++ [((f2.a, f2.g, f2.o, f2.va, t') : FamD)]) _ (by omega) (he.trans (n5.trans b6)) hO6 hdat2 (by simp [hdn]) (fun g hg => ?_) (by omega) (fun A' F' lc' dn' x4 g1 g2 g3 g4 g5 g6 g7 => ?_)
    · rcases List.mem_append.mp hg with hg | hg
      · exact ⟨((hdk g hg).1.ext n5).ext b6, fun l hl => (((hdk g hg).2 l hl).ext n5).ext b6⟩
      · rw [List.mem_singleton.mp hg]
        refine ⟨hf3, fun l hl => ?_⟩
        obtain ⟨m1, m2⟩ := fCells_mem (show l ∈ t' from hl)
        obtain ⟨y, y1, y2, y3⟩ := Bec_mem b1 (show l ∈ t' from hl)
        have w := (hfl2 y y1).1
        refine ⟨.inl (b7 _ m1), .inl (b7 _ m2), by rw [y2]; exact w.2.2.1, fun r hr => ?_⟩
        rw [y3] at hr
        exact ((w.2.2.2 r hr).ext (he.trans n5)).ext b6
    · refine hQ A' F' lc' dn' x4 ((n5.trans b6).trans g1) g2 g3 g4 g5 ?_ ?_
      · have a1 : 5 * A'.2.1 + c1 ≤ 5 * (A3.2.1 + k1) + lc' + k * (90 + 8 * B) := g6
        have a2 := hlg.2.1
        have a3 : A2.2.1 = A.2.1 + 1 + 9 := n8
        have a9 : (k + 1) * (90 + 8 * B) = k * (90 + 8 * B) + (90 + 8 * B) := Nat.succ_mul _ _
        omega
      · have a1 : A'.2.2 + 4 * c1 ≤ A3.2.2 + s1 + 4 * lc' + k * (187 + 32 * B) := g7
        have a2 := hlg.2.2.1
        have a3 : A2.2.2 = A.2.2 + gN 4 + 24 := n9
        rw [show gN 4 = 3 from by decide +kernel] at a3
        have a9 : (k + 1) * (187 + 32 * B) = k * (187 + 32 * B) + (187 + 32 * B) := Nat.succ_mul _ _
        omega
theorem upd_st {ws : List WrD} {i : Nat} : upd (fun j => if j < i then zI ((stB ws).getD j 0) else 0) i (zI ((stB ws).getD i 0 : Nat)) = (fun j => if j < i + 1 then zI ((stB ws).getD j 0) else 0) := by
  funext j
  unfold upd
  by_cases h1 : j = i
  · subst h1
    rw [if_pos rfl, if_pos (by omega)]
  · rw [if_neg h1]
    show (if j < i then zI ((stB ws).getD j 0 : Nat) else 0) = _
    by_cases h2 : j < i
    · rw [if_pos h2, if_pos (by omega)]
    · rw [if_neg h2, if_neg (by omega)]
theorem stB_at {ws : List WrD} {i : Nat} {w : WrD} (h : ws[i]? = some w) : (stB ws).getD i 0 = if w.z = 1 then 0 else w.z := by
  unfold stB
  rw [List.getD_eq_getElem?_getD, List.getElem?_map, h]
  rfl
theorem stB_len {ws : List WrD} : (stB ws).length = ws.length := List.length_map _
theorem c100_s {F : Nat → Option vC} {ws : List WrD} {ha wa wc sa fq : Nat} (hwa : inFL F L wa (vL wc (ws.map WrD.a))) (hww : ∀ w, w ∈ ws → inFL F L w.a (cWr w) ∧ w.z ≤ 3) : ∀ (k i : Nat) (A : gA) (x4 : Option Value), i + k = ws.length → Own A F ((sa, vN .int ws.length (fun j => if j < i then zI ((stB ws).getD j 0) else 0)) :: (q, vO 1 [.ref fq, .ref sa]) :: L) →
    Wv sc 9 100 97 [some (.ref q), some (.ref ha), some (.ref wa), some (.int (zI i)), x4] [] A (fun o A' => o = .inl none ∧ Own A' F ((sa, vN .int ws.length (fun j => if j < ws.length then zI ((stB ws).getD j 0) else 0)) :: (q, vO 1 [.ref fq, .ref sa]) :: L) ∧ A'.2 = A.2)
  | 0, i, A, x4, hik, hO => by
    have hs1 := hO.at (List.mem_cons_self ..)
    have hq1 := hO.at (q := q) (List.mem_cons_of_mem _ (List.mem_cons_self ..))
    have hw1 := (Own.fl (X := [(sa, vN .int ws.length (fun j => if j < i then zI ((stB ws).getD j 0) else 0)), (q, vO 1 [.ref fq, .ref sa])]) hO hwa).1
    refine wv_cap hw1 (fun n1 n2 => ?_)
    rw [List.length_map] at n2
    have e : i = ws.length := by omega
    subst e
    refine wv_s f100_97 rfl (fun _ => rfl) ?_
    refine wv_s f100_98 rfl (fun _ => rfl) ?_
    refine wv_getfield f100_99 (by assumption) (by rfl) ?_
    refine wv_alenN f100_102 (by assumption) ?_
    refine wv_cT_ge f100_103 (by omega) (by omega) (by omega) ?_
    exact wv_vret f100_151 (by decide +kernel) (⟨rfl, hO, rfl⟩)
  | k + 1, i, A, x4, hik, hO => by
    have hs1 := hO.at (List.mem_cons_self ..)
    have hq1 := hO.at (q := q) (List.mem_cons_of_mem _ (List.mem_cons_self ..))
    have hw1 := (Own.fl (X := [(sa, vN .int ws.length (fun j => if j < i then zI ((stB ws).getD j 0) else 0)), (q, vO 1 [.ref fq, .ref sa])]) hO hwa).1
    refine wv_cap hw1 (fun n1 n2 => ?_)
    rw [List.length_map] at n2
    obtain ⟨w, hwm, hw0, hwx, hwd, -⟩ := at_i (show i < ws.length by omega)
    obtain ⟨hwc, hz⟩ := hww w hwm
    have hw2 := (Own.fl (X := [(sa, vN .int ws.length (fun j => if j < i then zI ((stB ws).getD j 0) else 0)), (q, vO 1 [.ref fq, .ref sa])]) hO hwc).1
    have eg := stB_at hw0
    have nxt : ∀ A1, A1 = aPut A sa (vN .int ws.length (upd (fun j => if j < i then zI ((stB ws).getD j 0) else 0) i (zI ((stB ws).getD i 0 : Nat)))) → ∀ x4, Wv sc 9 100 145 [some (.ref q), some (.ref ha), some (.ref wa), some (.int (zI i)), x4] [] A1 (fun o A' => o = .inl none ∧ Own A' F ((sa, vN .int ws.length (fun j => if j < ws.length then zI ((stB ws).getD j 0) else 0)) :: (q, vO 1 [.ref fq, .ref sa]) :: L) ∧ A'.2 = A.2) := by
      rintro A1 rfl x4
      have hO1 := hO.put (L1 := []) (c := vN .int ws.length (upd (fun j => if j < i then zI ((stB ws).getD j 0) else 0) i (zI ((stB ws).getD i 0 : Nat))))
      rw [upd_st] at hO1 ⊢
      refine wv_inc3 f100_145 ?_
      refine wv_s (pc' := 97) f100_148 rfl (fun _ => rfl) ?_
      exact c100_s hwa hww k (i + 1) _ x4 (by omega) hO1
    refine wv_s f100_97 rfl (fun _ => rfl) ?_
    refine wv_s f100_98 rfl (fun _ => rfl) ?_
    refine wv_getfield f100_99 (by assumption) (by rfl) ?_
    refine wv_alenN f100_102 (by assumption) ?_
    refine wv_cF_ge f100_103 (by omega) (by omega) (by omega) ?_
    refine wv_s f100_106 rfl (fun _ => rfl) ?_
    refine wv_s f100_107 rfl (fun _ => rfl) ?_
    refine wv_lsize f100_108 (by assumption) (by omega) (by simp) (fun hs => ?_)
    rw [List.length_map] at hs ⊢
    refine wv_cF_ge f100_111 (by omega) (by omega) (by omega) ?_
    refine wv_s f100_114 rfl (fun _ => rfl) ?_
    refine wv_s f100_115 rfl (fun _ => rfl) ?_
    refine wv_lget f100_116 (by assumption) (by first | rfl | omega) (hwx _) (by omega) (by simp) ?_
    refine wv_cast f100_119 (by assumption) ?_
    refine wv_getfield f100_122 (by assumption) (by rfl) ?_
    refine wv_st4 f100_125 rfl (fun _ _ => rfl) ?_
    refine wv_s f100_127 rfl (fun _ => rfl) ?_
    refine wv_getfield f100_128 (by assumption) (by rfl) ?_
    refine wv_s f100_131 rfl (fun _ => rfl) ?_
    refine wv_s f100_132 rfl (fun _ => rfl) ?_
    refine wv_icon f100_134 ?_
    refine wv_cX_ne f100_135 (by omega) (by omega) (fun hb => ?_) (fun hb => ?_)
    · refine wv_s f100_142 rfl (fun _ => rfl) ?_
      refine wv_iastore (j := i) f100_144 (by assumption) (by first | rfl | omega) (by omega) (by omega) ?_
      exact nxt _ (by rw [eg, if_neg (by omega)]) _
    · refine wv_icon f100_138 ?_
      refine wv_s (pc' := 144) f100_139 rfl (fun _ => rfl) ?_
      refine wv_iastore (j := i) f100_144 (by assumption) (by first | rfl | omega) (by omega) (by omega) ?_
      exact nxt _ (by rw [eg, if_pos (by omega)]; rfl) _
theorem capL_le {B : Nat} : ∀ {t : List LvD}, (∀ x, x ∈ t → x.lc ≤ B) → capL t ≤ t.length * B
  | [], _ => Nat.zero_le _
  | x :: t, h => by
    have h1 := h x (List.mem_cons_self ..)
    have h2 := capL_le (fun y hy => h y (List.mem_cons_of_mem x hy))
    simp only [capL, List.length_cons, Nat.succ_mul]
    omega
/-- a new backup -/
theorem c100 {ha hc wa wc B : Nat} {fams : List FamD} {ws : List WrD} {A : gA} {F : Nat → Option vC} (hha : inFL F L ha (vL hc (fams.map FamD.a))) (hfm : ∀ f, f ∈ fams → okFm F f ∧ ∀ l, l ∈ f.lv → stLv F L l ∧ l.rs.length ≤ B) (hB : B < 2600) (hfl : fams.length ≤ 3)
    (hwa : inFL F L wa (vL wc (ws.map WrD.a))) (hww : ∀ w, w ∈ ws → inFL F L w.a (cWr w) ∧ w.z ≤ 3) (hO : Own A F ((q, vO 1 [v0, v1]) :: L)) :
    Wc sc 9 100 [.ref q, .ref ha, .ref wa] A (fun o A' => o = .inl none ∧ ∃ b F', b.a = q ∧ b.fams.map FamD.dat = fams.map FamD.dat ∧ b.sts = stB ws ∧ Ext F F' ∧ okBk F' b ∧ Own A' F' L ∧ 5 * A'.2.1 ≤ 5 * A.2.1 + 26 + 3 * (90 + 8 * B) ∧ A'.2.2 ≤ A.2.2 + 67 + 3 * (187 + 32 * B) + ws.length) := by
  show Wv sc 9 100 0 [some (.ref q), some (.ref ha), some (.ref wa), none, none] [] A _
  refine wv_s f100_0 rfl (fun _ => rfl) ?_
  refine wv_objI f100_1 (by simp) ?_
  refine wv_s f100_4 rfl (fun _ => rfl) ?_
  refine wv_newL f100_5 (fun fq hfq => ?_)
  have hO1 := hO.new (n := 3) (c := vW) hfq
  have f1 := hO1.at (List.mem_cons_self ..)
  refine wv_s f100_8 rfl (fun _ => rfl) ?_
  refine wv_linit f100_9 (by assumption) (by omega) (by simp) ?_
  have hO2 := hO1.put (L1 := []) (c := vL 0 [])
  have f2 := Own.at (q := q) (c := vO 1 [v0, v1]) hO2 (List.mem_cons_of_mem _ (List.mem_cons_self ..))
  refine wv_putfield f100_12 (f2) (by simp) (by rfl) ?_
  refine wv_icon f100_15 ?_
  refine wv_st3 f100_16 rfl (fun _ _ => rfl) ?_
  have hO3 := Own.put (L1 := [(fq, vL 0 [])]) (c := vO 1 [.ref fq, v1]) hO2
  refine c100_f (F0 := F) hha hfm hB hfl fams.length 0 0 _ F [] none (by omega) Ext.refl hO3 rfl rfl (fun f hf => by cases hf) (by omega) (fun A' F' lc' dn x4 g1 g2 g3 g4 g5 g6 g7 => ?_)
  have g6' : 5 * A'.2.1 + 0 ≤ 5 * (A.2.1 + 1) + lc' + fams.length * (90 + 8 * B) := g6
  have g7' : A'.2.2 + 4 * 0 ≤ A.2.2 + 3 + 4 * lc' + fams.length * (187 + 32 * B) := g7
  have m1 : fams.length * (90 + 8 * B) ≤ 3 * (90 + 8 * B) := Nat.mul_le_mul_right _ hfl
  have m2 : fams.length * (187 + 32 * B) ≤ 3 * (187 + 32 * B) := Nat.mul_le_mul_right _ hfl
  have hwa' := hwa.ext g1
  have hw1 := (Own.fl (X := [(fq, vL lc' (dn.map FamD.a)), (q, vO 1 [.ref fq, v1])]) g2 hwa').1
  refine wv_cap hw1 (fun n1 n2 => ?_)
  rw [List.length_map] at n2
  refine wv_s f100_85 rfl (fun _ => rfl) ?_
  refine wv_s f100_86 rfl (fun _ => rfl) ?_
  refine wv_lsize f100_87 (by assumption) (by omega) (by simp) (fun hs => ?_)
  rw [List.length_map] at hs ⊢
  refine wv_newarr (n := ws.length) f100_90 (by first | rfl | omega) (by omega) (fun sa hsa => ?_)
  have hO5 := g2.new (n := ws.length) (c := vN .int ws.length (fun _ => 0)) hsa
  have f3 := Own.at (q := q) (c := vO 1 [.ref fq, v1]) hO5 (List.mem_cons_of_mem _ (List.mem_cons_of_mem _ (List.mem_cons_self ..)))
  refine wv_putfield f100_92 f3 (by simp) (by rfl) ?_
  have hO6 := Own.put (L1 := [(sa, vN .int ws.length (fun _ => 0)), (fq, vL lc' (dn.map FamD.a))]) (c := vO 1 [.ref fq, .ref sa]) hO5
  have hO7 := Own.perm hO6 (List.Perm.cons _ (List.Perm.swap _ _ _))
  refine wv_icon f100_95 ?_
  refine wv_st3 f100_96 rfl (fun _ _ => rfl) ?_
  refine (c100_s (L := (fq, vL lc' (dn.map FamD.a)) :: L) (fq := fq) (hwa'.cons) (fun w hw => ⟨((hww w hw).1.ext g1).cons, (hww w hw).2⟩) ws.length 0 _ x4 (by omega) hO7).up (Nat.le_refl _) (fun o A1 hq' => ?_)
  obtain ⟨p1, p2, p3⟩ := hq'
  have p4 := Own.frz p2
  have p5 := Own.frz p4
  have p6 := Own.frz p5
  have e1 := Own.ext_fz p2
  have e2 := Own.ext_fz p4
  have e3 := Own.ext_fz p5
  refine ⟨p1, (q, (fq, lc', dn), sa, stB ws), _, rfl, g3, rfl, g1.trans (e1.trans (e2.trans e3)), ⟨e3 _ _ fz_self, fz_self, ?_, fun f hf => ?_, fun z hz => ?_⟩, p6, ?_, ?_⟩
  · refine (e3 _ _ (e2 _ _ fz_self)).trans ?_
    show some (vN .int ws.length (fun j => if j < ws.length then zI ((stB ws).getD j 0 : Nat) else 0)) = some (vN .int (stB ws).length (fun j => zI ((stB ws).getD j 0 : Nat)))
    rw [show (stB ws).length = ws.length from stB_len]
    congr 2
    funext j
    by_cases hj : j < ws.length
    · rw [if_pos hj]
    · rw [if_neg hj]
      show (0 : Int32) = zI (((stB ws).getD j 0 : Nat) : Int)
      rw [List.getD_eq_getElem?_getD, List.getElem?_eq_none (by rw [stB_len]; omega)]
      rfl
  · obtain ⟨b1, b2⟩ := g4 f hf
    exact ⟨b1.ext (e1.trans (e2.trans e3)), fun l hl => (b2 l hl).ext (e1.trans (e2.trans e3))⟩
  · obtain ⟨w, hw, rfl⟩ := List.mem_map.mp (show z ∈ ws.map (fun w => if w.z = 1 then 0 else w.z) from hz)
    have := (hww w hw).2
    split <;> omega
  · have p3' : A1.2.1 = A'.2.1 + 1 := congrArg Prod.fst p3
    omega
  · have p3' : A1.2.2 = A'.2.2 + ws.length := congrArg Prod.snd p3
    omega
end C15
