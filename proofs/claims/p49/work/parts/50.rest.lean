/-! RESTORING -/
def setSt (sts : List Nat) : Nat → List WrD → List WrD
  | _, [] => []
  | i, w :: t => (w.a, w.g, w.c, w.s, sts.getD i 0) :: setSt sts (i + 1) t
theorem setSt_snoc {sts : List Nat} {v : WrD} : ∀ {l : List WrD} {i : Nat}, setSt sts i (l ++ [v]) = setSt sts i l ++ [(v.a, v.g, v.c, v.s, sts.getD (i + l.length) 0)]
  | [], i => rfl
  | w :: l, i => by
    show _ :: setSt sts (i + 1) (l ++ [v]) = _ :: (setSt sts (i + 1) l ++ _)
    rw [setSt_snoc, List.length_cons, show i + 1 + l.length = i + (l.length + 1) by omega]
theorem setSt_a {sts : List Nat} : ∀ {l : List WrD} {i : Nat}, (setSt sts i l).map WrD.a = l.map WrD.a
  | [], _ => rfl
  | w :: l, i => congrArg (w.a :: ·) (setSt_a (l := l) (i := i + 1))
theorem setSt_len {sts : List Nat} : ∀ {l : List WrD} {i : Nat}, (setSt sts i l).length = l.length
  | [], _ => rfl
  | w :: l, i => congrArg (· + 1) (setSt_len (l := l) (i := i + 1))
def Rs : List FamD → List FamD → List FamD → Prop
  | [], [], [] => True
  | g :: gs, h :: hs, g' :: gs' => (∃ t, g' = setLv g t ∧ t.map LvD.dat = h.lv.map LvD.dat ∧ t.map LvD.a = g.lv.map LvD.a) ∧ Rs gs hs gs'
  | _, _, _ => False
theorem Bec_cap2 {B : Nat} : ∀ {l m t : List LvD}, Bec l m t → (∀ x, x ∈ m → x.rs.length ≤ B) → capL t ≤ capL l + m.length * (10 + 2 * B)
  | [], [], [], _, _ => Nat.zero_le _
  | l :: ls, m :: ms, t :: ts, h, hB => by
    obtain ⟨⟨-, -, -, -, h4, h5⟩, h6⟩ := h
    have g := Bec_cap2 h6 (fun x hx => hB x (List.mem_cons_of_mem _ hx))
    have g1 := hB m (List.mem_cons_self ..)
    have a9 : (ms.length + 1) * (10 + 2 * B) = ms.length * (10 + 2 * B) + (10 + 2 * B) := Nat.succ_mul _ _
    simp only [capL, List.length_cons]
    omega
theorem setLv_ok2 {F : Nat → Option vC} {g : FamD} {t : List LvD} (hf : okFm F g) (e : t.map LvD.a = g.lv.map LvD.a) : okFm F (setLv g t) := by
  refine ⟨hf.1, ?_, ?_, hf.2.2.2.1, hf.2.2.2.2⟩
  · show F g.va = some (vR (gComp 1) 4 (fun j => (t.map LvD.a)[j]?))
    rw [e]
    exact hf.2.1
  · have := congrArg List.length e
    rw [List.length_map, List.length_map] at this
    exact this.trans hf.2.2.1
theorem perm_out {α : Type} {X C Y : List α} : (X ++ (C ++ Y)).Perm (C ++ (X ++ Y)) := by
  rw [← List.append_assoc, ← List.append_assoc]
  exact List.Perm.append_right _ List.perm_append_comm
section RS
variable {sc : gSc} {d : Nat} {A : gA} {F : Nat → Option vC} {L : List (Nat × vC)} {o : Nat} {f : Ls FamD} {w : Ls WrD} {s : Ls SnD} {c : Ls CuD} {b : Ls BkD} {fi : Nat × FiD} {y : Ls ChD} {me : Option MeD} {ct : CtD} {g : FamD} {l : LvD} {r : RunD} {i j m : Nat} {x z : Int}
theorem okO.lvOut {f1 f2 : List FamD} (h : okO A F L o f w s c b fi y me ct) (hf : f.2.2 = f1 ++ g :: f2) : ∃ R, Own A F (fCells g.lv ++ R) ∧ ∀ A' t, Own A' F (fCells t ++ R) → t.map LvD.a = g.lv.map LvD.a → (∀ l, l ∈ t → okLs F l) → okO A' F L o (f.1, f.2.1, f1 ++ setLv g t :: f2) w s c b fi y me ct := by
  obtain ⟨fa, fc, fs⟩ := f
  have hf : fs = f1 ++ g :: f2 := hf
  subst hf
  have e1 : obC o (fa, fc, f1 ++ g :: f2) w s c b fi y me ct L = ([(o, cOb (fa, fc, f1 ++ g :: f2) w s c b fi y me ct), (fa, vL fc ((f1 ++ g :: f2).map FamD.a)), (w.1, vL w.2.1 (w.2.2.map WrD.a)), (s.1, vL s.2.1 (s.2.2.map SnD.a)), (c.1, vL c.2.1 (c.2.2.map CuD.a)), (b.1, vL b.2.1 (b.2.2.map BkD.a)), (fi.1, cFi fi.2), (y.1, vL y.2.1 (y.2.2.map ChD.a))] ++ (meC me ++ (c.2.2.map cuP ++ (w.2.2.map wrP ++ f1.flatMap fmP)))) ++ (fCells g.lv ++ (f2.flatMap fmP ++ L)) := by
    simp [obC, obT, fmP]
  refine ⟨_, (e1 ▸ h.1).perm perm_out, fun A' t hO ht hk => ?_⟩
  have h2 := hO.perm perm_out.symm
  have e2 : obC o (fa, fc, f1 ++ setLv g t :: f2) w s c b fi y me ct L = ([(o, cOb (fa, fc, f1 ++ g :: f2) w s c b fi y me ct), (fa, vL fc ((f1 ++ g :: f2).map FamD.a)), (w.1, vL w.2.1 (w.2.2.map WrD.a)), (s.1, vL s.2.1 (s.2.2.map SnD.a)), (c.1, vL c.2.1 (c.2.2.map CuD.a)), (b.1, vL b.2.1 (b.2.2.map BkD.a)), (fi.1, cFi fi.2), (y.1, vL y.2.1 (y.2.2.map ChD.a))] ++ (meC me ++ (c.2.2.map cuP ++ (w.2.2.map wrP ++ f1.flatMap fmP)))) ++ (fCells t ++ (f2.flatMap fmP ++ L)) := by
    simp [obC, obT, fmP, FamD.lv, setLv, FamD.a, cOb]
  refine ⟨?_, fun g9 hg9 => ?_, h.2.2⟩
  · rw [e2]
    exact h2
  · have k := h.2.1
    rcases List.mem_append.mp hg9 with hm | hm
    · exact k g9 (List.mem_append_left _ hm)
    · rcases List.mem_cons.mp hm with rfl | hm
      · obtain ⟨k1, k2⟩ := k g (List.mem_append_right _ (List.mem_cons_self ..))
        exact ⟨setLv_ok2 k1 ht, hk⟩
      · exact k g9 (List.mem_append_right _ (List.mem_cons_of_mem _ hm))
theorem c88_f {bk : BkD} {B : Nat} {Q : gO → gA → Prop} {x1 : Option Value} {fa fc : Nat} (hbk : okBk F bk) (hB : ∀ g, g ∈ bk.fams → ∀ l, l ∈ g.lv → l.rs.length ≤ B) (hB2 : B < 2600) : ∀ (todo hs dn : List FamD) (i n : Nat) (A : gA) (x5 : Option Value), dn.length = i → bk.fams.drop i = hs → todo.length = hs.length → i + todo.length ≤ 3 → n ≤ 16000 * i → okO A F L o (fa, fc, dn ++ todo) w s c b fi y me ct →
    (∀ A' todo' n' x5, okO A' F L o (fa, fc, dn ++ todo') w s c b fi y me ct → Rs todo hs todo' → n' ≤ 48000 → 5 * A'.2.1 ≤ 5 * A.2.1 + todo.length * (40 + 8 * B) → A'.2.2 ≤ A.2.2 + todo.length * (160 + 32 * B) → Wv sc 9 88 105 [some (.ref o), x1, some (.ref bk.a), some (.int (zI (n' : Nat))), some (.int (zI ((i + todo.length : Nat) : Int))), x5] [] A' Q) →
    Wv sc 9 88 11 [some (.ref o), x1, some (.ref bk.a), some (.int (zI n)), some (.int (zI i)), x5] [] A Q
  | [], hs, dn, i, n, A, x5, hdn, hhs, hlen, hi3, hn, hO, hQ => by
    have h1 := hO.ob
    have h2 : A.1 fa = some (vL fc ((dn ++ []).map FamD.a)) := hO.fl
    have hs0 : hs = [] := List.length_eq_zero_iff.mp hlen.symm
    subst hs0
    have hQ := hQ A [] n x5 hO trivial (by omega) (by simp) (by simp)
    rw [List.append_nil] at h2
    refine wv_s f88_11 rfl (fun _ => rfl) ?_
    refine wv_s f88_13 rfl (fun _ => rfl) ?_
    refine wv_getfield f88_14 (h1) (by rfl) ?_
    refine wv_lsize f88_17 (h2) (by omega) (by simp) (fun hs => ?_)
    rw [List.length_map] at hs ⊢
    refine wv_cT_ge f88_20 (by omega) (by omega) (by omega) ?_
    exact hQ
  | g :: t, hs, dn, i, n, A, x5, hdn, hhs, hlen, hi3, hn, hO, hQ => by
    have h1 := hO.ob
    have h2 : A.1 fa = some (vL fc ((dn ++ g :: t).map FamD.a)) := hO.fl
    have hbA := hbk.ext hO.1.1
    obtain ⟨k1, k2, k3, k4, k5⟩ := id hbA
    have hil : i < bk.fams.length := by
      have := congrArg List.length hhs
      rw [List.length_drop, ← hlen, List.length_cons] at this
      omega
    obtain ⟨h, hhm, hh0, hh1, hhd, -⟩ := at_i hil
    rw [hhs] at hhd
    subst hhd
    obtain ⟨q1, q2⟩ := hbk.2.2.2.1 h hhm
    have q1A := q1.ext hO.1.1
    have q3 := q1A.1
    have hgF := (hO.2.1 g (by simp)).1
    have hgA := hgF.ext hO.1.1
    have hg1 := hgA.1
    have eg : ((dn ++ g :: t).map FamD.a)[i]? = some g.a := by
      rw [List.map_append, List.getElem?_append_right (by rw [List.length_map]; omega), List.length_map, hdn, Nat.sub_self]
      rfl
    rw [List.length_cons] at hi3
    refine wv_s f88_11 rfl (fun _ => rfl) ?_
    refine wv_s f88_13 rfl (fun _ => rfl) ?_
    refine wv_getfield f88_14 (h1) (by rfl) ?_
    refine wv_lsize f88_17 (h2) (by omega) (by simp) (fun hs9 => ?_)
    rw [List.length_map, List.length_append, List.length_cons] at hs9 ⊢
    refine wv_cF_ge f88_20 (by omega) (by omega) (by omega) ?_
    refine wv_s f88_23 rfl (fun _ => rfl) ?_
    refine wv_getfield f88_24 (h1) (by rfl) ?_
    refine wv_s f88_27 rfl (fun _ => rfl) ?_
    refine wv_lget f88_29 (h2) (by first | rfl | omega) (eg) (by omega) (by simp) ?_
    refine wv_cast f88_32 (hg1) ?_
    refine wv_st5 f88_35 rfl (fun _ _ => rfl) ?_
    refine wv_s f88_37 rfl (fun _ => rfl) ?_
    refine wv_s f88_39 rfl (fun _ => rfl) ?_
    refine wv_getfield f88_40 (k1) (by rfl) ?_
    refine wv_lsize f88_43 k2 (by omega) (by simp) (fun hs8 => ?_)
    rw [List.length_map] at hs8 ⊢
    obtain ⟨R, o1, o2⟩ := hO.lvOut (f1 := dn) (f2 := t) (g := g) rfl
    have hlvm : ∀ m, m ∈ h.lv → inFL F R m.a (cLv m) ∧ inFL F R m.la (cLl m) ∧ (-1 ≤ m.mu ∧ m.mu ≤ 100) ∧ (∀ r, r ∈ m.rs → okRun F r) ∧ m.rs.length < 2600 := by
      intro m hm
      have z := q2 m hm
      have z2 := hB h hhm m hm
      exact ⟨.inl (z.1.elim id (fun w => by cases w)), .inl (z.2.1.elim id (fun w => by cases w)), z.2.2.1, z.2.2.2, by omega⟩
    refine wv_cF_ge f88_46 (by omega) (by omega) (by omega) ?_
    refine wv_s f88_49 rfl (fun _ => rfl) ?_
    refine wv_s f88_51 rfl (fun _ => rfl) ?_
    refine wv_getfield f88_52 (k1) (by rfl) ?_
    refine wv_s f88_55 rfl (fun _ => rfl) ?_
    refine wv_lget f88_57 (k2) (by first | rfl | omega) (hh1 _) (by omega) (by simp) ?_
    refine wv_cast f88_60 (q3) ?_
    refine wv_effV f88_63 (by decide) (by simp) (by simp) (by decide +kernel) (hg1) (by rfl) (by decide +kernel) rfl (c105 (f := g) (h := h) (L := R) hgF q1 hlvm o1) (by omega) (fun A3 hA3 => ?_)
    obtain ⟨t', b1, b2, b3, b4⟩ := hA3
    obtain ⟨d1, d2, d3⟩ := Bec_dat b1
    have dcap := Bec_cap2 b1 (hB h hhm)
    rw [q1.2.2.1] at dcap
    have hok : ∀ l, l ∈ t' → okLs F l := by
      intro l hl
      obtain ⟨y1, z1, z2, z3⟩ := Bec_mem b1 hl
      have z := q2 y1 z1
      exact ⟨by rw [z2]; exact z.2.2.1, fun r hr => z.2.2.2 r (by rw [← z3]; exact hr)⟩
    have hO3 := o2 A3 t' b2 d1 hok
    have hO4 : okO A3 F L o (fa, fc, (dn ++ [setLv g t']) ++ t) w s c b fi y me ct := by
      rw [List.append_assoc]
      exact hO3
    have hfm4 := hO4.fm (g := setLv g t') (by simp)
    have hf41 : A3.1 g.a = some (cFam (setLv g t')) := hfm4.1
    refine wv_s (pc' := 91) f88_66 rfl (fun _ => rfl) ?_
    refine wv_s f88_91 rfl (fun _ => rfl) ?_
    refine wv_s f88_92 rfl (fun _ => rfl) ?_
    refine wv_resV f88_94 (by decide) (by simp) (by simp) (by decide +kernel) hf41 (by rfl) (by decide +kernel) rfl (c106 (f := setLv g t') hfm4 (fun l hl => hO4.lv (g := setLv g t') (by simp) hl)) (by omega) (fun v A5 hv => ?_)
    obtain ⟨n5, rfl, hn5, hA5⟩ := hv
    rw [hA5]
    refine wv_iadd f88_97 ?_
    refine wv_st3 f88_98 rfl (fun _ _ => rfl) ?_
    refine wv_inc4 f88_99 ?_
    refine wv_s (pc' := 11) f88_102 rfl (fun _ => rfl) ?_
    refine c88_f hbk hB hB2 t _ (dn ++ [setLv g t']) (i + 1) (n + n5) A3 _ (by simp [hdn]) rfl (by rw [List.length_cons, List.length_cons] at hlen; omega) (by omega) (by omega) hO4 (fun A' todo' n' x5 g1 g2 g3 g4 g5 => ?_)
    have hQ := hQ A' (setLv g t' :: todo') n' x5 (by rw [List.append_assoc] at g1; exact g1) ⟨⟨t', rfl, d3, d1⟩, g2⟩ g3 ?_ ?_
    · rw [show i + 1 + t.length = i + (g :: t).length by rw [List.length_cons]; omega]
      exact hQ
    · have a9 : (t.length + 1) * (40 + 8 * B) = t.length * (40 + 8 * B) + (40 + 8 * B) := Nat.succ_mul _ _
      show 5 * A'.2.1 ≤ 5 * A.2.1 + (t.length + 1) * (40 + 8 * B)
      omega
    · have a9 : (t.length + 1) * (160 + 32 * B) = t.length * (160 + 32 * B) + (160 + 32 * B) := Nat.succ_mul _ _
      show A'.2.2 ≤ A.2.2 + (t.length + 1) * (160 + 32 * B)
      omega
theorem c88_w {bk : BkD} {Q : gO → gA → Prop} {x1 x3 x5 : Option Value} {ws0 : List WrD} {wa wc : Nat} (hbk : okBk F bk) (hsl : bk.sts.length ≤ 1000000) : ∀ (k i : Nat) (A : gA), i + k = ws0.length → okO A F L o f (wa, wc, setSt bk.sts 0 (ws0.take i) ++ ws0.drop i) s c b fi y me ct →
    (∀ A', okO A' F L o f (wa, wc, setSt bk.sts 0 ws0) s c b fi y me ct → A'.2 = A.2 → Wv sc 9 88 162 [some (.ref o), x1, some (.ref bk.a), x3, some (.int (zI ws0.length)), x5] [] A' Q) →
    Wv sc 9 88 108 [some (.ref o), x1, some (.ref bk.a), x3, some (.int (zI i)), x5] [] A Q
  | 0, i, A, hik, hO, hQ => by
    have h1 := hO.ob
    have e1 : ws0.take i = ws0 := List.take_of_length_le (by omega)
    have e2 : ws0.drop i = [] := List.drop_of_length_le (by omega)
    rw [e1, e2, List.append_nil] at hO
    have h2 : A.1 wa = some (vL wc (ws0.map WrD.a)) := by rw [← setSt_a (sts := bk.sts) (i := 0)]; exact hO.wl
    have hQ := hQ A hO rfl
    have e3 : i = ws0.length := by omega
    refine wv_s f88_108 rfl (fun _ => rfl) ?_
    refine wv_s f88_110 rfl (fun _ => rfl) ?_
    refine wv_getfield f88_111 (h1) (by rfl) ?_
    refine wv_lsize f88_114 (h2) (by omega) (by simp) (fun hs => ?_)
    rw [List.length_map] at hs ⊢
    refine wv_cT_ge f88_117 (by omega) (by omega) (by omega) ?_
    rw [e3]
    exact hQ
  | k + 1, i, A, hik, hO, hQ => by
    have h1 := hO.ob
    obtain ⟨k1, k2, k3, k4, k5⟩ := hbk.ext hO.1.1
    obtain ⟨v, hvm, hv0, hv1, hvd, hvt⟩ := at_i (show i < ws0.length by omega)
    have ewa : (setSt bk.sts 0 (ws0.take i) ++ ws0.drop i).map WrD.a = ws0.map WrD.a := by
      rw [List.map_append, setSt_a, ← List.map_append, List.take_append_drop]
    have h2 : A.1 wa = some (vL wc (ws0.map WrD.a)) := by rw [← ewa]; exact hO.wl
    have hv := hO.wr (x := v) (show v ∈ setSt bk.sts 0 (ws0.take i) ++ ws0.drop i by rw [hvd]; simp)
    have hv2 := hv.1
    have hzl : bk.sts.getD i 0 ≤ 3 := by
      by_cases hb : i < bk.sts.length
      · rw [List.getD_eq_getElem?_getD, List.getElem?_eq_getElem hb]
        exact k5 _ (List.getElem_mem hb)
      · rw [List.getD_eq_getElem?_getD, List.getElem?_eq_none (by omega)]
        exact Nat.zero_le _
    have ltk : (ws0.take i).length = i := by rw [List.length_take]; omega
    have hO1 := hO.putWr (l1 := setSt bk.sts 0 (ws0.take i)) (l2 := ws0.drop (i + 1)) (x := v) (x' := ((v.a, v.g, v.c, v.s, bk.sts.getD i 0) : WrD)) (by rw [hvd]) rfl ⟨rfl, rfl, rfl, hzl⟩
    have eN : setSt bk.sts 0 (ws0.take i) ++ ((v.a, v.g, v.c, v.s, bk.sts.getD i 0) : WrD) :: ws0.drop (i + 1) = setSt bk.sts 0 (ws0.take (i + 1)) ++ ws0.drop (i + 1) := by
      rw [hvt, setSt_snoc, List.append_assoc, ltk, Nat.zero_add]
      rfl
    rw [eN] at hO1
    have nxt : ∀ Z : Int32, Z = zI (bk.sts.getD i 0 : Nat) → Wv sc 9 88 153 [some (.ref o), x1, some (.ref bk.a), x3, some (.int (zI i)), x5] [.int Z, .ref v.a] A Q := by
      rintro Z rfl
      refine wv_putfield f88_153 (hv2) (by simp) (by rfl) ?_
      show Wv sc 9 88 156 _ _ (aPut A v.a (cWr ((v.a, v.g, v.c, v.s, bk.sts.getD i 0) : WrD))) _
      refine wv_inc4 f88_156 ?_
      refine wv_s (pc' := 108) f88_159 rfl (fun _ => rfl) ?_
      exact c88_w hbk hsl k (i + 1) _ (by omega) hO1 hQ
    refine wv_cap h2 (fun n1 n2 => ?_)
    rw [List.length_map] at n2
    refine wv_s f88_108 rfl (fun _ => rfl) ?_
    refine wv_s f88_110 rfl (fun _ => rfl) ?_
    refine wv_getfield f88_111 (h1) (by rfl) ?_
    refine wv_lsize f88_114 (h2) (by omega) (by simp) (fun hs => ?_)
    rw [List.length_map] at hs ⊢
    refine wv_cF_ge f88_117 (by omega) (by omega) (by omega) ?_
    refine wv_s f88_120 rfl (fun _ => rfl) ?_
    refine wv_getfield f88_121 (h1) (by rfl) ?_
    refine wv_s f88_124 rfl (fun _ => rfl) ?_
    refine wv_lget f88_126 (h2) (by first | rfl | omega) (hv1 _) (by omega) (by simp) ?_
    refine wv_cast f88_129 (hv2) ?_
    refine wv_s f88_132 rfl (fun _ => rfl) ?_
    refine wv_s f88_134 rfl (fun _ => rfl) ?_
    refine wv_getfield f88_135 (k1) (by rfl) ?_
    refine wv_alenN f88_138 (k3) ?_
    refine wv_cX_ge f88_139 (by omega) (by omega) (fun hb => ?_) (fun hb => ?_)
    · refine wv_icon f88_152 ?_
      exact nxt _ (by rw [List.getD_eq_getElem?_getD, List.getElem?_eq_none (by omega)]; rfl)
    · refine wv_s f88_142 rfl (fun _ => rfl) ?_
      refine wv_getfield f88_143 (k1) (by rfl) ?_
      refine wv_s f88_146 rfl (fun _ => rfl) ?_
      refine wv_iaload (j := i) f88_148 (k3) (by first | rfl | omega) (by omega) (by omega) ?_
      refine wv_s (pc' := 153) f88_149 rfl (fun _ => rfl) ?_
      exact nxt _ rfl
theorem c88 {bk : BkD} {B : Nat} (hO : okO A F L o f w s c b fi y me ct) (hg : b.2.2[i]? = some bk) (hB : ∀ g, g ∈ bk.fams → ∀ l, l ∈ g.lv → l.rs.length ≤ B) (hB2 : B < 2600) (hf3 : f.2.2.length ≤ 3) (hfl : f.2.2.length = bk.fams.length) (hsl : bk.sts.length ≤ 1000000) (hvs : ct.2.2.2.2.1 + 1 ≤ 1000000) :
    Wc sc 9 88 [.ref o, .int (zI i)] A (fun v A' => ∃ v9, v = .inl (some v9) ∧ ∃ n : Nat, v9 = .int (zI n) ∧ n ≤ 48000 ∧ ∃ fs' ct', Rs f.2.2 bk.fams fs' ∧ ctK ct' = ctKs ct 0 1 ∧ okO A' F L o (f.1, f.2.1, fs') (w.1, w.2.1, setSt bk.sts 0 w.2.2) (s.1, s.2.1, []) (c.1, c.2.1, []) b fi y none ct' ∧ 5 * A'.2.1 ≤ 5 * A.2.1 + 3 * (40 + 8 * B) ∧ A'.2.2 ≤ A.2.2 + 3 * (160 + 32 * B)) := by
  show Wv sc 9 88 0 [some (.ref o), some (.int (zI i)), none, none, none, none] [] A _
  have h1 := hO.ob
  have hbk := hO.2.2.2.2.2.1 bk (List.mem_of_getElem? hg)
  refine wv_s f88_0 rfl (fun _ => rfl) ?_
  refine wv_s f88_1 rfl (fun _ => rfl) ?_
  refine wv_valV f88_2 (by decide) (by simp) (by simp) (by decide +kernel) (h1) (by rfl) (by decide +kernel) rfl (c24 hO hg) (by omega) ?_
  refine wv_st2 f88_5 rfl (fun _ _ => rfl) ?_
  refine wv_icon f88_6 ?_
  refine wv_st3 f88_7 rfl (fun _ _ => rfl) ?_
  refine wv_icon f88_8 ?_
  refine wv_st4 f88_9 rfl (fun _ _ => rfl) ?_
  refine c88_f (fa := f.1) (fc := f.2.1) hbk hB hB2 f.2.2 bk.fams [] 0 0 A none rfl rfl hfl (by omega) (by omega) hO (fun A1 fs' n' x5 g1 g2 g3 g4 g5 => ?_)
  rw [List.nil_append] at g1
  have m1 : f.2.2.length * (40 + 8 * B) ≤ 3 * (40 + 8 * B) := Nat.mul_le_mul_right _ hf3
  have m2 : f.2.2.length * (160 + 32 * B) ≤ 3 * (160 + 32 * B) := Nat.mul_le_mul_right _ hf3
  refine wv_icon f88_105 ?_
  refine wv_st4 f88_106 rfl (fun _ _ => rfl) ?_
  refine c88_w (wa := w.1) (wc := w.2.1) (ws0 := w.2.2) hbk hsl w.2.2.length 0 A1 (by omega) g1 (fun A2 q1 q2 => ?_)
  have h2 := q1.ob
  refine wv_s f88_162 rfl (fun _ => rfl) ?_
  refine wv_effV f88_163 (by decide) (by simp) (by simp) (by decide +kernel) (h2) (by rfl) (by decide +kernel) rfl (c53 q1) (by omega) (fun A3 hA3 => ?_)
  obtain ⟨q3, q4⟩ := hA3
  have h3 := q3.ob
  have hct8 : okCt (ct.1, ct.2.1, ct.2.2.1, ct.2.2.2.1, ct.2.2.2.2.1 + 1, ct.2.2.2.2.2) := by
    obtain ⟨a1, a2, a3, a4, a5⟩ := hO.ctc
    exact ⟨a1, a2, a3, hvs, a5⟩
  have hO4 := q3.putCt hct8
  have hk0 : ctK (ct.1, ct.2.1, ct.2.2.1, ct.2.2.2.1, ct.2.2.2.2.1 + 1, ct.2.2.2.2.2) = ctKs ct 0 1 := rfl
  refine wv_s f88_166 rfl (fun _ => rfl) ?_
  refine wv_s f88_167 rfl (fun _ => rfl) ?_
  refine wv_getfield f88_168 (h3) (by rfl) ?_
  refine wv_icon f88_171 ?_
  refine wv_iadd f88_172 ?_
  refine wv_putfield f88_173 (h3) (by simp) (by rfl) ?_
  refine wv_s f88_176 rfl (fun _ => rfl) ?_
  exact wv_iret f88_177 (by rfl) (⟨_, rfl, n', rfl, g3, fs', _, g2, hk0, hO4, by show 5 * A3.2.1 ≤ _; rw [q4, q2]; omega, by show A3.2.2 ≤ _; rw [q4, q2]; omega⟩)
theorem c88_t (hO : okO A F L o f w s c b fi y me ct) (hi : i = b.2.2.length) : Wc sc 9 88 [.ref o, .int (zI i)] A (fun v A' => v = .inr 0 ∧ A' = aThr A) := by
  show Wv sc 9 88 0 [some (.ref o), some (.int (zI i)), none, none, none, none] [] A _
  have h1 := hO.ob
  refine wv_s f88_0 rfl (fun _ => rfl) ?_
  refine wv_s f88_1 rfl (fun _ => rfl) ?_
  exact wv_thrV f88_2 (by decide) (by simp) (by simp) (by decide +kernel) h1 (by rfl) (by decide +kernel) rfl (c24_t hO hi) (by omega) (by decide +kernel) (by decide +kernel) (fun A' h => ⟨rfl, h⟩)
end RS
