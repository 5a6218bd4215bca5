/-! WORK -/
theorem cR_le : ∀ {nr : List RunD}, cR nr ≤ 40 * nr.length + 7 * wtS nr ∧ sR nr ≤ 100 * nr.length + 16 * wtS nr
  | [] => ⟨Nat.le_refl _, Nat.le_refl _⟩
  | r :: nr => by
    have := @cR_le nr
    show 40 + 2 * r.rows.length + 7 * r.spans.length + cR nr ≤ 40 * (nr.length + 1) + 7 * (r.wt + wtS nr) ∧ 100 + 16 * r.rows.length + 13 * r.spans.length + sR nr ≤ 100 * (nr.length + 1) + 16 * (r.wt + wtS nr)
    unfold RunD.wt
    omega
theorem wtS_insB {r : RunD} : ∀ {l : List RunD}, wtS (insB r l) = r.wt + wtS l
  | [] => rfl
  | x :: l => by
    have ih := @wtS_insB r l
    unfold insB
    split
    · show x.wt + wtS (insB r l) = r.wt + (x.wt + wtS l)
      omega
    · rfl
theorem wtS_insBs : ∀ {nr rs : List RunD}, wtS (insBs rs nr) = wtS rs + wtS nr
  | [], rs => rfl
  | r :: nr, rs => by
    have ih := @wtS_insBs nr (insB r rs)
    rw [wtS_insB] at ih
    show wtS (insBs (insB r rs) nr) = wtS rs + (r.wt + wtS nr)
    omega
theorem spS_le : ∀ {l : List RunD}, (l.map (fun r => r.spans.length)).sum ≤ wtS l
  | [] => Nat.le_refl _
  | r :: l => by
    have := @spS_le l
    rw [List.map_cons, List.sum_cons]
    show _ ≤ r.wt + wtS l
    unfold RunD.wt
    omega
/-- the same families -/
def Same (fs fs' : List FamD) : Prop := fs'.map (fun g => (g.a, g.g, g.o)) = fs.map (fun g => (g.a, g.g, g.o))
theorem same_lv {f1 f2 : List FamD} {g : FamD} {t : List LvD} : Same (f1 ++ g :: f2) (f1 ++ setLv g t :: f2) := by
  unfold Same
  rw [List.map_append, List.map_append, List.map_cons, List.map_cons]
  rfl
section WK
variable {sc : gSc} {d : Nat} {A : gA} {F : Nat → Option vC} {L : List (Nat × vC)} {o : Nat} {f : Ls FamD} {w : Ls WrD} {s : Ls SnD} {c : Ls CuD} {b : Ls BkD} {fi : Nat × FiD} {y : Ls ChD} {me : Option MeD} {mm : MeD} {ct : CtD} {g : FamD} {l ls lt : LvD} {r : RunD} {i j m n q ca cc : Nat} {x z : Int} {f1 f2 : List FamD} {lv1 lv2 : List LvD}
theorem okRun.c100 {V : Nat → Option vC} {r : RunD} (h : okRun V r) : ∀ c, c ∈ r.rows ∨ c ∈ r.spans → c.f < 100 ∧ c.t < 100 := by
  intro c hc
  have h9 : okCh V c := hc.elim (h.2.2.2.1 c) (h.2.2.2.2.1 c)
  exact ⟨h9.2.2.2.1, h9.2.2.2.2⟩
theorem okO.ins (h : okO A F L o f w s c b fi y (some mm) ct) : ∀ r, r ∈ mm.ins → okRun F r := (h.2.2.2.2.2.2.2.1 mm rfl).2.2.1
theorem okO.l4 (h : okO A F L o f w s c b fi y me ct) : ∀ g, g ∈ f.2.2 → g.lv.length = 4 := fun _ hg => (h.fm hg).2.2.1
/-- what work leaves -/
def WkP (Mom : List Nat) (F : Nat → Option vC) (L : List (Nat × vC)) (o : Nat) (f : Ls FamD) (w : Ls WrD) (s : Ls SnD) (c : Ls CuD) (b : Ls BkD) (fi : Nat × FiD) (ya : Nat) (dn : Nat) (ct : CtD) (C S : Nat) (v : gO) (A' : gA) : Prop :=
  ∃ t : Nat, v = .inl (some (.int (zI t))) ∧ (1 ≤ t ∧ t ≤ 50) ∧ ∃ F' f' y' me' ct' df dv, Ext F F' ∧ okO A' F' L o f' w s c b fi y' me' ct' ∧ GI Mom ct'.2.2.1 f'.2.2 w.2.2 b.2.2 me' ∧ Same f.2.2 f'.2.2 ∧ y'.1 = ya ∧ y'.2.1 ≤ 260 ∧ (∀ m', me' = some m' → m'.kc ≤ 1210 ∧ m'.dn ≤ dn) ∧ ctK ct' = ctKs ct df dv ∧ df ≤ 100 ∧ dv ≤ 1 ∧ 5 * A'.2.1 ≤ C ∧ A'.2.2 ≤ S
theorem c98_l {ct0 : CtD} {ya : Nat} (hn : n ≤ 50) (hw : w.2.2.length ≤ 120) : ∀ (k i : Nat) (A : gA) (y : Ls ChD) (mm : MeD) (ct : CtD) (C S dn : Nat), i + k = n → okO A F L o f w s (ca, cc, []) b fi y (some mm) ct → GI (s.2.2.map SnD.m) ct.2.2.1 f.2.2 w.2.2 b.2.2 (some mm) → y.2.1 ≤ 260 → mm.kc ≤ 1210 → mm.dn + k ≤ dn → dn ≤ 500000 → ct.2.2.1 + 700 < 1000000 → ct.2.2.2.2.1 + 1 ≤ 1000000 → 1 ≤ i + k → ctK ct = ctKs ct0 0 0 → y.1 = ya →
    5 * A.2.1 + 1470 + 5 * k + 9550 ≤ C + (y.2.1 + mm.kc) → A.2.2 + 5880 + 120 * k + 26350 ≤ S + 4 * (y.2.1 + mm.kc) →
    Wv sc 11 98 47 [some (.ref o), some (.int (zI n)), some (.int (zI i)), some (.ref mm.a)] [] A (WkP (s.2.2.map SnD.m) F L o f w s (ca, cc, []) b fi ya dn ct0 C S)
  | 0, i, A, y, mm, ct, C, S, dn, hik, hO, hG, hy, hkc, hdn, hdm, hid, hvs, h1k, hct, hya, hC, hS => by
    refine wv_s f98_47 rfl (fun _ => rfl) ?_
    refine wv_s f98_48 rfl (fun _ => rfl) ?_
    refine wv_cT_ge f98_49 (by omega) (by omega) (by omega) ?_
    refine wv_s f98_72 rfl (fun _ => rfl) ?_
    exact wv_iret f98_73 (by rfl) (⟨i, rfl, by omega, F, f, y, some mm, ct, 0, 0, Ext.refl, hO, hG, rfl, hya, hy, fun m' hm' => by cases hm'; exact ⟨hkc, by omega⟩, hct, by omega, by omega, by omega, by omega⟩)
  | k + 1, i, A, y, mm, ct, C, S, dn, hik, hO, hG, hy, hkc, hdn, hdm, hid, hvs, h1k, hct, hya, hC, hS => by
    have h1 := hO.ob
    obtain ⟨f1, g, f2, lv1, ls, lt, lv2, e1, e2, e3, e4, e5, e6, e7, e8⟩ := hG.mrg hO.l4
    have hgm : g ∈ f.2.2 := by rw [e1]; simp
    have hir := hO.ins
    have hTI := hG.at hgm
    have hwt := ins_wt hTI hG.2.2.1 e7 (fun r hr c hc => ((hir r hr).c100 c hc).1)
    have hkl := kept_len hTI hG.2.2.1 e7 e8
    have hsp := @spS_le mm.ins
    have hnk := @nxK_rg F mm.key mm.ins 100 (by omega) hir
    refine wv_s f98_47 rfl (fun _ => rfl) ?_
    refine wv_s f98_48 rfl (fun _ => rfl) ?_
    refine wv_cF_ge f98_49 (by omega) (by omega) (by omega) ?_
    refine wv_s f98_52 rfl (fun _ => rfl) ?_
    refine wv_s (pc' := 56) f98_53 rfl (fun _ => rfl) ?_
    refine wv_s f98_56 rfl (fun _ => rfl) ?_
    refine wv_s f98_57 rfl (fun _ => rfl) ?_
    by_cases h100 : nxK mm.key 100 mm.ins = 100
    · have hltm : lt ∈ g.lv := by rw [e3]; simp
      have hltl := hTI.wtL hG.2.2.1 (rs := lt.rs) (List.mem_map_of_mem hltm) (fun r hr c hc => ((((hO.2.1 g hgm).2 lt hltm).2 r hr).c100 c hc).1)
      refine wv_effV f98_58 (by decide) (by simp) (by simp) (by decide +kernel) h1 (by rfl) (by decide +kernel) rfl (c41_f hO (by omega) h100 e1 e2 e3 e4 (by omega) (by omega) (by omega) hvs (by omega)) (by omega) (fun A1 hA1 => ?_)
      obtain ⟨nr, F1, lc1, ct1, a1, a2, a3, a4, a5, a6, a7⟩ := hA1
      have hG1 := hG.finish (ls' := (ls.a, mm.sg, ls.la, ls.lc, kp mm.ins ls.rs)) (lt' := (lt.a, lt.mu, lt.la, lc1, insBs (kp mm.ins lt.rs) nr)) e1 e3 e4 e7 e8 h100 (fun r hr c hc => ((hir r hr).c100 c (.inr hc)).2) a2 rfl rfl
      have hkr3 : ∀ c : ChD, c ∈ keptR mm g.lv mm.ins → c.k = 3 ∧ c.f ≤ c.t ∧ c.t < 100 := by
        intro c hc
        obtain ⟨r, hr, hc⟩ := List.mem_flatMap.mp hc
        have hc2 := (List.mem_filter.mp hc).1
        have h9 := (hG.insOk hgm e7 r hr).2.2.1 c hc2
        exact ⟨h9.1, h9.2, ((hir r hr).c100 c (.inr hc2)).2⟩
      have hnr := seg_len e8.1 e8.2.1 hkr3 a2
      have hkrl := @keptR_len mm g.lv mm.ins
      have hcr := @cR_le nr
      have hgm1 : setLv g (lv1 ++ (ls.a, mm.sg, ls.la, ls.lc, kp mm.ins ls.rs) :: (lt.a, lt.mu, lt.la, lc1, insBs (kp mm.ins lt.rs) nr) :: lv2) ∈ f1 ++ setLv g (lv1 ++ (ls.a, mm.sg, ls.la, ls.lc, kp mm.ins ls.rs) :: (lt.a, lt.mu, lt.la, lc1, insBs (kp mm.ins lt.rs) nr) :: lv2) :: f2 := by simp
      have hlm1 : ((lt.a, lt.mu, lt.la, lc1, insBs (kp mm.ins lt.rs) nr) : LvD) ∈ (setLv g (lv1 ++ (ls.a, mm.sg, ls.la, ls.lc, kp mm.ins ls.rs) :: (lt.a, lt.mu, lt.la, lc1, insBs (kp mm.ins lt.rs) nr) :: lv2)).lv := by
        show _ ∈ lv1 ++ _ :: _ :: lv2
        simp
      have hwn := (hG1.at hgm1).wtL hG.2.2.1 (rs := insBs (kp mm.ins lt.rs) nr) (List.mem_map_of_mem hlm1) (fun r hr c hc => ((((a4.2.1 _ hgm1).2 _ hlm1).2 r hr).c100 c hc).1)
      rw [wtS_insBs] at hwn
      have hkpl : (kp mm.ins lt.rs).length ≤ lt.rs.length := List.length_filter_le _ _
      have hc1 : ct1.2.2.1 = ct.2.2.1 + nr.length := by
        simp only [ctK, ctKs, Prod.mk.injEq] at a3
        omega
      have ho1 := a4.ob
      have hm0 : meV (none : Option MeD) = .null := rfl
      have ho2 : A1.1 o = some (cOb (fG f f1 g f2 lv1 (ls.a, mm.sg, ls.la, ls.lc, kp mm.ins ls.rs) lt lv2 lc1 (insBs (kp mm.ins lt.rs) nr)) w s (ca, cc, []) b fi y none ct1) := ho1
      refine wv_inc2 f98_61 ?_
      refine wv_s f98_64 rfl (fun _ => rfl) ?_
      refine wv_getfield f98_65 (ho2) (by rfl) ?_
      refine wv_st3 f98_68 rfl (fun _ _ => rfl) ?_
      refine wv_s (pc' := 47) f98_69 rfl (fun _ => rfl) ?_
      have hct1 : ctK ct1 = ctKs ct0 nr.length 1 := by
        simp only [ctK, ctKs, Prod.mk.injEq] at a3 hct ⊢
        omega
      have fin : WkP (s.2.2.map SnD.m) F L o f w s (ca, cc, []) b fi ya dn ct0 C S (.inl (some (.int (zI ((i + 1 : Nat) : Int))))) A1 :=
        ⟨i + 1, rfl, by omega, F1, _, y, none, ct1, nr.length, 1, a1, a4, by rw [hc1]; exact hG1, by rw [e1]; exact same_lv, hya, hy, fun m' hm' => (by cases hm'), hct1, hnr, Nat.le_refl _, by omega, by omega⟩
      refine wv_s f98_47 rfl (fun _ => rfl) ?_
      refine wv_s f98_48 rfl (fun _ => rfl) ?_
      refine wv_cX_ge f98_49 (by omega) (by omega) (fun hb => ?_) (fun hb => ?_)
      · refine wv_s f98_72 rfl (fun _ => rfl) ?_
        exact wv_iret f98_73 (by rfl) (fin)
      · refine wv_s f98_52 rfl (fun _ => rfl) ?_
        refine wv_s (pc' := 72) f98_53 rfl (fun _ => rfl) ?_
        refine wv_s f98_72 rfl (fun _ => rfl) ?_
        exact wv_iret f98_73 (by rfl) (fin)
    · obtain ⟨kk, hkk⟩ : ∃ kk : Nat, nxK mm.key 100 mm.ins = (kk : Int) := ⟨(nxK mm.key 100 mm.ins).toNat, by omega⟩
      have hk1 : kk < 100 := by omega
      have hwl : (wayW (nxK mm.key 100 mm.ins) mm.ins).length ≤ 120 := by
        rw [hkk]
        exact Nat.le_trans (way_wn hTI e7 hk1) hw
      refine wv_effV f98_58 (by decide) (by simp) (by simp) (by decide +kernel) h1 (by rfl) (by decide +kernel) rfl (c41_s (N := 120) hO (by omega) hgm e2 hkk hk1 (by omega) hwl (by omega) (by omega)) (by omega) (fun A1 hA1 => ?_)
      obtain ⟨yc1, kc1, ct1, a1, a2, a3, a4, a5, a6⟩ := hA1
      have hc1 : ct1.2.2.1 = ct.2.2.1 ∧ ct1.2.2.2.2.1 = ct.2.2.2.2.1 := by
        simp only [ctK, ctKs, Prod.mk.injEq] at a1
        omega
      have hG1 := hG.step (kc := kc1) (dn := mm.dn + 1) e1 e2 e5 e6 e7 e8 hkk hk1
      have ho1 := a2.ob
      have hct1 : ctK ct1 = ctKs ct0 0 0 := by
        simp only [ctK, ctKs, Prod.mk.injEq] at a1 hct ⊢
        omega
      refine wv_inc2 f98_61 ?_
      refine wv_s f98_64 rfl (fun _ => rfl) ?_
      refine wv_getfield f98_65 (ho1) (by rfl) ?_
      refine wv_st3 f98_68 rfl (fun _ _ => rfl) ?_
      refine wv_s (pc' := 47) f98_69 rfl (fun _ => rfl) ?_
      rw [← hc1.1] at hG1
      exact c98_l hn hw k (i + 1) A1 _ _ ct1 C S dn (by omega) a2 hG1 (by show yc1 ≤ 260; omega) (by show kc1 ≤ 1210; omega) (by show mm.dn + 1 + k ≤ dn; omega) hdm (by omega) (by omega) (by omega) hct1 hya (by show 5 * A1.2.1 + 1470 + 5 * k + 9550 ≤ C + (yc1 + kc1); omega) (by show A1.2.2 + 5880 + 120 * k + 26350 ≤ S + 4 * (yc1 + kc1); omega)
theorem c98 (hn1 : 1 ≤ n) (hn : n ≤ 50) (hw : w.2.2.length ≤ 120) (hO : okO A F L o f w s (ca, cc, []) b fi y (some mm) ct) (hG : GI (s.2.2.map SnD.m) ct.2.2.1 f.2.2 w.2.2 b.2.2 (some mm)) (hy : y.2.1 ≤ 260) (hkc : mm.kc ≤ 1210) (hdn : mm.dn ≤ 400000) (hid : ct.2.2.1 + 700 < 1000000) (hvs : ct.2.2.2.2.1 + 1 ≤ 1000000) :
    Wc sc 11 98 [.ref o, .int (zI n)] A (WkP (s.2.2.map SnD.m) F L o f w s (ca, cc, []) b fi y.1 (mm.dn + 50) ct (5 * A.2.1 + 11270) (A.2.2 + 38230)) := by
  show Wv sc 11 98 0 [some (.ref o), some (.int (zI n)), none, none] [] A _
  have h1 := hO.ob
  refine wv_s f98_0 rfl (fun _ => rfl) ?_
  refine wv_icon f98_1 ?_
  refine wv_cF_lt f98_2 (by omega) (by omega) (by omega) ?_
  refine wv_s f98_5 rfl (fun _ => rfl) ?_
  refine wv_bip f98_6 (by decide) ?_
  refine wv_cT_le f98_8 (by omega) (by omega) (by omega) ?_
  refine wv_s f98_22 rfl (fun _ => rfl) ?_
  refine wv_getfield f98_23 (h1) (by rfl) ?_
  refine wv_s (pc' := 40) f98_26 rfl (fun _ => rfl) ?_
  refine wv_icon f98_40 ?_
  refine wv_st2 f98_41 rfl (fun _ _ => rfl) ?_
  refine wv_s f98_42 rfl (fun _ => rfl) ?_
  refine wv_getfield f98_43 (h1) (by rfl) ?_
  refine wv_st3 f98_46 rfl (fun _ _ => rfl) ?_
  exact c98_l (ct0 := ct) hn hw n 0 A y mm ct _ _ _ (by omega) hO hG hy hkc (by omega) (by omega) hid hvs (by omega) rfl rfl (by omega) (by omega)
end WK
