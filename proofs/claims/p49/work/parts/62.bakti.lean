/-! SYNC, CRASH, BACKUP, RESTORE KEEP IT -/
/-- only where the write stands changes -/
def Zo (φ : WrD → WrD) : Prop := ∀ w, (φ w).a = w.a ∧ (φ w).g = w.g ∧ (φ w).c = w.c ∧ (φ w).s = w.s
theorem Zo.on {φ : WrD → WrD} (h : Zo φ) (w : WrD) (x : Int) : (φ w).on x = w.on x := by
  unfold WrD.on
  rw [(h w).2.2.1, (h w).2.2.2]
theorem zo_syn : Zo synW := by
  intro w
  unfold synW
  split <;> exact ⟨rfl, rfl, rfl, rfl⟩
theorem zo_cr : Zo crW := by
  intro w
  unfold crW
  split <;> exact ⟨rfl, rfl, rfl, rfl⟩
theorem zo_fl {g : Nat} : Zo (flW g) := by
  intro w
  unfold flW
  split <;> exact ⟨rfl, rfl, rfl, rfl⟩
theorem syn_z {w : WrD} : ((synW w).z = 3 ↔ w.z = 3) ∧ (((synW w).z = 1 ∨ (synW w).z = 2) ↔ (w.z = 1 ∨ w.z = 2)) ∧ (w.z ≤ 3 → (synW w).z ≤ 3) := by
  unfold synW
  split
  · rename_i h
    have e : WrD.z (w.a, w.g, w.c, w.s, 2) = 2 := rfl
    rw [e]
    omega
  · exact ⟨Iff.rfl, Iff.rfl, id⟩
theorem cr_z {w : WrD} : ((crW w).z = 3 ↔ w.z = 3) ∧ (((crW w).z = 1 ∨ (crW w).z = 2) → (w.z = 1 ∨ w.z = 2)) ∧ (w.z ≤ 3 → (crW w).z ≤ 3) := by
  unfold crW
  split
  · rename_i h
    have e : WrD.z (w.a, w.g, w.c, w.s, 0) = 0 := rfl
    rw [e]
    omega
  · exact ⟨Iff.rfl, id, id⟩
theorem TI.zmap {Mom : List Nat} {nf g o : Nat} {rss : List (List RunD)} {ws : List WrD} {φ : WrD → WrD} (h : TI Mom nf g o rss ws) (hφ : Zo φ) (hz : ∀ w, w ∈ ws → w.g = g → ((φ w).z = 3 ↔ w.z = 3)) : TI Mom nf g o rss (ws.map φ) := by
  refine h.ws (fun k hk => ?_) (fun w hw h1 h2 => ⟨φ w, List.mem_map_of_mem hw, (hφ w).2.2.1, (hφ w).2.1.trans h1, (hz w hw h1).mpr h2, (hφ w).2.2.2⟩)
  rw [← List.map_reverse]
  refine iE_map (fun w hw => ⟨?_, (hφ w).2.2.1⟩)
  rw [hφ.on]
  congr 1
  unfold inRun
  rw [(hφ w).2.1]
  congr 1
  apply propext
  constructor
  · exact fun q => ⟨q.1, (hz w (List.mem_reverse.mp hw) q.1).mp q.2⟩
  · exact fun q => ⟨q.1, (hz w (List.mem_reverse.mp hw) q.1).mpr q.2⟩
theorem OrdW.zmap {ws : List WrD} {φ : WrD → WrD} (h : OrdW ws) (hφ : Zo φ) (h3 : ∀ w, (φ w).z = 3 → w.z = 3) (h12 : ∀ w, ((φ w).z = 1 ∨ (φ w).z = 2) → (w.z = 1 ∨ w.z = 2)) : OrdW (ws.map φ) := by
  unfold OrdW at h ⊢
  rw [List.pairwise_map]
  refine h.imp (fun {a b} hab => ?_)
  intro e1 e2 e3 x e4 e5
  rw [(hφ a).2.1, (hφ b).2.1] at e1
  rw [hφ.on] at e4 e5
  exact hab e1 (h12 a e2) (h3 b e3) x e4 e5
theorem WOk.zmap {w w' : WrD} (h : WOk w) (hc : w'.c = w.c) (hs : w'.s = w.s) (hz : w'.z ≤ 3) (h12 : (w'.z = 1 ∨ w'.z = 2) → (w.z = 1 ∨ w.z = 2)) : WOk w' := by
  obtain ⟨h1, h2, h3⟩ := h
  unfold WOk
  rw [hc, hs]
  exact ⟨hz, fun q => h2 (h12 q), h3⟩
theorem setSt_zo {sts : List Nat} {φ : WrD → WrD} (hφ : Zo φ) : ∀ {l : List WrD} {i : Nat}, setSt sts i (l.map φ) = setSt sts i l
  | [], _ => rfl
  | v :: l, i => by
    rw [List.map_cons]
    simp only [setSt]
    rw [setSt_zo hφ, (hφ v).1, (hφ v).2.1, (hφ v).2.2.1, (hφ v).2.2.2]
theorem setSt_set {sts sts' : List Nat} : ∀ {l : List WrD} {i j : Nat}, setSt sts i (setSt sts' j l) = setSt sts i l
  | [], _, _ => rfl
  | v :: l, i, j => by
    simp only [setSt]
    rw [setSt_set]
    rfl
theorem setSt_stB : ∀ {l p : List WrD}, setSt (stB (p ++ l)) p.length l = l.map crW
  | [], _ => rfl
  | v :: l, p => by
    have ih := @setSt_stB l (p ++ [v])
    rw [List.append_assoc, List.length_append] at ih
    simp only [setSt, List.map_cons]
    congr 1
    · have e : (stB (p ++ v :: l)).getD p.length 0 = if v.z = 1 then 0 else v.z := by
        unfold stB
        rw [List.map_append, List.map_cons, List.getD_eq_getElem?_getD, List.getElem?_append_right (by rw [List.length_map]; exact Nat.le_refl _), List.length_map, Nat.sub_self]
        rfl
      rw [e]
      unfold crW
      split
      · rfl
      · rfl
theorem setSt_mem {sts : List Nat} : ∀ {l : List WrD} {i : Nat} {w : WrD}, w ∈ setSt sts i l → ∃ v n, v ∈ l ∧ w = (v.a, v.g, v.c, v.s, sts.getD n 0)
  | v :: l, i, w, hw => by
    simp only [setSt] at hw
    rcases List.mem_cons.mp hw with rfl | hw
    · exact ⟨v, i, List.mem_cons_self .., rfl⟩
    · obtain ⟨u, n, h1, h2⟩ := setSt_mem hw
      exact ⟨u, n, List.mem_cons_of_mem _ h1, h2⟩
theorem setSt_at {sts : List Nat} : ∀ {l : List WrD} {i j : Nat} {w : WrD}, (setSt sts i l)[j]? = some w → ∃ v, l[j]? = some v ∧ w = (v.a, v.g, v.c, v.s, sts.getD (i + j) 0)
  | v :: l, i, 0, w, hw => by
    simp only [setSt] at hw
    cases hw
    exact ⟨v, rfl, rfl⟩
  | v :: l, i, j + 1, w, hw => by
    simp only [setSt] at hw
    obtain ⟨u, h1, h2⟩ := setSt_at (l := l) (i := i + 1) (j := j) hw
    exact ⟨u, h1, by rw [show i + (j + 1) = i + 1 + j by omega]; exact h2⟩
theorem NumW.setSt {ws : List WrD} {sts : List Nat} (h : NumW ws) : NumW (setSt sts 0 ws) := by
  intro i w hw
  obtain ⟨v, h1, rfl⟩ := setSt_at hw
  exact h i v h1
/-- what holds of a backup, whatever became of the writes since -/
def BI (nf : Nat) (fs : List FamD) (b : BkD) (ws : List WrD) : Prop :=
  b.fams.length = fs.length ∧ OrdW (setSt b.sts 0 ws) ∧ (∀ w, w ∈ setSt b.sts 0 ws → WOk w) ∧ b.sts.length ≤ ws.length ∧
  ∀ (i : Nat) (h g : FamD), b.fams[i]? = some h → fs[i]? = some g → h.g = g.g ∧ h.o = g.o ∧ TI [] nf g.g g.o (h.lv.map LvD.rs) (setSt b.sts 0 ws)
theorem BI.map {nf : Nat} {fs : List FamD} {b : BkD} {ws : List WrD} {φ : WrD → WrD} (h : BI nf fs b ws) (hφ : Zo φ) : BI nf fs b (ws.map φ) := by
  unfold BI
  rw [setSt_zo hφ, List.length_map]
  exact h
theorem BI.set {nf : Nat} {fs : List FamD} {b : BkD} {ws : List WrD} {sts : List Nat} (h : BI nf fs b ws) : BI nf fs b (setSt sts 0 ws) := by
  unfold BI
  rw [setSt_set, setSt_len]
  exact h
theorem BI.mono {nf nf' : Nat} {fs : List FamD} {b : BkD} {ws : List WrD} (h : BI nf fs b ws) (hn : nf ≤ nf') : BI nf' fs b ws := by
  obtain ⟨h1, h2, h3, h4, h5⟩ := h
  exact ⟨h1, h2, h3, h4, fun i x y hx hy => ⟨(h5 i x y hx hy).1, (h5 i x y hx hy).2.1, (h5 i x y hx hy).2.2.mom (fun m hm => by cases hm) hn⟩⟩
theorem BI.fams {nf : Nat} {fs fs' : List FamD} {b : BkD} {ws : List WrD} (h : BI nf fs b ws) (hl : fs'.length = fs.length) (hg : ∀ (i : Nat) (g' : FamD), fs'[i]? = some g' → ∃ g : FamD, fs[i]? = some g ∧ g'.g = g.g ∧ g'.o = g.o) : BI nf fs' b ws := by
  obtain ⟨h1, h2, h3, h4, h5⟩ := h
  refine ⟨h1.trans hl.symm, h2, h3, h4, fun i x y hx hy => ?_⟩
  obtain ⟨g, g1, g2, g3⟩ := hg i y hy
  rw [g2, g3]
  exact h5 i x g hx g1
theorem BI.snoc {nf : Nat} {fs : List FamD} {b : BkD} {ws : List WrD} {w : WrD} (h : BI nf fs b ws) (hw : WOk w) : BI nf fs b (ws ++ [w]) := by
  obtain ⟨h1, h2, h3, h4, h5⟩ := h
  have e : setSt b.sts 0 (ws ++ [w]) = setSt b.sts 0 ws ++ [(w.a, w.g, w.c, w.s, 0)] := by
    rw [setSt_snoc, Nat.zero_add, List.getD_eq_getElem?_getD, List.getElem?_eq_none h4]
    rfl
  unfold BI
  rw [e, List.length_append]
  refine ⟨h1, h2.snoc (fun q => by cases q), fun v hv => ?_, by omega, fun i x y hx hy => ⟨(h5 i x y hx hy).1, (h5 i x y hx hy).2.1, ?_⟩⟩
  · rcases List.mem_append.mp hv with hv | hv
    · exact h3 v hv
    · rw [List.mem_singleton.mp hv]
      refine hw.zmap (w' := (w.a, w.g, w.c, w.s, 0)) rfl rfl (Nat.zero_le _) (fun q => ?_)
      have q' : (0 : Nat) = 1 ∨ (0 : Nat) = 2 := q
      omega
  · refine (h5 i x y hx hy).2.2.ws (fun k hk => iE_snoc_no (.inl (by show (0 : Nat) ≠ 3; omega))) (fun v hv a1 a2 => ⟨v, List.mem_append_left _ hv, rfl, a1, a2, rfl⟩)
/-- a new backup -/
theorem BI.new {nf : Nat} {fs : List FamD} {b : BkD} {ws : List WrD} (hO : OrdW ws) (hW : ∀ w, w ∈ ws → WOk w) (hs : b.sts = stB ws) (hd : b.fams.map FamD.dat = fs.map FamD.dat) (hT : ∀ g, g ∈ fs → ∃ Mom, TI Mom nf g.g g.o (g.lv.map LvD.rs) ws) : BI nf fs b ws := by
  have e : setSt b.sts 0 ws = ws.map crW := by
    rw [hs]
    exact setSt_stB (p := [])
  have hl : b.fams.length = fs.length := by
    have := congrArg List.length hd
    rw [List.length_map, List.length_map] at this
    exact this
  unfold BI
  rw [e]
  refine ⟨hl, hO.zmap zo_cr (fun w => cr_z.1.mp) (fun w => cr_z.2.1), fun w hw => ?_, by rw [hs]; unfold stB; rw [List.length_map]; exact Nat.le_refl _, fun i h g hh hg => ?_⟩
  · obtain ⟨v, hv, rfl⟩ := List.mem_map.mp hw
    exact (hW v hv).zmap (zo_cr v).2.2.1 (zo_cr v).2.2.2 (cr_z.2.2 (hW v hv).1) cr_z.2.1
  · have h1 : (b.fams.map FamD.dat)[i]? = some h.dat := by rw [List.getElem?_map, hh]; rfl
    rw [hd, List.getElem?_map, hg] at h1
    have h2 : g.dat = h.dat := Option.some.inj h1
    have h3 : g.g = h.g := congrArg (fun p : Nat × Nat × List (Int × List RunD) => p.1) h2
    have h4 : g.o = h.o := congrArg (fun p : Nat × Nat × List (Int × List RunD) => p.2.1) h2
    have h5 : g.lv.map LvD.dat = h.lv.map LvD.dat := congrArg (fun p : Nat × Nat × List (Int × List RunD) => p.2.2) h2
    have h6 : h.lv.map LvD.rs = g.lv.map LvD.rs := by
      have := congrArg (List.map Prod.snd) h5
      rw [List.map_map, List.map_map] at this
      exact this.symm
    obtain ⟨Mom, hM⟩ := hT g (List.mem_of_getElem? hg)
    rw [h6]
    exact ⟨h3.symm, h4.symm, (hM.mom (Mom' := []) (fun m hm => by cases hm) (Nat.le_refl _)).zmap zo_cr (fun w _ _ => cr_z.1)⟩
theorem Rs_at : ∀ {fs hs fs' : List FamD} {i : Nat} {g' : FamD}, Rs fs hs fs' → fs'[i]? = some g' → ∃ g h, fs[i]? = some g ∧ hs[i]? = some h ∧ g'.g = g.g ∧ g'.o = g.o ∧ g'.a = g.a ∧ g'.lv.map LvD.rs = h.lv.map LvD.rs
  | g :: gs, h :: hs, g' :: gs', 0, x, hR, hx => by
    cases hx
    obtain ⟨⟨t, rfl, h2, h3⟩, -⟩ := hR
    refine ⟨g, h, rfl, rfl, rfl, rfl, rfl, ?_⟩
    have := congrArg (List.map Prod.snd) h2
    rw [List.map_map, List.map_map] at this
    exact this
  | g :: gs, h :: hs, g' :: gs', i + 1, x, hR, hx => by
    obtain ⟨a, b, h1, h2⟩ := Rs_at (i := i) hR.2 hx
    exact ⟨a, b, h1, h2⟩
  | [], [], [], i, x, hR, hx => by simp at hx
theorem Rs_len : ∀ {fs hs fs' : List FamD}, Rs fs hs fs' → fs'.length = fs.length
  | [], [], [], _ => rfl
  | g :: gs, h :: hs, g' :: gs', hR => by
    have := Rs_len hR.2
    simp only [List.length_cons]
    omega
