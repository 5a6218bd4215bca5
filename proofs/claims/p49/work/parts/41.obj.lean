/-! THE OBJECT: its cells, what doesn't change -/
abbrev SnD : Type := Nat × Nat × Nat
def SnD.a (s : SnD) : Nat := s.1
def SnD.i (s : SnD) : Nat := s.2.1
def SnD.m (s : SnD) : Nat := s.2.2
def cSn (s : SnD) : vC := vO 9 [.int (zI s.i), .int (zI s.m)]
/-- cursors: cell, number, family's cell, moment, place -/
abbrev CuD : Type := Nat × Nat × Nat × Nat × Int
def CuD.a (s : CuD) : Nat := s.1
def CuD.i (s : CuD) : Nat := s.2.1
def CuD.h (s : CuD) : Nat := s.2.2.1
def CuD.m (s : CuD) : Nat := s.2.2.2.1
def CuD.p (s : CuD) : Int := s.2.2.2.2
def cCu (s : CuD) : vC := vO 3 [.int (zI s.i), .ref s.h, .int (zI s.m), .int (zI s.p)]
abbrev Ls (α : Type) : Type := Nat × Nat × List α
/-- counters: made snapshots, cursors, files, weight, versions, blocks, asked, passed falsely, slowed, dropped -/
abbrev CtD : Type := Nat × Nat × Nat × Int32 × Nat × Nat × Nat × Nat × Int32 × Int32
def meV : Option MeD → Value
  | none => .null
  | some m => .ref m.a
def cOb (f : Ls FamD) (w : Ls WrD) (s : Ls SnD) (c : Ls CuD) (b : Ls BkD) (fi : Nat × FiD) (y : Ls ChD) (me : Option MeD) (ct : CtD) : vC :=
  vO 11 [.ref f.1, .ref w.1, .ref s.1, .ref c.1, .ref b.1, .ref fi.1, .ref y.1, meV me, .int (zI ct.1), .int (zI ct.2.1), .int (zI ct.2.2.1), .int ct.2.2.2.1, .int (zI ct.2.2.2.2.1), .int (zI ct.2.2.2.2.2.1), .int (zI ct.2.2.2.2.2.2.1), .int (zI ct.2.2.2.2.2.2.2.1), .int ct.2.2.2.2.2.2.2.2.1, .int ct.2.2.2.2.2.2.2.2.2]
def wrP (w : WrD) : Nat × vC := (w.a, cWr w)
def cuP (c : CuD) : Nat × vC := (c.a, cCu c)
def fmP (f : FamD) : List (Nat × vC) := fCells f.lv
def meC : Option MeD → List (Nat × vC)
  | none => []
  | some m => [(m.a, cMe m), (m.ka, vL m.kc (m.kept.map ChD.a))]
def obT (f : Ls FamD) (w : Ls WrD) (c : Ls CuD) (me : Option MeD) (L : List (Nat × vC)) : List (Nat × vC) := meC me ++ (c.2.2.map cuP ++ (w.2.2.map wrP ++ (f.2.2.flatMap fmP ++ L)))
def obC (o : Nat) (f : Ls FamD) (w : Ls WrD) (s : Ls SnD) (c : Ls CuD) (b : Ls BkD) (fi : Nat × FiD) (y : Ls ChD) (me : Option MeD) (ct : CtD) (L : List (Nat × vC)) : List (Nat × vC) :=
  (o, cOb f w s c b fi y me ct) :: (f.1, vL f.2.1 (f.2.2.map FamD.a)) :: (w.1, vL w.2.1 (w.2.2.map WrD.a)) :: (s.1, vL s.2.1 (s.2.2.map SnD.a)) :: (c.1, vL c.2.1 (c.2.2.map CuD.a)) :: (b.1, vL b.2.1 (b.2.2.map BkD.a)) :: (fi.1, cFi fi.2) :: (y.1, vL y.2.1 (y.2.2.map ChD.a)) :: obT f w c me L
def okLs (F : Nat → Option vC) (l : LvD) : Prop := (-1 ≤ l.mu ∧ l.mu ≤ 100) ∧ ∀ r, r ∈ l.rs → okRun F r
def okMe (F : Nat → Option vC) (m : MeD) : Prop := m.lv ≤ 2 ∧ F m.ia = some (vL m.ic (m.ins.map RunD.a)) ∧ (∀ r, r ∈ m.ins → okRun F r) ∧ (∀ c, c ∈ m.kept → okCh F c) ∧ (-1 ≤ m.sg ∧ m.sg ≤ 100) ∧ (-1 ≤ m.key ∧ m.key ≤ 100) ∧ m.dn ≤ 1000000
def okCt (ct : CtD) : Prop := ct.1 ≤ 1000000 ∧ ct.2.1 ≤ 1000000 ∧ ct.2.2.1 < 1000000 ∧ ct.2.2.2.2.1 ≤ 1000000 ∧ ct.2.2.2.2.2.1 ≤ 1000000000 ∧ ct.2.2.2.2.2.2.1 ≤ 1000000000 ∧ ct.2.2.2.2.2.2.2.1 ≤ 1000000000
def okS (F : Nat → Option vC) (f : Ls FamD) (w : Ls WrD) (s : Ls SnD) (c : Ls CuD) (b : Ls BkD) (y : Ls ChD) (me : Option MeD) (ct : CtD) : Prop :=
  (∀ g, g ∈ f.2.2 → okFm F g ∧ ∀ l, l ∈ g.lv → okLs F l) ∧ (∀ x, x ∈ w.2.2 → okCh F x.c ∧ x.g ≤ 3 ∧ x.s ≤ 20 ∧ x.z ≤ 3) ∧ (∀ x, x ∈ s.2.2 → F x.a = some (cSn x) ∧ x.i ≤ 1000000 ∧ x.m ≤ 1000000) ∧
  (∀ x, x ∈ c.2.2 → x.i ≤ 1000000 ∧ x.m ≤ 1000000 ∧ (-1 ≤ x.p ∧ x.p ≤ 100)) ∧ (∀ x, x ∈ b.2.2 → okBk F x) ∧ (∀ x, x ∈ y.2.2 → okCh F x) ∧ (∀ m, me = some m → okMe F m) ∧ okCt ct
def okO (A : gA) (F : Nat → Option vC) (L : List (Nat × vC)) (o : Nat) (f : Ls FamD) (w : Ls WrD) (s : Ls SnD) (c : Ls CuD) (b : Ls BkD) (fi : Nat × FiD) (y : Ls ChD) (me : Option MeD) (ct : CtD) : Prop :=
  Own A F (obC o f w s c b fi y me ct L) ∧ okS F f w s c b y me ct
theorem okLs.ext {F G : Nat → Option vC} {l : LvD} (h : okLs F l) (he : Ext F G) : okLs G l := ⟨h.1, fun r hr => (h.2 r hr).ext he⟩
theorem okMe.ext {F G : Nat → Option vC} {m : MeD} (h : okMe F m) (he : Ext F G) : okMe G m := ⟨h.1, he _ _ h.2.1, fun r hr => (h.2.2.1 r hr).ext he, fun r hr => (h.2.2.2.1 r hr).ext he, h.2.2.2.2⟩
theorem okS.ext {F G : Nat → Option vC} {f : Ls FamD} {w : Ls WrD} {s : Ls SnD} {c : Ls CuD} {b : Ls BkD} {y : Ls ChD} {me : Option MeD} {ct : CtD} (h : okS F f w s c b y me ct) (he : Ext F G) : okS G f w s c b y me ct := by
  obtain ⟨h1, h2, h3, h4, h5, h6, h7, h8⟩ := h
  exact ⟨fun g hg => ⟨(h1 g hg).1.ext he, fun l hl => ((h1 g hg).2 l hl).ext he⟩, fun x hx => ⟨(h2 x hx).1.ext he, (h2 x hx).2⟩, fun x hx => ⟨he _ _ (h3 x hx).1, (h3 x hx).2⟩, h4, fun x hx => (h5 x hx).ext he, fun x hx => (h6 x hx).ext he, fun m hm => (h7 m hm).ext he, h8⟩
theorem Own.setAt {A : gA} {F : Nat → Option vC} {L : List (Nat × vC)} {q kc ks : Nat} {c c0 : vC} (i : Nat) (h : Own A F L) (hi : L[i]? = some (q, c0)) : Own (aLst A q c kc ks) F (L.set i (q, c)) := by
  have hl := (List.getElem?_eq_some_iff.mp hi).1
  have e1 : L = L.take i ++ (q, c0) :: L.drop (i + 1) := by
    rw [← (List.getElem?_eq_some_iff.mp hi).2, List.getElem_cons_drop, List.take_append_drop]
  rw [List.set_eq_take_append_cons_drop, if_pos hl]
  rw [e1] at h
  exact h.lst
section OB
variable {A : gA} {F : Nat → Option vC} {L : List (Nat × vC)} {o : Nat} {f : Ls FamD} {w : Ls WrD} {s : Ls SnD} {c : Ls CuD} {b : Ls BkD} {fi : Nat × FiD} {y : Ls ChD} {me : Option MeD} {ct : CtD}
theorem okO.at (h : okO A F L o f w s c b fi y me ct) {q : Nat} {x : vC} (i : Nat) (hi : (obC o f w s c b fi y me ct L)[i]? = some (q, x)) : A.1 q = some x := h.1.at (List.mem_of_getElem? hi)
theorem okO.ob (h : okO A F L o f w s c b fi y me ct) : A.1 o = some (cOb f w s c b fi y me ct) := h.at 0 rfl
theorem okO.fl (h : okO A F L o f w s c b fi y me ct) : A.1 f.1 = some (vL f.2.1 (f.2.2.map FamD.a)) := h.at 1 rfl
theorem okO.wl (h : okO A F L o f w s c b fi y me ct) : A.1 w.1 = some (vL w.2.1 (w.2.2.map WrD.a)) := h.at 2 rfl
theorem okO.sl (h : okO A F L o f w s c b fi y me ct) : A.1 s.1 = some (vL s.2.1 (s.2.2.map SnD.a)) := h.at 3 rfl
theorem okO.cl (h : okO A F L o f w s c b fi y me ct) : A.1 c.1 = some (vL c.2.1 (c.2.2.map CuD.a)) := h.at 4 rfl
theorem okO.bl (h : okO A F L o f w s c b fi y me ct) : A.1 b.1 = some (vL b.2.1 (b.2.2.map BkD.a)) := h.at 5 rfl
theorem okO.fic (h : okO A F L o f w s c b fi y me ct) : A.1 fi.1 = some (cFi fi.2) := h.at 6 rfl
theorem okO.yl (h : okO A F L o f w s c b fi y me ct) : A.1 y.1 = some (vL y.2.1 (y.2.2.map ChD.a)) := h.at 7 rfl
theorem obT_mem {p : Nat × vC} : p ∈ obT f w c me L ↔ p ∈ meC me ∨ p ∈ c.2.2.map cuP ∨ p ∈ w.2.2.map wrP ∨ p ∈ f.2.2.flatMap fmP ∨ p ∈ L := by simp only [obT, List.mem_append]
theorem okO.tm (h : okO A F L o f w s c b fi y me ct) {p : Nat × vC} (hp : p ∈ obT f w c me L) : A.1 p.1 = some p.2 := (h.1.2.1 p (by
  simp only [obC, List.mem_cons]
  exact .inr (.inr (.inr (.inr (.inr (.inr (.inr (.inr hp))))))))).1
theorem okO.me1 {m : MeD} (h : okO A F L o f w s c b fi y (some m) ct) : A.1 m.a = some (cMe m) ∧ A.1 m.ka = some (vL m.kc (m.kept.map ChD.a)) :=
  ⟨h.tm (p := (m.a, cMe m)) (obT_mem.mpr (.inl (List.mem_cons_self ..))), h.tm (p := (m.ka, vL m.kc (m.kept.map ChD.a))) (obT_mem.mpr (.inl (List.mem_cons_of_mem _ (List.mem_cons_self ..))))⟩
theorem okO.cu (h : okO A F L o f w s c b fi y me ct) {x : CuD} (hx : x ∈ c.2.2) : A.1 x.a = some (cCu x) := h.tm (p := (x.a, cCu x)) (obT_mem.mpr (.inr (.inl (List.mem_map_of_mem (f := cuP) hx))))
theorem okO.wr (h : okO A F L o f w s c b fi y me ct) {x : WrD} (hx : x ∈ w.2.2) : okWr A.1 x := by
  obtain ⟨h1, h2, h3, h4⟩ := h.2.2.1 x hx
  exact ⟨h.tm (p := (x.a, cWr x)) (obT_mem.mpr (.inr (.inr (.inl (List.mem_map_of_mem (f := wrP) hx))))), h1.ext h.1.1, h2, h3, h4⟩
theorem okO.fm (h : okO A F L o f w s c b fi y me ct) {g : FamD} (hg : g ∈ f.2.2) : okFm A.1 g := (h.2.1 g hg).1.ext h.1.1
theorem okO.lv (h : okO A F L o f w s c b fi y me ct) {g : FamD} (hg : g ∈ f.2.2) {l : LvD} (hl : l ∈ g.lv) : okLv A.1 l := by
  obtain ⟨h1, h2⟩ := (h.2.1 g hg).2 l hl
  obtain ⟨g1, g2⟩ := fCells_mem hl
  refine ⟨h.tm (p := (l.a, cLv l)) (obT_mem.mpr (.inr (.inr (.inr (.inl (List.mem_flatMap.mpr ⟨g, hg, g1⟩)))))), h.tm (p := (l.la, cLl l)) (obT_mem.mpr (.inr (.inr (.inr (.inl (List.mem_flatMap.mpr ⟨g, hg, g2⟩)))))), h1, fun r hr => (h2 r hr).ext h.1.1⟩
theorem okO.sn (h : okO A F L o f w s c b fi y me ct) {x : SnD} (hx : x ∈ s.2.2) : A.1 x.a = some (cSn x) ∧ x.i ≤ 1000000 ∧ x.m ≤ 1000000 := by
  obtain ⟨h1, h2⟩ := h.2.2.2.1 x hx
  exact ⟨h.1.1 _ _ h1, h2⟩
theorem okO.bk (h : okO A F L o f w s c b fi y me ct) {x : BkD} (hx : x ∈ b.2.2) : okBk A.1 x := (h.2.2.2.2.2.1 x hx).ext h.1.1
theorem okO.wy (h : okO A F L o f w s c b fi y me ct) {x : ChD} (hx : x ∈ y.2.2) : okCh A.1 x := (h.2.2.2.2.2.2.1 x hx).ext h.1.1
theorem okO.me2 {m : MeD} (h : okO A F L o f w s c b fi y (some m) ct) : okMe A.1 m := (h.2.2.2.2.2.2.2.1 m rfl).ext h.1.1
theorem okO.ctc (h : okO A F L o f w s c b fi y me ct) : okCt ct := h.2.2.2.2.2.2.2.2
/-- counters -/
theorem okO.putCt (h : okO A F L o f w s c b fi y me ct) {ct' : CtD} (hc : okCt ct') : okO (aPut A o (cOb f w s c b fi y me ct')) F L o f w s c b fi y me ct' :=
  ⟨h.1.setAt 0 rfl (kc := 0) (ks := 0) (c := cOb f w s c b fi y me ct'), h.2.1, h.2.2.1, h.2.2.2.1, h.2.2.2.2.1, h.2.2.2.2.2.1, h.2.2.2.2.2.2.1, h.2.2.2.2.2.2.2.1, hc⟩
/-- what is found -/
theorem okO.putFi (h : okO A F L o f w s c b fi y me ct) {fd : FiD} : okO (aPut A fi.1 (cFi fd)) F L o f w s c b (fi.1, fd) y me ct :=
  ⟨h.1.setAt 6 rfl (kc := 0) (ks := 0) (c := cFi fd), h.2⟩
/-- the way -/
theorem okO.lsY (h : okO A F L o f w s c b fi y me ct) {c' kc ks : Nat} {l : List ChD} (hl : ∀ x, x ∈ l → okCh F x) : okO (aLst A y.1 (vL c' (l.map ChD.a)) kc ks) F L o f w s c b fi (y.1, c', l) me ct :=
  ⟨h.1.setAt 7 rfl, h.2.1, h.2.2.1, h.2.2.2.1, h.2.2.2.2.1, h.2.2.2.2.2.1, hl, h.2.2.2.2.2.2.2.1, h.2.2.2.2.2.2.2.2⟩
/-- a write's state -/
theorem wrP_map {l : List WrD} (x' : WrD) : l.map (fun w => (w.a, cWr w)) = l.map wrP := rfl
theorem okO.putWr (h : okO A F L o f w s c b fi y me ct) {l1 l2 : List WrD} {x x' : WrD} (hw : w.2.2 = l1 ++ x :: l2) (ha : x'.a = x.a) (hz : x'.g = x.g ∧ x'.c = x.c ∧ x'.s = x.s ∧ x'.z ≤ 3) :
    okO (aPut A x.a (cWr x')) F L o f (w.1, w.2.1, l1 ++ x' :: l2) s c b fi y me ct := by
  obtain ⟨wa, wc, ws⟩ := w
  subst hw
  have h1 := h.1
  have e1 : obC o f (wa, wc, l1 ++ x :: l2) s c b fi y me ct L = ([(o, cOb f (wa, wc, l1 ++ x :: l2) s c b fi y me ct), (f.1, vL f.2.1 (f.2.2.map FamD.a)), (wa, vL wc ((l1 ++ x :: l2).map WrD.a)), (s.1, vL s.2.1 (s.2.2.map SnD.a)), (c.1, vL c.2.1 (c.2.2.map CuD.a)), (b.1, vL b.2.1 (b.2.2.map BkD.a)), (fi.1, cFi fi.2), (y.1, vL y.2.1 (y.2.2.map ChD.a))] ++ (meC me ++ (c.2.2.map cuP ++ l1.map wrP))) ++ (x.a, cWr x) :: (l2.map wrP ++ (f.2.2.flatMap fmP ++ L)) := by
    simp [obC, obT, wrP]
  rw [e1] at h1
  have h2 := h1.put (c := cWr x')
  have e2 : obC o f (wa, wc, l1 ++ x' :: l2) s c b fi y me ct L = ([(o, cOb f (wa, wc, l1 ++ x :: l2) s c b fi y me ct), (f.1, vL f.2.1 (f.2.2.map FamD.a)), (wa, vL wc ((l1 ++ x :: l2).map WrD.a)), (s.1, vL s.2.1 (s.2.2.map SnD.a)), (c.1, vL c.2.1 (c.2.2.map CuD.a)), (b.1, vL b.2.1 (b.2.2.map BkD.a)), (fi.1, cFi fi.2), (y.1, vL y.2.1 (y.2.2.map ChD.a))] ++ (meC me ++ (c.2.2.map cuP ++ l1.map wrP))) ++ (x.a, cWr x') :: (l2.map wrP ++ (f.2.2.flatMap fmP ++ L)) := by
    simp [obC, obT, wrP, ha, cOb]
  refine ⟨?_, h.2.1, fun z hz9 => ?_, h.2.2.2⟩
  · rw [e2]
    exact h2
  · have k := h.2.2.1
    rcases List.mem_append.mp hz9 with hz1 | hz1
    · exact k z (List.mem_append_left _ hz1)
    · rcases List.mem_cons.mp hz1 with rfl | hz1
      · have k1 := k x (List.mem_append_right _ (List.mem_cons_self ..))
        rw [hz.1, hz.2.1, hz.2.2.1]
        exact ⟨k1.1, k1.2.1, k1.2.2.1, hz.2.2.2⟩
      · exact k z (List.mem_append_right _ (List.mem_cons_of_mem _ hz1))
/-- a new write -/
theorem okO.addWr (h : okO A F L o f w s c b fi y me ct) {x : WrD} {A1 : gA} {c' kc ks : Nat} (h1 : Own A1 F ((x.a, cWr x) :: obC o f w s c b fi y me ct L)) (hk : okCh F x.c ∧ x.g ≤ 3 ∧ x.s ≤ 20 ∧ x.z ≤ 3) :
    okO (aLst A1 w.1 (vL c' ((w.2.2 ++ [x]).map WrD.a)) kc ks) F L o f (w.1, c', w.2.2 ++ [x]) s c b fi y me ct := by
  have h2 := h1.setAt 3 rfl (c := vL c' ((w.2.2 ++ [x]).map WrD.a)) (kc := kc) (ks := ks)
  refine ⟨h2.perm ?_, h.2.1, fun z hz => ?_, h.2.2.2⟩
  · show ((x.a, cWr x) :: ([(o, cOb f w s c b fi y me ct), (f.1, vL f.2.1 (f.2.2.map FamD.a)), (w.1, vL c' ((w.2.2 ++ [x]).map WrD.a)), (s.1, vL s.2.1 (s.2.2.map SnD.a)), (c.1, vL c.2.1 (c.2.2.map CuD.a)), (b.1, vL b.2.1 (b.2.2.map BkD.a)), (fi.1, cFi fi.2), (y.1, vL y.2.1 (y.2.2.map ChD.a))] ++ obT f w c me L)).Perm _
    refine List.perm_middle.symm.trans (List.Perm.append_left _ ?_)
    show ((x.a, cWr x) :: (meC me ++ (c.2.2.map cuP ++ (w.2.2.map wrP ++ (f.2.2.flatMap fmP ++ L))))).Perm (meC me ++ (c.2.2.map cuP ++ ((w.2.2 ++ [x]).map wrP ++ (f.2.2.flatMap fmP ++ L))))
    refine List.perm_middle.symm.trans (List.Perm.append_left _ ?_)
    refine List.perm_middle.symm.trans (List.Perm.append_left _ ?_)
    rw [List.map_append, List.append_assoc]
    exact List.perm_middle.symm
  · rcases List.mem_append.mp hz with hz | hz
    · exact h.2.2.1 z hz
    · rw [List.mem_singleton.mp hz]
      exact hk
end OB
