/-! ROWS OF A VIEW'S CELLS, calls, returns -/
section WW
variable {sc : gSc} {d m pc : Nat} {ls : gL} {st : List Value} {A : gA} {Q : gO → gA → Prop} {a b len i ci k r n j : Nat} {fs : List Value} {v : Value} {c : vC} {z : Int} {ty : FieldType} {f : Nat → Int32} {g : Nat → Option Nat}
theorem wv_getfield (hf : gFetch m pc = some (.getfield i, len, ci, k)) (hg : A.1 r = some (vO ci fs)) (hv : fs[k]? = some v) (hn : Wv sc d m (pc + 3) ls (v :: st) A Q) : Wv sc d m pc ls (.ref r :: st) A Q := fun h hR => wq_getfield hf (hR.real hg rfl) hv (hn h hR)
theorem wv_putfield (hf : gFetch m pc = some (.putfield i, len, ci, k)) (hg : A.1 r = some (vO ci fs)) (hk : k < fs.length) (hv : gFit (gTy ci k) v = true) (hn : Wv sc d m (pc + 3) ls st (aPut A r (vO ci (fs.set k v))) Q) : Wv sc d m pc ls (v :: .ref r :: st) A Q := fun h hR =>
  wq_putfield hf (hR.real hg rfl) hk hv (hn _ (hR.put hg rfl rfl (fun z hz => ⟨_, rfl, by cases hz; rfl⟩) (gGet_self (hR.real hg rfl)) (fun q hq => gGet_ne (Ne.symm hq)) rfl rfl))
theorem wv_new (hf : gFetch m pc = some (.new i, len, a, b)) (ha : a < 12) (h0 : 0 < a) (hn : ∀ q, A.1 q = none → Wv sc d m (pc + 3) ls (.ref q :: st) (aNew A q (vO a ((List.range (gN a)).map (fun k => gZ (gTy a k)))) (gN a)) Q) : Wv sc d m pc ls st A Q := fun h hR =>
  wq_new hf (by omega) (by simp only [gStep, if_pos ha]) (hn _ hR.fresh _ (hR.new rfl))
theorem wv_newL (hf : gFetch m pc = some (.new i, len, 0, b)) (hn : ∀ q, A.1 q = none → Wv sc d m (pc + 3) ls (.ref q :: st) (aNew A q vW 3) Q) : Wv sc d m pc ls st A Q := fun h hR =>
  wq_new hf (by omega) (by simp only [gStep]; rfl) (hn _ hR.fresh _ (hR.new (n := 3) (x := cAL0) rfl))
theorem wv_newarr {t : ArrayType} (hf : gFetch m pc = some (.newarray t, len, a, b)) (hz : z = (n : Int)) (hl : n ≤ 100000) (hn : ∀ q, A.1 q = none → Wv sc d m (pc + 2) ls (.ref q :: st) (aNew A q (vN (newarray.typeOf t) n (fun _ => 0)) n) Q) : Wv sc d m pc ls (.int (zI z) :: st) A Q := fun h hR => by
  have e1 := zI_clamp hz (by omega)
  have e2 := zI_neg' hz (by omega)
  exact wq_s hf rfl (by simp only [gStep, e1]; rw [if_neg (fun w => w.elim e2 (fun w => by omega))]) (hn _ hR.fresh _ (hR.new rfl))
theorem wv_anew (hf : gFetch m pc = some (.anewarray i, len, a, b)) (ha : a ≤ 2) (hz : z = (n : Int)) (hl : n ≤ 100000) (hn : ∀ q, A.1 q = none → Wv sc d m (pc + 3) ls (.ref q :: st) (aNew A q (vR (gComp a) n (fun _ => none)) n) Q) : Wv sc d m pc ls (.int (zI z) :: st) A Q := fun h hR => by
  have e1 := zI_clamp hz (by omega)
  have e2 := zI_neg' hz (by omega)
  exact wq_s hf rfl (by simp only [gStep, e1]; rw [if_neg (fun w => w.elim e2 (fun w => w.elim (fun w => by omega) (fun w => by omega)))]) (hn _ hR.fresh _ (hR.new rfl))
theorem wv_alenN (hf : gFetch m pc = some (.arraylength, len, a, b)) (hg : A.1 r = some (vN ty n f)) (hn : Wv sc d m (pc + 1) ls (.int (zI n) :: st) A Q) : Wv sc d m pc ls (.ref r :: st) A Q := fun h hR =>
  wq_s hf rfl (by simp only [gStep, hR.real hg rfl]; rw [show Int32.ofNat n = zI n from (zI_nat n).symm]) (hn h hR)
theorem wv_alenR (hf : gFetch m pc = some (.arraylength, len, a, b)) (hg : A.1 r = some (vR ty n g)) (hn : Wv sc d m (pc + 1) ls (.int (zI n) :: st) A Q) : Wv sc d m pc ls (.ref r :: st) A Q := fun h hR =>
  wq_s hf rfl (by simp only [gStep, hR.real hg rfl]; rw [show Int32.ofNat n = zI n from (zI_nat n).symm]) (hn h hR)
theorem wv_alenS (hf : gFetch m pc = some (.arraylength, len, a, b)) (hn : Wv sc d m (pc + 1) ls (.int (zI sc.1) :: st) A Q) : Wv sc d m pc ls (.retAddr 0 :: st) A Q :=
  wv_s hf rfl (fun h => by simp only [gStep]; rw [show Int32.ofNat sc.1 = zI sc.1 from (zI_nat sc.1).symm]) hn
theorem wv_iaload (hf : gFetch m pc = some (.iaload, len, a, b)) (hg : A.1 r = some (vN .int n f)) (hz : z = (j : Int)) (hj : j < n) (hn2 : n < 2 ^ 31) (hn : Wv sc d m (pc + 1) ls (.int (f j) :: st) A Q) : Wv sc d m pc ls (.int (zI z) :: .ref r :: st) A Q := fun h hR => by
  have e1 := zI_clamp hz (by omega)
  exact wq_s hf rfl (by simp only [gStep, hR.real hg rfl]; rw [if_pos ⟨trivial, zI_in hz hj hn2⟩, e1]) (hn h hR)
theorem wv_ialoadS (hf : gFetch m pc = some (.iaload, len, a, b)) (hz : z = (j : Int)) (hj : j < sc.1) (hn2 : sc.1 < 2 ^ 31) (hn : Wv sc d m (pc + 1) ls (.int (sc.2 j) :: st) A Q) : Wv sc d m pc ls (.int (zI z) :: .retAddr 0 :: st) A Q := by
  have e1 := zI_clamp hz (by omega)
  exact wv_s hf rfl (fun h => by simp only [gStep]; rw [if_pos (zI_in hz hj hn2), e1]) hn
theorem wv_baload (hf : gFetch m pc = some (.baload, len, a, b)) (hg : A.1 r = some (vN .boolean n f)) (hz : z = (j : Int)) (hj : j < n) (hn2 : n < 2 ^ 31) (hn : Wv sc d m (pc + 1) ls (.int (f j) :: st) A Q) : Wv sc d m pc ls (.int (zI z) :: .ref r :: st) A Q := fun h hR => by
  have e1 := zI_clamp hz (by omega)
  exact wq_s hf rfl (by simp only [gStep, hR.real hg rfl]; rw [if_pos ⟨trivial, zI_in hz hj hn2⟩, e1]) (hn h hR)
theorem wv_caload (hf : gFetch m pc = some (.caload, len, a, b)) (hg : A.1 r = some (vN .char n f)) (hz : z = (j : Int)) (hj : j < n) (hn2 : n < 2 ^ 31) (hn : Wv sc d m (pc + 1) ls (.int (f j) :: st) A Q) : Wv sc d m pc ls (.int (zI z) :: .ref r :: st) A Q := fun h hR => by
  have e1 := zI_clamp hz (by omega)
  exact wq_s hf rfl (by simp only [gStep, hR.real hg rfl]; rw [if_pos ⟨trivial, zI_in hz hj hn2⟩, e1]) (hn h hR)
theorem Rp.putN {h : gH} {f' : Nat → Int32} (hR : Rp h A) (hg : A.1 r = some (vN ty n f)) : Rp (gPut h r (.inr (.inl (ty, n, f')))) (aPut A r (vN ty n f')) :=
  hR.put hg rfl rfl (fun z hz => by cases hz) (gGet_self (hR.real hg rfl)) (fun q hq => gGet_ne (Ne.symm hq)) rfl rfl
theorem wv_iastore {X : Int32} (hf : gFetch m pc = some (.iastore, len, a, b)) (hg : A.1 r = some (vN .int n f)) (hz : z = (j : Int)) (hj : j < n) (hn2 : n < 2 ^ 31) (hn : Wv sc d m (pc + 1) ls st (aPut A r (vN .int n (upd f j X))) Q) : Wv sc d m pc ls (.int X :: .int (zI z) :: .ref r :: st) A Q := fun h hR => by
  have e1 := zI_clamp hz (by omega)
  exact wq_s hf rfl (by simp only [gStep, hR.real hg rfl]; rw [if_pos ⟨trivial, zI_in hz hj hn2⟩, e1]) (hn _ (hR.putN hg))
theorem wv_bastore {X : Int32} (hf : gFetch m pc = some (.bastore, len, a, b)) (hg : A.1 r = some (vN .boolean n f)) (hz : z = (j : Int)) (hj : j < n) (hn2 : n < 2 ^ 31) (hn : Wv sc d m (pc + 1) ls st (aPut A r (vN .boolean n (upd f j (vp_nar .boolean X)))) Q) : Wv sc d m pc ls (.int X :: .int (zI z) :: .ref r :: st) A Q := fun h hR => by
  have e1 := zI_clamp hz (by omega)
  exact wq_s hf rfl (by simp only [gStep, hR.real hg rfl]; rw [if_pos ⟨trivial, zI_in hz hj hn2⟩, e1]) (hn _ (hR.putN hg))
theorem wv_castore {X : Int32} (hf : gFetch m pc = some (.castore, len, a, b)) (hg : A.1 r = some (vN .char n f)) (hz : z = (j : Int)) (hj : j < n) (hn2 : n < 2 ^ 31) (hn : Wv sc d m (pc + 1) ls st (aPut A r (vN .char n (upd f j (vp_nar .char X)))) Q) : Wv sc d m pc ls (.int X :: .int (zI z) :: .ref r :: st) A Q := fun h hR => by
  have e1 := zI_clamp hz (by omega)
  exact wq_s hf rfl (by simp only [gStep, hR.real hg rfl]; rw [if_pos ⟨trivial, zI_in hz hj hn2⟩, e1]) (hn _ (hR.putN hg))
theorem wv_aaload (hf : gFetch m pc = some (.aaload, len, a, b)) (hg : A.1 r = some (vR ty n g)) (ht : gRefTy ty = true) (hz : z = (j : Int)) (hj : j < n) (hn2 : n < 2 ^ 31) (hv : va_rf (g j) = v) (hn : Wv sc d m (pc + 1) ls (v :: st) A Q) : Wv sc d m pc ls (.int (zI z) :: .ref r :: st) A Q := fun h hR => by
  have e1 := zI_clamp hz (by omega)
  subst hv
  exact wq_s hf rfl (by simp only [gStep, hR.real hg rfl]; rw [if_pos ⟨ht, zI_in hz hj hn2⟩, e1]) (hn h hR)
theorem wv_aastore {y : Nat} {x : gC} (hf : gFetch m pc = some (.aastore, len, a, b)) (hg : A.1 r = some (vR ty n g)) (hy : A.1 y = some c) (hc : vReal c = some x) (hm : gMay ty x = true) (hz : z = (j : Int)) (hj : j < n) (hn2 : n < 2 ^ 31) (hn : Wv sc d m (pc + 1) ls st (aPut A r (vR ty n (va_up g j (some y)))) Q) : Wv sc d m pc ls (.ref y :: .int (zI z) :: .ref r :: st) A Q := fun h hR => by
  have e1 := zI_clamp hz (by omega)
  exact wq_s hf rfl (by simp only [gStep, hR.real hg rfl, hR.real hy hc]; rw [if_pos ⟨zI_in hz hj hn2, hm⟩, e1]) (hn _ (hR.put hg rfl rfl (fun z hz => by cases hz) (gGet_self (hR.real hg rfl)) (fun q hq => gGet_ne (Ne.symm hq)) rfl rfl))
theorem wv_cast (hf : gFetch m pc = some (.checkcast i, len, ci, b)) (hg : A.1 r = some (vO ci fs)) (hn : Wv sc d m (pc + 3) ls (.ref r :: st) A Q) : Wv sc d m pc ls (.ref r :: st) A Q := fun h hR =>
  wq_s hf rfl (by simp only [gStep, hR.real hg rfl, if_true]) (hn h hR)
theorem wv_iret {X : Int32} (hf : gFetch m pc = some (.ireturn, len, a, b)) (hok : gRetOk m (.int X) = true) (hq : Q (.inl (some (.int X))) A) : Wv sc d m pc ls [.int X] A Q := fun _ hR => wq_iret hf hok ⟨A, hR, hq⟩
theorem wv_fret {X : UInt32} (hf : gFetch m pc = some (.freturn, len, a, b)) (hok : gRetOk m (.float X) = true) (hq : Q (.inl (some (.float X))) A) : Wv sc d m pc ls [.float X] A Q := fun _ hR => wq_fret hf hok ⟨A, hR, hq⟩
theorem wv_aret (hf : gFetch m pc = some (.areturn, len, a, b)) (hok : (gRetOk m v && gRefV v) = true) (hq : Q (.inl (some v)) A) : Wv sc d m pc ls [v] A Q := fun _ hR => wq_aret hf hok ⟨A, hR, hq⟩
theorem wv_vret (hf : gFetch m pc = some (.return_, len, a, b)) (hok : gRt m = none) (hq : Q (.inl none) A) : Wv sc d m pc ls [] A Q := fun _ hR => wq_vret hf hok ⟨A, hR, hq⟩
theorem wv_throw (hf : gFetch m pc = some (.new i, len, a, b)) (ha : 1000 ≤ a) (h8 : st.length ≤ 8) (hp : gPass m = true) (hq : Q (.inr (a - 1000)) (A.1, A.2.1 + 1, A.2.2 + 6)) : Wv sc d m pc ls st A Q := fun h hR =>
  wq_throw hf ha h8 hp ⟨(A.1, A.2.1 + 1, A.2.2 + 6), ⟨hR.1, hR.2.1, hR.2.2.1, congrArg (· + 1) hR.2.2.2.1, congrArg (· + 6) hR.2.2.2.2⟩, hq⟩
/-- Object's constructor, and the other things that need no code of ours -/
theorem wv_objI (hf : gFetch m pc = some (.invokespecial i, len, 900, b)) (h8 : st.length ≤ 8) (hn : Wv sc d m (pc + 3) ls st A Q) : Wv sc d m pc ls (.ref r :: st) A Q := fun h hR =>
  wq_primI hf (by decide) (st' := st) (h' := h) (by simp only [gPrim, if_pos h8]) (hn h hR)
theorem wv_bits {X : UInt32} (hf : gFetch m pc = some (.invokestatic i, len, 904, b)) (h8 : st.length ≤ 8) (hn : Wv sc d m (pc + 3) ls (.int X.toInt32 :: st) A Q) : Wv sc d m pc ls (.float X :: st) A Q := fun h hR =>
  wq_primS hf (by decide) (st' := .int X.toInt32 :: st) (h' := h) (by simp only [gPrim, if_pos h8]) (hn h hR)
/-- what follows a call -/
def vAft (sc : gSc) (d m pc : Nat) (ls : gL) (rest : List Value) (Q : gO → gA → Prop) (thr : Bool) (o : gO) (A' : gA) : Prop := match o with
  | .inl v => Wv sc d m (pc + 3) ls (v.toList ++ rest) A' Q
  | .inr E => thr = true ∧ ((∃ hp k g, gHand m pc E = some (hp, k, g) ∧ Wv sc d m g (ls.set k none) [] A' Q) ∨ (gHand m pc E = none ∧ gPass m = true ∧ Q (.inr E) A'))
theorem vAft_g {rest : List Value} {thr : Bool} {o : gO} {A' : gA} {h : gH} (hR : Rp h A') (hv : vAft sc d m pc ls rest Q thr o A') : gAft sc d m pc ls rest (fun o h' => ∃ A', Rp h' A' ∧ Q o A') thr o h := by
  cases o with
  | inl v => exact hv h hR
  | inr E =>
    refine ⟨hv.1, ?_⟩
    rcases hv.2 with ⟨hp, k, g, h1, h2⟩ | ⟨h1, h2, h3⟩
    · exact .inl ⟨hp, k, g, h1, h2 h hR⟩
    · exact .inr ⟨h1, h2, A', hR, h3⟩
def vCl (A : gA) (r ci : Nat) : Prop := ∃ c, A.1 r = some c ∧ vCls c = some ci
theorem vCl_recv {h : gH} {a : Nat} {l : List Value} (hR : Rp h A) (hc : vCl A r ci) (hn : (gCn ci == (gY a).cls) = true) (hl : l.head? = some (.ref r)) : gRecv h a l = true := by
  cases l with
  | nil => cases hl
  | cons x l =>
    cases hl
    obtain ⟨c, hc1, hc2⟩ := hc
    rcases c with ((⟨c9, fs⟩ | q9) | (_ | ⟨k, xs⟩))
    · cases hc2
      exact gRecv_of (hR.real hc1 rfl) hn
    · cases hc2
    · cases hc2
      exact gRecv_of (hR.real hc1 rfl) hn
    · cases hc2
      obtain ⟨-, -, -, md, e, hg, -⟩ := hR.lis hc1
      exact gRecv_of hg hn
end WW
