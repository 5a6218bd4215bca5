section LDWF
variable {p : Program} {l : Launch} {e : Env} {R : Room} {s : State} {m : MethodId} {args : Array Value} {below : List Frame} {meth : Method} {c : Code} {H : Heap} {locs : List Loc} {cells slots : Nat} {Q : State → Prop} {cc : ByteArray} {pc : Nat} {ls : Array Slot} {rest : List Value}
theorem gx_ldcwF {T : State} (X : Stand p l e R s m args below meth c T locs cells slots) (hexec : p.tables.exec = Jvm.exec) {own : String} {index : Nat} {v : UInt32} (hown : s.vm.findClass own = some m.cls)
    (hconst : (Cond.constantFloat own index v).before args s = true) {g : JFrame} (hg : g.method = m) (hdg : decode c.code g.pc = .ok (.ldc_w index, 3)) :
    ∀ target, Steps p.tables e below (T.setTop { g with pc := g.pc + 3, stack := .float v :: g.stack }) target → Steps p.tables e below (T.setTop g) target := by
  obtain ⟨k, cf, hk, hcf, hcp⟩ := Cond.constantFloat_spec hown hconst
  obtain ⟨k', hk', he⟩ := X.warmed.alike.2.2 _ _ hk
  intro target hrest
  subst hg
  jvm_step X.here [hexec, hdg, ldc_w.wp_float (s := T) (f := g) X.here.top hk' (by rw [he]; exact hcf) hcp]
  exact hrest
theorem gx_ldcwf (hexec : p.tables.exec = Jvm.exec) (hb : c.code = cc) {own : String} {index : Nat} {v : UInt32} (hown : s.vm.findClass own = some m.cls) (hconst : (Jvm.Cond.constantFloat own index v).before args s = true) (hdg : decode cc pc = .ok (.ldc_w index, 3)) (k : W p l e R s m args below meth c H locs cells slots Q (F0 m (pc + 3) ls (.float v :: rest))) : W p l e R s m args below meth c H locs cells slots Q (F0 m pc ls rest) := by
  intro T hT X
  obtain ⟨t, a, b⟩ := k T hT X
  exact ⟨t, gx_ldcwF X hexec hown hconst (g := F0 m pc ls rest) rfl (by rw [hb]; exact hdg) t a, b⟩
end LDWF
section SND3
variable {sL : State} {D : va_G} {ex : Nat → Nat} {sc : gSc} {aL : Array Value} {m : Nat} {p : Program} {l : Launch} {e : Env} {R : Room} {s : State} {mth : MethodId} {args : Array Value} {below : List Frame} {meth : Method} {c : Code} {Q : State → Prop}
variable {len a b pc z : Nat} {ls : gL} {st : List Value} {h h0 : gH} {r : gQ} {ads : List Nat} {H : Heap} {locs : List Loc} {cells slots : Nat} {mls : Array Slot} {mst : List Value} {hp : List Nat}

theorem gEx2 (HL : gLf sL D ex sc aL) : ex 2 < sL.heap.size := by
  obtain ⟨-, -, -, -, -, ⟨cell, h1, -⟩, -⟩ := HL
  exact (Array.getElem?_eq_some_iff.mp h1).1
theorem gSame_ok {B : Nat} {x y wx wy : Value} {t : Bool} (hH : gHp B D ex ads h s H) (h2 : ex 2 < B) (hs : gSame x y = some t) (hx : gR ads ex x wx) (hy : gR ads ex y wy) : ∃ rx ry, wx = va_rf rx ∧ wy = va_rf ry ∧ (t = true ↔ rx = ry) := by
  obtain ⟨ws, tys, hads, hP, hD, hK, hlen, hcor⟩ := hH
  have hat : ∀ k q : Nat, ads[k]? = some q → ∃ v, ws[k]? = some (q, v) := by
    intro k q hk
    rw [← hads, List.getElem?_map] at hk
    cases hw : ws[k]? with
    | none => rw [hw] at hk; cases hk
    | some v =>
      rw [hw] at hk
      cases hk
      exact ⟨v.2, rfl⟩
  unfold gSame at hs
  split at hs
  · rename_i k j
    obtain ⟨q1, ha, rfl⟩ := hx
    obtain ⟨q2, hb, rfl⟩ := hy
    cases hs
    refine ⟨some q1, some q2, rfl, rfl, fun h => ?_, fun h => ?_⟩
    · rw [beq_iff_eq] at h
      subst h
      rw [ha] at hb
      exact hb
    · cases h
      obtain ⟨v1, e1⟩ := hat _ _ ha
      obtain ⟨v2, e2⟩ := hat _ _ hb
      rw [beq_iff_eq]
      exact hD.1 _ _ _ _ e1 e2 rfl
  · cases hs
    cases (show wx = .null from hx)
    cases (show wy = .null from hy)
    exact ⟨none, none, rfl, rfl, fun _ => rfl, fun _ => rfl⟩
  · cases hs
    cases (show wx = .null from hx)
    obtain ⟨q2, hb, rfl⟩ := hy
    exact ⟨none, some q2, rfl, rfl, fun h => (by cases h), fun h => (by cases h)⟩
  · cases hs
    cases (show wy = .null from hy)
    obtain ⟨q1, ha, rfl⟩ := hx
    exact ⟨some q1, none, rfl, rfl, fun h => (by cases h), fun h => (by cases h)⟩
  · rename_i j1 j2
    split at hs
    · rename_i hj
      cases hs
      obtain ⟨-, rfl⟩ := hx
      obtain ⟨-, rfl⟩ := hy
      exact ⟨some (ex j1), some (ex j2), rfl, rfl, fun _ => by rw [hj], fun _ => rfl⟩
    · cases hs
  · cases hs
    obtain ⟨-, rfl⟩ := hx
    obtain ⟨q2, hb, rfl⟩ := hy
    obtain ⟨v2, e2⟩ := hat _ _ hb
    have h9 : B ≤ q2 := hD.2 _ _ e2
    exact ⟨some (ex 2), some q2, rfl, rfl, fun h => (by cases h), fun h => (by cases h; omega)⟩
  · cases hs
    obtain ⟨-, rfl⟩ := hy
    obtain ⟨q2, hb, rfl⟩ := hx
    obtain ⟨v2, e2⟩ := hat _ _ hb
    have h9 : B ≤ q2 := hD.2 _ _ e2
    exact ⟨some q2, some (ex 2), rfl, rfl, fun h => (by cases h), fun h => (by cases h; omega)⟩
  · cases hs
theorem gRo_rf {x y : Option Nat} (h : gRo ads x y) : gR ads ex (va_rf x) (va_rf y) := by
  cases x with
  | none => cases (show y = none from h); exact rfl
  | some k =>
    obtain ⟨q, h1, rfl⟩ := h
    exact ⟨q, h1, rfl⟩
theorem gRo_upd {f g : Nat → Option Nat} {x y : Option Nat} (h : ∀ i, gRo ads (f i) (g i)) (hxy : gRo ads x y) (k i : Nat) : gRo ads (va_up f k x i) (va_up g k y i) := by
  unfold va_up
  split
  · exact hxy
  · exact h i
def gPlus : Cond → Bool
  | .stringRef o k t => !(t == "+><") || (o == "StratumLedgeLaw" && k == 199)
  | _ => true
theorem gPlus_all : lw_tbl.all gPlus = true := by decide +kernel
theorem gPlus_at {own : String} {k : Nat} (h : Cond.stringRef own k "+><" ∈ lw_tbl) : own = "StratumLedgeLaw" ∧ k = 199 := by
  have h1 := List.all_eq_true.mp gPlus_all _ h
  simp only [gPlus, Bool.or_eq_true, Bool.and_eq_true, Bool.not_eq_true', beq_iff_eq] at h1
  rcases h1 with h1 | h1
  · simp at h1
  · exact h1

theorem gs_if_acmp {y : _} {z : Int} (HL : gLf sL D ex sc aL) (F : gFr sL m p s mth meth c) (hd : decode (gB m) pc = .ok (.if_acmp y z, len)) (hn : gLen (.if_acmp y z) len = true) (hres : gRes m pc (.if_acmp y z, len, a, b) hp = true) (hs : gStep sc (.if_acmp y z, len, a, b) pc ls st h = some r)
    (P : gPt sL.heap.size D ex h0 s (gMx m) ls st h ads H locs cells slots mls mst) (kk : gKk sL D ex m p l e R s mth args below meth c Q h0 ads r) : W p l e R s mth args below meth c H locs cells slots Q (F0 mth pc mls mst) := by
  obtain ⟨hx, hb, hml, hown, hret, hlk, hnm, hO⟩ := F
  obtain ⟨hH, hS, hLo, hst, hc, hsl⟩ := P
  have hn1 : len = 3 := by simpa [gLen] using hn
  subst hn1
  simp only [gStep] at hs
  have ht : (pc : Int) + z = (a : Int) := by simpa [gRes] using hres
  split at hs
  · rename_i y9 x9 st1
    split at hs
    · rename_i t9 hq
      obtain ⟨wy, m0, rfl, hwy, h0'⟩ := hst
      obtain ⟨wx, m1, rfl, hwx, h1⟩ := h0'
      obtain ⟨rx, ry, rfl, rfl, ht9⟩ := gSame_ok hH (gEx2 HL) hq hwx hwy
      cases y
      · refine lv_acmp_eq hx hb hd ht (fun hc9 => ?_) (fun hc9 => ?_)
        · rw [if_pos (by exact ht9.mpr hc9)] at hs
          cases hs
          exact kk ads H locs cells slots mls _ ⟨[], (List.append_nil _).symm⟩ ⟨hH, hS, hLo, h1, hc, hsl⟩
        · rw [if_neg (by exact fun q9 => hc9 (ht9.mp q9))] at hs
          cases hs
          exact kk ads H locs cells slots mls _ ⟨[], (List.append_nil _).symm⟩ ⟨hH, hS, hLo, h1, hc, hsl⟩
      · have hf9 : ¬ rx = ry → (!t9) = true := fun q9 => by
          cases t9 with
          | true => exact absurd (ht9.mp rfl) q9
          | false => rfl
        have hg9 : rx = ry → ¬ (!t9) = true := fun q9 => by rw [ht9.mpr q9]; decide
        refine lv_acmp_ne hx hb hd ht (fun hc9 => ?_) (fun hc9 => ?_)
        · rw [if_pos (by exact hf9 hc9)] at hs
          cases hs
          exact kk ads H locs cells slots mls _ ⟨[], (List.append_nil _).symm⟩ ⟨hH, hS, hLo, h1, hc, hsl⟩
        · rw [if_neg (by exact hg9 hc9)] at hs
          cases hs
          exact kk ads H locs cells slots mls _ ⟨[], (List.append_nil _).symm⟩ ⟨hH, hS, hLo, h1, hc, hsl⟩
    · cases hs
  · cases hs
theorem gs_ldc (HL : gLf sL D ex sc aL) (F : gFr sL m p s mth meth c) (hd : decode (gB m) pc = .ok (.ldc z, len)) (hn : gLen (.ldc z) len = true) (hres : gRes m pc (.ldc z, len, a, b) hp = true) (hs : gStep sc (.ldc z, len, a, b) pc ls st h = some r)
    (P : gPt sL.heap.size D ex h0 s (gMx m) ls st h ads H locs cells slots mls mst) (kk : gKk sL D ex m p l e R s mth args below meth c Q h0 ads r) : W p l e R s mth args below meth c H locs cells slots Q (F0 mth pc mls mst) := by
  obtain ⟨hx, hb, hml, hown, hret, hlk, hnm, hO⟩ := F
  obtain ⟨hH, hS, hLo, hst, hc, hsl⟩ := P
  have hn1 : len = 2 := by simpa [gLen] using hn
  subst hn1
  simp only [gStep] at hs
  split at hs
  · cases hs
    have w1 : gW hp 0 (.constant (gY m).cls z (Int32.ofNat b)) = true := by simpa [gRes] using hres
    refine lv_ldc hx hb hown (gw_at hO.1 HL.1 (gW_in w1) rfl _) hd ?_
    exact kk ads H locs cells slots mls _ ⟨[], (List.append_nil _).symm⟩ ⟨hH, hS, hLo, ⟨_, mst, rfl, rfl, hst⟩, hc, hsl⟩
  · cases hs
    have w1 : gW hp 0 (.constantFloat (gY m).cls z (UInt32.ofNat b)) = true := by simpa [gRes] using hres
    refine lv_ldcf hx hb hown (gw_at hO.1 HL.1 (gW_in w1) rfl _) hd ?_
    exact kk ads H locs cells slots mls _ ⟨[], (List.append_nil _).symm⟩ ⟨hH, hS, hLo, ⟨_, mst, rfl, rfl, hst⟩, hc, hsl⟩
  · cases hs
    by_cases hb1 : b = 1
    · subst hb1
      have w1 : gW hp 0 (.stringRef (gY m).cls z "+><") = true := by simpa [gRes] using hres
      obtain ⟨e1, rfl⟩ := gPlus_at (gW_in w1)
      refine va_ldcS hx hb hown (q := ex 1) (tx := "+><") (by rw [e1]; exact vk_R.warm hO.1 HL.2.2.2.1) hd ?_
      exact kk ads H locs cells slots mls _ ⟨[], (List.append_nil _).symm⟩ ⟨hH, hS, hLo, ⟨_, mst, rfl, ⟨by omega, rfl⟩, hst⟩, hc, hsl⟩
    · have w0 : b = 3 ∧ gW hp 0 (.classLink (gY m).cls z "[Ljava/lang/Object;") = true := by
        have h9 := hres
        simp only [gRes, if_neg hb1, Bool.and_eq_true, decide_eq_true_eq] at h9
        exact h9
      obtain ⟨rfl, w1⟩ := w0
      refine va_ldcM hx hb hown (gw_at hO.1 HL.1 (gW_in w1) rfl _) (va_Mi.moved hO.1.alike HL.2.2.2.2.2.2) hd ?_
      exact kk ads H locs cells slots mls _ ⟨[], (List.append_nil _).symm⟩ ⟨hH, hS, hLo, ⟨_, mst, rfl, ⟨by omega, rfl⟩, hst⟩, hc, hsl⟩
  · cases hs
theorem gs_ldc_w (HL : gLf sL D ex sc aL) (F : gFr sL m p s mth meth c) (hd : decode (gB m) pc = .ok (.ldc_w z, len)) (hn : gLen (.ldc_w z) len = true) (hres : gRes m pc (.ldc_w z, len, a, b) hp = true) (hs : gStep sc (.ldc_w z, len, a, b) pc ls st h = some r)
    (P : gPt sL.heap.size D ex h0 s (gMx m) ls st h ads H locs cells slots mls mst) (kk : gKk sL D ex m p l e R s mth args below meth c Q h0 ads r) : W p l e R s mth args below meth c H locs cells slots Q (F0 mth pc mls mst) := by
  obtain ⟨hx, hb, hml, hown, hret, hlk, hnm, hO⟩ := F
  obtain ⟨hH, hS, hLo, hst, hc, hsl⟩ := P
  have hn1 : len = 3 := by simpa [gLen] using hn
  subst hn1
  simp only [gStep] at hs
  split at hs
  · cases hs
    have w1 : gW hp 0 (.constant (gY m).cls z (Int32.ofNat b)) = true := by simpa [gRes] using hres
    refine lv_ldcw hx hb hown (gw_at hO.1 HL.1 (gW_in w1) rfl _) hd ?_
    exact kk ads H locs cells slots mls _ ⟨[], (List.append_nil _).symm⟩ ⟨hH, hS, hLo, ⟨_, mst, rfl, rfl, hst⟩, hc, hsl⟩
  · cases hs
    have w1 : gW hp 0 (.constantFloat (gY m).cls z (UInt32.ofNat b)) = true := by simpa [gRes] using hres
    refine gx_ldcwf hx hb hown (gw_at hO.1 HL.1 (gW_in w1) rfl _) hd ?_
    exact kk ads H locs cells slots mls _ ⟨[], (List.append_nil _).symm⟩ ⟨hH, hS, hLo, ⟨_, mst, rfl, rfl, hst⟩, hc, hsl⟩
  · cases hs
theorem gRoom1 {h0 h : gH} {n cells slots : Nat} {x : gC} {R : Room} (hc : h.1 = h0.1 + cells) (hsl : h.2.1 = h0.2.1 + slots) (hroom : (gNew h n x).1 ≤ h0.1 + R.cells ∧ (gNew h n x).2.1 ≤ h0.2.1 + R.slots) : cells + 1 ≤ R.cells ∧ slots + n ≤ R.slots ∧ (gNew h n x).1 = h0.1 + (cells + 1) ∧ (gNew h n x).2.1 = h0.2.1 + (slots + n) := by
  simp only [gNew] at hroom ⊢
  omega
theorem gAds_new {ws : va_W} {ads : List Nat} {h : gH} {q : Nat} (hads : ws.map Prod.fst = ads) (hlen : ws.length = h.2.2.length) : (ads ++ [q])[h.2.2.length]? = some q := by
  rw [← hads, ← hlen, List.getElem?_append_right (by simp)]
  simp

theorem gs_newarray {zt : ArrayType} (HL : gLf sL D ex sc aL) (F : gFr sL m p s mth meth c) (hd : decode (gB m) pc = .ok (.newarray zt, len)) (hn : gLen (.newarray zt) len = true) (hres : gRes m pc (.newarray zt, len, a, b) hp = true) (hs : gStep sc (.newarray zt, len, a, b) pc ls st h = some r)
    (P : gPt sL.heap.size D ex h0 s (gMx m) ls st h ads H locs cells slots mls mst) (hroom : r.2.2.2.1 ≤ h0.1 + R.cells ∧ r.2.2.2.2.1 ≤ h0.2.1 + R.slots) (kk : gKk sL D ex m p l e R s mth args below meth c Q h0 ads r) : W p l e R s mth args below meth c H locs cells slots Q (F0 mth pc mls mst) := by
  obtain ⟨hx, hb, hml, hown, hret, hlk, hnm, hO⟩ := F
  obtain ⟨hH, hS, hLo, hst, hc, hsl⟩ := P
  have hn1 : len = 2 := by simpa [gLen] using hn
  subst hn1
  simp only [gStep] at hs
  split at hs
  · rename_i n9 st1
    split at hs
    · cases hs
    · rename_i hcon
      cases hs
      obtain ⟨m1, rfl, h1⟩ := gRs_i hst
      obtain ⟨ws, tys, hads, hP, hD, hK, hlen, hcor⟩ := id hH
      have hn0 : ¬ n9 < 0 := fun q => hcon (Or.inl q)
      have hn2 : n9.toNatClampNeg ≤ 100000 := Nat.not_lt.mp fun q => hcon (Or.inr q)
      simp only [gRes, Bool.and_eq_true, Bool.or_eq_true, decide_eq_true_eq] at hres
      obtain ⟨w1, w2⟩ := hres
      obtain ⟨r1, r2, r3, r4⟩ := gRoom1 hc hsl hroom
      refine va_newa (D := D) (atype := zt) (N' := n9.toNatClampNeg) (a0 := (n9.toNatClampNeg, .inl (fun _ => 0))) hx hb (gw_at hO.1 HL.1 (gW_in w1) rfl _) rfl hK hP hD hS (fun q hq => Nat.le_trans hO.2.1 hq) ?_ hn0 rfl ?_ r1 r2 hd (fun q cA H1 hK1 hP1 hD1 hS1 => ?_)
      · intro cA
        rcases w2 with (rfl | rfl) | rfl <;> rfl
      · rcases w2 with (rfl | rfl) | rfl
        · show _ * 4 ≤ _; omega
        · show _ * 1 ≤ _; omega
        · show _ * 2 ≤ _; omega
      · exact kk (ads ++ [q]) H1 locs (cells + 1) (slots + n9.toNatClampNeg) mls _ ⟨[q], rfl⟩ ⟨gHp_new (ty' := [(cA, newarray.typeOf zt)]) hads hlen hcor ⟨cA, tys.length, rfl, by simp⟩ hP1 hD1 hK1, hS1, gLo_up _ hLo, ⟨_, m1, rfl, ⟨q, gAds_new hads hlen, rfl⟩, gRs_up _ h1⟩, r3, r4⟩
  · cases hs
/-- the class of arrays of arrays of a type is there (after the library's words of 'arrayOver') -/
def gAA (t : FieldType) (U : State) : Prop := ∃ (comp cA : ClassId) (k : Class), U.vm.findClass (FieldType.array t).toString = some comp ∧ (U.vm.classes.findIdx? fun (x : Class) => match x.kind with | .array component _ => component == comp | _ => false) = some cA ∧ U.vm.classes[cA]? = some k ∧ k.kind = .array comp (.array t) ∧ U.vm.findClass ("[" ++ (FieldType.array t).toString) = some cA
theorem gAA.of {t : FieldType} {A : Array Value} {U : State} (h : (Cond.arrayOver (.array t)).before A U = true) : gAA t U := by
  unfold Cond.before at h
  simp only [Cond.holds, Cond.value, beq_iff_eq] at h
  cases hc : U.vm.findClass (FieldType.array t).toString with
  | none => simp [hc] at h
  | some comp =>
    simp only [hc, Option.bind_some, Option.bind_eq_some_iff, Option.map_eq_some_iff] at h
    obtain ⟨cA, hi, k, hk, hb⟩ := h
    obtain ⟨hlt, hp, -⟩ := Array.findIdx?_eq_some_iff_getElem.mp hi
    have hkk : U.vm.classes[cA] = k := (Array.getElem?_eq_some_iff.mp hk).2
    rw [hkk] at hp
    cases hkind : k.kind with
    | array component ty =>
      rw [hkind] at hb hp
      simp at hb hp
      exact ⟨comp, cA, k, hc, hi, hk, by rw [hkind, hp, hb.1], hb.2⟩
    | _ => rw [hkind] at hb; simp at hb
theorem gAA.moved {t : FieldType} {u U : State} (hvm : u.vm.Alike U.vm) (h : gAA t u) : gAA t U := by
  obtain ⟨comp, cA, k, h1, h2, h3, h4, h5⟩ := h
  obtain ⟨k', hk', he⟩ := hvm.2.2 _ _ h3
  refine ⟨comp, cA, k', by rw [hvm.findClass]; exact h1, ?_, hk', by rw [he]; exact h4, by rw [hvm.findClass]; exact h5⟩
  refine (va_idx_bare U.vm comp).symm.trans ?_
  first | rw [hvm.bare_eq] | rw [← hvm.bare_eq]
  exact (va_idx_bare u.vm comp).trans h2
theorem gAA_new {cc : ByteArray} {rest : List Value} {lsM : Array Slot} (hexec : p.tables.exec = Jvm.exec) (hb : c.code = cc) {own : String} {t : FieldType} {index : Nat} (hown : s.vm.findClass own = some mth.cls) (hclink : (Cond.classLink own index (FieldType.array t).toString).before args s = true) (hover : gAA t s)
    (hdg : decode cc pc = .ok (.anewarray index, 3)) {n : Int32} (hn : ¬ n < 0) (hbytes : n.toNatClampNeg * 4 ≤ 536870912) (hcells : cells + 1 ≤ R.cells) (hslots : slots + n.toNatClampNeg ≤ R.slots)
    (kk : ∀ (cA : ClassId) (kA : Class) (comp : ClassId), s.vm.findClass ("[" ++ (FieldType.array t).toString) = some cA → s.vm.classes[cA]? = some kA → kA.kind = .array comp (.array t) → s.vm.findClass (FieldType.array t).toString = some comp →
      W p l e R s mth args below meth c (H.push { cls := cA, slots := Array.replicate n.toNatClampNeg .null, vm := .none }) locs (cells + 1) (slots + n.toNatClampNeg) Q (F0 mth (pc + 3) lsM (.ref H.size :: rest))) : W p l e R s mth args below meth c H locs cells slots Q (F0 mth pc lsM (.int n :: rest)) := by
  intro T hT X
  subst hT; subst hb
  have hpl : e.platform.magicAccessors = ({} : Platform).magicAccessors := by rw [X.admits.platform]
  obtain ⟨comp, cA, kA, hcomp, hidx, hkA, hkindA, hnameA⟩ := hover
  obtain ⟨kComp, hkComp, -⟩ := Vm.findClass_spec hcomp
  obtain ⟨cc, hfcc, hcl⟩ := Cond.classLink_spec hown hclink e.platform hpl
  cases hcomp.symm.trans hfcc
  obtain ⟨hg₁, hwarm₁, hready₁⟩ := State.classEntry (e := e) X.warmed hcl
  generalize T.vm.noted mth.cls index (.cls comp) = vm₁ at hg₁ hwarm₁ hready₁
  have hal : s.vm.Alike vm₁ := hwarm₁.alike
  obtain ⟨kComp₁, hkComp₁, -⟩ := hal.2.2 _ _ hkComp
  obtain ⟨kA₁, hkA₁, heA⟩ := hal.2.2 _ _ hkA
  have hkindA₁ : kA₁.kind = .array comp (.array t) := by rw [heA]; exact hkindA
  have hidx₁ : (vm₁.classes.findIdx? fun (x : Class) => match x.kind with | .array component _ => component == comp | _ => false) = some cA := by
    refine (va_idx_bare vm₁ comp).symm.trans ?_
    first | rw [hal.bare_eq] | rw [← hal.bare_eq]
    exact (va_idx_bare s.vm comp).trans hidx
  have hlimit : ¬ n.toNatClampNeg > e.platform.arrayLengthLimit := by rw [Launch.admits_arrayLengthLimit X.admits]; omega
  have hheap : ¬ n.toNatClampNeg * componentBytes (.array t) > e.platform.maxHeapBytes := by
    rw [Launch.admits_maxHeapBytes X.admits]; show ¬ n.toNatClampNeg * 4 > 536870912; omega
  have X₁ := X.noted hwarm₁
  have X₂ := X₁.pushed { cls := cA, slots := Array.replicate n.toNatClampNeg .null, vm := .none }
  obtain ⟨hr1, hr2⟩ := X.roomAbove hcells hslots
  obtain ⟨t9, a9, b9⟩ := kk cA kA comp hnameA hkA hkindA hcomp ((T.setVm vm₁).pushCell { cls := cA, slots := Array.replicate n.toNatClampNeg .null, vm := .none }) rfl (by simpa using X₂)
  refine ⟨t9, ?_, b9⟩
  jvm_step X.here [hexec, hdg, anewarray.wp_cold (e := e) (s := T) (f := F0 mth pc lsM (.int n :: rest)) X.here.top hg₁ hready₁,
    anewarray.wp_ready (e := e) (s := T.setVm vm₁) (f := F0 mth pc lsM (.int n :: rest)) (kc := kComp₁) (k := kA₁) (type := .array t) X.here.top hready₁ hkComp₁ hidx₁ hkA₁ hkindA₁ rfl rfl hn hlimit hheap]
  exact ⟨by show T.heap.size < _; omega, by show T.slotsUsed + _ ≤ _; exact hr2, a9⟩
theorem gAA_newq {cc : ByteArray} {rest : List Value} {lsM : Array Slot} {ws : va_W} {tys : List (ClassId × FieldType)} {A : Nat → Prop} {H0 : Heap} (hexec : p.tables.exec = Jvm.exec) (hb : c.code = cc) {own : String} {t : FieldType} {index : Nat} (hown : s.vm.findClass own = some mth.cls) (hclink : (Cond.classLink own index (FieldType.array t).toString).before args s = true) (hover : gAA t s)
    (hK : va_K D gCl tys s) (hP : va_P D gCl ws H) (hD : va_D A ws) (hS : va_S A H0 H locs) (hA : ∀ q, H0.size ≤ q → A q)
    (hdg : decode cc pc = .ok (.anewarray index, 3)) {n : Int32} (hn : ¬ n < 0) (hbytes : n.toNatClampNeg * 4 ≤ 536870912) (hcells : cells + 1 ≤ R.cells) (hslots : slots + n.toNatClampNeg ≤ R.slots)
    (kk : ∀ (q : Nat) (cA : ClassId) (H1 : Heap), va_K D gCl (tys ++ [(cA, .array t)]) s → va_P D gCl (ws ++ [(q, .inl (cA, n.toNatClampNeg, .inr (.inr (.inr (.inr (fun _ => none))))))]) H1 → va_D A (ws ++ [(q, .inl (cA, n.toNatClampNeg, .inr (.inr (.inr (.inr (fun _ => none))))))]) → va_S A H0 H1 locs →
      W p l e R s mth args below meth c H1 locs (cells + 1) (slots + n.toNatClampNeg) Q (F0 mth (pc + 3) lsM (.ref q :: rest))) : W p l e R s mth args below meth c H locs cells slots Q (F0 mth pc lsM (.int n :: rest)) := by
  refine gAA_new hexec hb hown hclink hover hdg hn hbytes hcells hslots fun cA kA comp f1 f2 f3 f4 => ?_
  generalize hH1 : H.push ({ cls := cA, slots := Array.replicate n.toNatClampNeg .null, vm := .none } : Cell) = H1
  have z1 : H1.size = H.size + 1 := by rw [← hH1, Array.size_push]
  have e1 : H1[H.size]? = some (arrV cA n.toNatClampNeg (fun _ => .null)) := by rw [← hH1, Array.getElem?_push_size, ← arrV_new]
  have o1 : ∀ q : Nat, q < H.size → H1[q]? = H[q]? := fun q hq => by rw [← hH1, Array.getElem?_push, if_neg (Nat.ne_of_lt hq)]
  have hAr : ArrOfT s cA (.array t) := fun N z => ⟨(fun k h => by cases h), kA, f2, comp, f3⟩
  have hk : ∀ (k : Nat) (x : Nat × va_E), ws[k]? = some x → H1[x.1]? = H[x.1]? := fun k x hx => o1 x.1 ((hP k x hx).lt)
  refine kk H.size cA H1 ⟨hK.1, fun k x hx => ?_⟩ ((hP.kept hk).app (fun k x hx => ?_)) (hD.push hP rfl (hA _ hS.1)) ⟨Nat.le_trans hS.1 (by omega), fun x h1 h2 => (o1 x (Nat.lt_of_lt_of_le h1 hS.1)).trans (hS.2.1 x h1 h2), hS.2.2⟩
  · by_cases hl : k < tys.length
    · rw [List.getElem?_append_left hl] at hx
      exact hK.2 k x hx
    · rw [List.getElem?_append_right (by omega)] at hx
      have hz : k - tys.length < 1 := (List.getElem?_eq_some_iff.mp hx).1
      rw [show k - tys.length = 0 by omega] at hx
      cases hx
      exact ⟨hAr, f1⟩
  · have hz : k < 1 := (List.getElem?_eq_some_iff.mp hx).1
    rw [show k = 0 by omega] at hx
    cases hx
    show H1[H.size]? = some (vp_cell _ _)
    rw [vp_cell_q]
    exact e1

theorem gs_anewarray (HL : gLf sL D ex sc aL) (F : gFr sL m p s mth meth c) (hd : decode (gB m) pc = .ok (.anewarray z, len)) (hn : gLen (.anewarray z) len = true) (hres : gRes m pc (.anewarray z, len, a, b) hp = true) (hs : gStep sc (.anewarray z, len, a, b) pc ls st h = some r)
    (P : gPt sL.heap.size D ex h0 s (gMx m) ls st h ads H locs cells slots mls mst) (hroom : r.2.2.2.1 ≤ h0.1 + R.cells ∧ r.2.2.2.2.1 ≤ h0.2.1 + R.slots) (kk : gKk sL D ex m p l e R s mth args below meth c Q h0 ads r) : W p l e R s mth args below meth c H locs cells slots Q (F0 mth pc mls mst) := by
  obtain ⟨hx, hb, hml, hown, hret, hlk, hnm, hO⟩ := F
  obtain ⟨hH, hS, hLo, hst, hc, hsl⟩ := P
  have hn1 : len = 3 := by simpa [gLen] using hn
  subst hn1
  simp only [gStep] at hs
  split at hs
  · rename_i n9 st1
    split at hs
    · cases hs
    · rename_i hcon
      cases hs
      obtain ⟨m1, rfl, h1⟩ := gRs_i hst
      obtain ⟨ws, tys, hads, hP, hD, hK, hlen, hcor⟩ := id hH
      have hn0 : ¬ n9 < 0 := fun q => hcon (Or.inl q)
      have hn2 : n9.toNatClampNeg ≤ 100000 := Nat.not_lt.mp fun q => hcon (Or.inr (Or.inl q))
      have hn3 : ¬ 2 < a := fun q => hcon (Or.inr (Or.inr q))
      obtain ⟨r1, r2, r3, r4⟩ := gRoom1 hc hsl hroom
      rcases a with _ | _ | _ | a
      · have w0 : gW hp 0 (.arrayOver (.object "java/lang/Object")) = true ∧ gW hp 1 (.classLink (gY m).cls z "java/lang/Object") = true := by simpa [gRes, gComp] using hres
        refine va_newq (D := D) (C := "java/lang/Object") hx hb hown (gw_at hO.1 HL.1 (gW_in w0.2) rfl _) (va_AO.moved hO.1.alike (va_AO.of (HL.1 _ (gW_in w0.1)))) hK hP hD hS (fun q hq => Nat.le_trans hO.2.1 hq) hn0 rfl (by omega) r1 r2 hd (fun q cA H1 hK1 hP1 hD1 hS1 => ?_)
        exact kk (ads ++ [q]) H1 locs (cells + 1) (slots + n9.toNatClampNeg) mls _ ⟨[q], rfl⟩ ⟨gHp_new (ty' := [(cA, _)]) hads hlen hcor ⟨cA, tys.length, _, rfl, by simp [gComp], fun _ => rfl⟩ hP1 hD1 hK1, hS1, gLo_up _ hLo, ⟨_, m1, rfl, ⟨q, gAds_new hads hlen, rfl⟩, gRs_up _ h1⟩, r3, r4⟩
      · have w0 : gW hp 0 (.arrayOver (.object RX5)) = true ∧ gW hp 1 (.classLink (gY m).cls z RX5) = true := by simpa [gRes, gComp] using hres
        refine va_newq (D := D) (C := RX5) hx hb hown (gw_at hO.1 HL.1 (gW_in w0.2) rfl _) (va_AO.moved hO.1.alike (va_AO.of (HL.1 _ (gW_in w0.1)))) hK hP hD hS (fun q hq => Nat.le_trans hO.2.1 hq) hn0 rfl (by omega) r1 r2 hd (fun q cA H1 hK1 hP1 hD1 hS1 => ?_)
        exact kk (ads ++ [q]) H1 locs (cells + 1) (slots + n9.toNatClampNeg) mls _ ⟨[q], rfl⟩ ⟨gHp_new (ty' := [(cA, _)]) hads hlen hcor ⟨cA, tys.length, _, rfl, by simp [gComp], fun _ => rfl⟩ hP1 hD1 hK1, hS1, gLo_up _ hLo, ⟨_, m1, rfl, ⟨q, gAds_new hads hlen, rfl⟩, gRs_up _ h1⟩, r3, r4⟩
      · have w0 : gW hp 0 (.arrayOver (.array .int)) = true ∧ gW hp 1 (.classLink (gY m).cls z (FieldType.array .int).toString) = true := by simpa [gRes, gComp] using hres
        refine gAA_newq (D := D) (t := .int) hx hb hown (gw_at hO.1 HL.1 (gW_in w0.2) rfl _) (gAA.moved hO.1.alike (gAA.of (HL.1 _ (gW_in w0.1)))) hK hP hD hS (fun q hq => Nat.le_trans hO.2.1 hq) hd hn0 (by omega) r1 r2 (fun q cA H1 hK1 hP1 hD1 hS1 => ?_)
        exact kk (ads ++ [q]) H1 locs (cells + 1) (slots + n9.toNatClampNeg) mls _ ⟨[q], rfl⟩ ⟨gHp_new (ty' := [(cA, _)]) hads hlen hcor ⟨cA, tys.length, _, rfl, by simp [gComp], fun _ => rfl⟩ hP1 hD1 hK1, hS1, gLo_up _ hLo, ⟨_, m1, rfl, ⟨q, gAds_new hads hlen, rfl⟩, gRs_up _ h1⟩, r3, r4⟩
      · omega
  · cases hs
theorem gs_checkcast (HL : gLf sL D ex sc aL) (F : gFr sL m p s mth meth c) (hd : decode (gB m) pc = .ok (.checkcast z, len)) (hn : gLen (.checkcast z) len = true) (hres : gRes m pc (.checkcast z, len, a, b) hp = true) (hs : gStep sc (.checkcast z, len, a, b) pc ls st h = some r)
    (P : gPt sL.heap.size D ex h0 s (gMx m) ls st h ads H locs cells slots mls mst) (kk : gKk sL D ex m p l e R s mth args below meth c Q h0 ads r) : W p l e R s mth args below meth c H locs cells slots Q (F0 mth pc mls mst) := by
  obtain ⟨hx, hb, hml, hown, hret, hlk, hnm, hO⟩ := F
  obtain ⟨hH, hS, hLo, hst, hc, hsl⟩ := P
  have hn1 : len = 3 := by simpa [gLen] using hn
  subst hn1
  simp only [gStep] at hs
  split at hs
  · cases hs
    obtain ⟨m1, rfl, h1⟩ := gRs_n hst
    refine lv_castN hx hb hd ?_
    exact kk ads H locs cells slots mls _ ⟨[], (List.append_nil _).symm⟩ ⟨hH, hS, hLo, ⟨_, m1, rfl, rfl, h1⟩, hc, hsl⟩
  · rename_i r9 st1
    obtain ⟨a9, m1, ha, rfl, h1⟩ := gRs_r hst
    obtain ⟨ws, tys, hads, hP, hD, hK, hlen, hcor⟩ := id hH
    split at hs
    · rename_i ci fs hq
      split at hs
      · rename_i hci
        cases hs
        obtain ⟨e9, he, fs', rfl, hfs⟩ := gCell (B := 0) (D := D) hads hcor ha hq
        obtain ⟨⟨C, T, N⟩, hcl, -⟩ := hP _ _ he
        have hl : ci < 12 := (List.getElem?_eq_some_iff.mp hcl).1
        subst hci
        have eC : gCn ci = C := by simp only [gCn, hcl]
        have w0 : gW hp 0 (.classLink (gY m).cls z C) = true := by
          have h9 := hres
          simp only [gRes, if_neg (show ¬ ci = 1000 by omega), Bool.or_eq_true, decide_eq_true_eq, eC] at h9
          exact h9.resolve_left (by omega)
        refine va_castS hx hb hown (gw_at hO.1 HL.1 (gW_in w0) rfl _) (hK.1 ci _ hcl).2 (va_recv hK hP hcl he) hd ?_
        exact kk ads H locs cells slots mls _ ⟨[], (List.append_nil _).symm⟩ ⟨hH, hS, hLo, ⟨_, m1, rfl, ⟨a9, ha, rfl⟩, h1⟩, hc, hsl⟩
      · cases hs
    · rename_i ty n f hq
      split at hs
      · rename_i hcon
        obtain ⟨h10, rfl⟩ := hcon
        cases hs
        subst h10
        obtain ⟨e9, he, cA, t, g, rfl, ht, hg⟩ := gCell (B := 0) (D := D) hads hcor ha hq
        have w0 : gW hp 0 (.classLink (gY m).cls z "[Ljava/lang/Object;") = true := by simpa [gRes] using hres
        refine va_castA hx hb hown (gw_at hO.1 HL.1 (gW_in w0) rfl _) hP r9 he (va_nmO (hK.2 t _ ht).2 rfl) hd ?_
        exact kk ads H locs cells slots mls _ ⟨[], (List.append_nil _).symm⟩ ⟨hH, hS, hLo, ⟨_, m1, rfl, ⟨a9, ha, rfl⟩, h1⟩, hc, hsl⟩
      · cases hs
    · cases hs
  · cases hs
theorem gs_arraylength (HL : gLf sL D ex sc aL) (F : gFr sL m p s mth meth c) (hd : decode (gB m) pc = .ok (.arraylength, len)) (hn : gLen (.arraylength) len = true) (hres : gRes m pc (.arraylength, len, a, b) hp = true) (hs : gStep sc (.arraylength, len, a, b) pc ls st h = some r)
    (P : gPt sL.heap.size D ex h0 s (gMx m) ls st h ads H locs cells slots mls mst) (kk : gKk sL D ex m p l e R s mth args below meth c Q h0 ads r) : W p l e R s mth args below meth c H locs cells slots Q (F0 mth pc mls mst) := by
  obtain ⟨hx, hb, hml, hown, hret, hlk, hnm, hO⟩ := F
  obtain ⟨hH, hS, hLo, hst, hc, hsl⟩ := P
  have hn1 : len = 1 := by simpa [gLen] using hn
  subst hn1
  simp only [gStep] at hs
  split at hs
  · rename_i r9 st1
    obtain ⟨a9, m1, ha, rfl, h1⟩ := gRs_r hst
    obtain ⟨ws, tys, hads, hP, hD, hK, hlen, hcor⟩ := id hH
    split at hs
    · rename_i ty n f hq
      cases hs
      obtain ⟨e9, he, cA, t, rfl, ht⟩ := gCell (B := 0) (D := D) hads hcor ha hq
      refine va_alen (D := D) hx hb hK hP r9 t he ht rfl hd ?_
      exact kk ads H locs cells slots mls _ ⟨[], (List.append_nil _).symm⟩ ⟨hH, hS, hLo, ⟨_, m1, rfl, rfl, h1⟩, hc, hsl⟩
    · rename_i ty n f hq
      cases hs
      obtain ⟨e9, he, cA, t, g, rfl, ht, hg⟩ := gCell (B := 0) (D := D) hads hcor ha hq
      refine va_alen (D := D) hx hb hK hP r9 t he ht rfl hd ?_
      exact kk ads H locs cells slots mls _ ⟨[], (List.append_nil _).symm⟩ ⟨hH, hS, hLo, ⟨_, m1, rfl, rfl, h1⟩, hc, hsl⟩
    · cases hs
  · cases hs
    obtain ⟨m1, -, rfl, h1⟩ := gRs_e hst
    have hX : va_X (ex 0) sc.1 sc.2 s s.heap := (va_X.moved hO.1.alike HL.2.1).kept (hO.2.2 _ HL.2.2.1)
    refine va_slen hx hb hX (Nat.lt_of_lt_of_le HL.2.2.1 hO.2.1) (Nat.not_le.mpr HL.2.2.1) hS hd ?_
    exact kk ads H locs cells slots mls _ ⟨[], (List.append_nil _).symm⟩ ⟨hH, hS, hLo, ⟨_, m1, rfl, rfl, h1⟩, hc, hsl⟩
  · cases hs
    obtain ⟨m1, -, rfl, h1⟩ := gRs_e hst
    have hT : va_T (.object "java/lang/Object") (ex 2) 0 (fun _ => .null) (fun q => sL.heap.size ≤ q) s s.heap := (va_T.moved hO.1.alike HL.2.2.2.2.2.1).kept (fun q hq _ => hO.2.2 q hq)
    refine va_tlen (v := 0) hx hb hT hS rfl hd ?_
    exact kk ads H locs cells slots mls _ ⟨[], (List.append_nil _).symm⟩ ⟨hH, hS, hLo, ⟨_, m1, rfl, rfl, h1⟩, hc, hsl⟩
  · cases hs
theorem gs_iaload (HL : gLf sL D ex sc aL) (F : gFr sL m p s mth meth c) (hd : decode (gB m) pc = .ok (.iaload, len)) (hn : gLen (.iaload) len = true) (hres : gRes m pc (.iaload, len, a, b) hp = true) (hs : gStep sc (.iaload, len, a, b) pc ls st h = some r)
    (P : gPt sL.heap.size D ex h0 s (gMx m) ls st h ads H locs cells slots mls mst) (kk : gKk sL D ex m p l e R s mth args below meth c Q h0 ads r) : W p l e R s mth args below meth c H locs cells slots Q (F0 mth pc mls mst) := by
  obtain ⟨hx, hb, hml, hown, hret, hlk, hnm, hO⟩ := F
  obtain ⟨hH, hS, hLo, hst, hc, hsl⟩ := P
  have hn1 : len = 1 := by simpa [gLen] using hn
  subst hn1
  simp only [gStep] at hs
  split at hs
  · rename_i i9 r9 st1
    obtain ⟨m0, rfl, h0'⟩ := gRs_i hst
    obtain ⟨a9, m1, ha, rfl, h1⟩ := gRs_r h0'
    obtain ⟨ws, tys, hads, hP, hD, hK, hlen, hcor⟩ := id hH
    split at hs
    · rename_i ty n f hq
      split at hs
      · rename_i hcon
        obtain ⟨rfl, hin⟩ := hcon
        cases hs
        obtain ⟨e9, he, cA, t, rfl, ht⟩ := gCell (B := 0) (D := D) hads hcor ha hq
        refine va_iald (D := D) hx hb hK hP r9 t he ht hin hd ?_
        exact kk ads H locs cells slots mls _ ⟨[], (List.append_nil _).symm⟩ ⟨hH, hS, hLo, ⟨_, m1, rfl, rfl, h1⟩, hc, hsl⟩
      · cases hs
    · cases hs
  · rename_i i9 st1
    split at hs
    · rename_i hin
      cases hs
      obtain ⟨m0, rfl, h0'⟩ := gRs_i hst
      obtain ⟨m1, -, rfl, h1⟩ := gRs_e h0'
      have hX : va_X (ex 0) sc.1 sc.2 s s.heap := (va_X.moved hO.1.alike HL.2.1).kept (hO.2.2 _ HL.2.2.1)
      refine va_sld hx hb hX (Nat.lt_of_lt_of_le HL.2.2.1 hO.2.1) (Nat.not_le.mpr HL.2.2.1) hS hin hd ?_
      exact kk ads H locs cells slots mls _ ⟨[], (List.append_nil _).symm⟩ ⟨hH, hS, hLo, ⟨_, m1, rfl, rfl, h1⟩, hc, hsl⟩
    · cases hs
  · cases hs
theorem gs_baload (HL : gLf sL D ex sc aL) (F : gFr sL m p s mth meth c) (hd : decode (gB m) pc = .ok (.baload, len)) (hn : gLen (.baload) len = true) (hres : gRes m pc (.baload, len, a, b) hp = true) (hs : gStep sc (.baload, len, a, b) pc ls st h = some r)
    (P : gPt sL.heap.size D ex h0 s (gMx m) ls st h ads H locs cells slots mls mst) (kk : gKk sL D ex m p l e R s mth args below meth c Q h0 ads r) : W p l e R s mth args below meth c H locs cells slots Q (F0 mth pc mls mst) := by
  obtain ⟨hx, hb, hml, hown, hret, hlk, hnm, hO⟩ := F
  obtain ⟨hH, hS, hLo, hst, hc, hsl⟩ := P
  have hn1 : len = 1 := by simpa [gLen] using hn
  subst hn1
  simp only [gStep] at hs
  split at hs
  · rename_i i9 r9 st1
    obtain ⟨m0, rfl, h0'⟩ := gRs_i hst
    obtain ⟨a9, m1, ha, rfl, h1⟩ := gRs_r h0'
    obtain ⟨ws, tys, hads, hP, hD, hK, hlen, hcor⟩ := id hH
    split at hs
    · rename_i ty n f hq
      split at hs
      · rename_i hcon
        obtain ⟨rfl, hin⟩ := hcon
        cases hs
        obtain ⟨e9, he, cA, t, rfl, ht⟩ := gCell (B := 0) (D := D) hads hcor ha hq
        refine va_zald (D := D) hx hb hK hP r9 t he ht hin hd ?_
        exact kk ads H locs cells slots mls _ ⟨[], (List.append_nil _).symm⟩ ⟨hH, hS, hLo, ⟨_, m1, rfl, rfl, h1⟩, hc, hsl⟩
      · cases hs
    · cases hs
  · cases hs
theorem gs_caload (HL : gLf sL D ex sc aL) (F : gFr sL m p s mth meth c) (hd : decode (gB m) pc = .ok (.caload, len)) (hn : gLen (.caload) len = true) (hres : gRes m pc (.caload, len, a, b) hp = true) (hs : gStep sc (.caload, len, a, b) pc ls st h = some r)
    (P : gPt sL.heap.size D ex h0 s (gMx m) ls st h ads H locs cells slots mls mst) (kk : gKk sL D ex m p l e R s mth args below meth c Q h0 ads r) : W p l e R s mth args below meth c H locs cells slots Q (F0 mth pc mls mst) := by
  obtain ⟨hx, hb, hml, hown, hret, hlk, hnm, hO⟩ := F
  obtain ⟨hH, hS, hLo, hst, hc, hsl⟩ := P
  have hn1 : len = 1 := by simpa [gLen] using hn
  subst hn1
  simp only [gStep] at hs
  split at hs
  · rename_i i9 r9 st1
    obtain ⟨m0, rfl, h0'⟩ := gRs_i hst
    obtain ⟨a9, m1, ha, rfl, h1⟩ := gRs_r h0'
    obtain ⟨ws, tys, hads, hP, hD, hK, hlen, hcor⟩ := id hH
    split at hs
    · rename_i ty n f hq
      split at hs
      · rename_i hcon
        obtain ⟨rfl, hin⟩ := hcon
        cases hs
        obtain ⟨e9, he, cA, t, rfl, ht⟩ := gCell (B := 0) (D := D) hads hcor ha hq
        refine va_cald (D := D) hx hb hK hP r9 t he ht hin hd ?_
        exact kk ads H locs cells slots mls _ ⟨[], (List.append_nil _).symm⟩ ⟨hH, hS, hLo, ⟨_, m1, rfl, rfl, h1⟩, hc, hsl⟩
      · cases hs
    · cases hs
  · cases hs
theorem gs_iastore (HL : gLf sL D ex sc aL) (F : gFr sL m p s mth meth c) (hd : decode (gB m) pc = .ok (.iastore, len)) (hn : gLen (.iastore) len = true) (hres : gRes m pc (.iastore, len, a, b) hp = true) (hs : gStep sc (.iastore, len, a, b) pc ls st h = some r)
    (P : gPt sL.heap.size D ex h0 s (gMx m) ls st h ads H locs cells slots mls mst) (kk : gKk sL D ex m p l e R s mth args below meth c Q h0 ads r) : W p l e R s mth args below meth c H locs cells slots Q (F0 mth pc mls mst) := by
  obtain ⟨hx, hb, hml, hown, hret, hlk, hnm, hO⟩ := F
  obtain ⟨hH, hS, hLo, hst, hc, hsl⟩ := P
  have hn1 : len = 1 := by simpa [gLen] using hn
  subst hn1
  simp only [gStep] at hs
  split at hs
  · rename_i x9 i9 r9 st1
    obtain ⟨mx, rfl, hx'⟩ := gRs_i hst
    obtain ⟨m0, rfl, h0'⟩ := gRs_i hx'
    obtain ⟨a9, m1, ha, rfl, h1⟩ := gRs_r h0'
    obtain ⟨ws, tys, hads, hP, hD, hK, hlen, hcor⟩ := id hH
    split at hs
    · rename_i ty n f hq
      split at hs
      · rename_i hcon
        obtain ⟨rfl, hin⟩ := hcon
        cases hs
        obtain ⟨e9, he, cA, t, rfl, ht⟩ := gCell (B := 0) (D := D) hads hcor ha hq
        refine va_iast (D := D) hx hb hK hP hD hS r9 t he ht hin hd (fun H1 locs1 hP1 hD1 hS1 => ?_)
        exact kk ads H1 locs1 cells slots mls _ ⟨[], (List.append_nil _).symm⟩ ⟨gHp_put hads hlen hcor he ⟨cA, t, rfl, ht⟩ hP1 hD1 hK, hS1, hLo, h1, hc, hsl⟩
      · cases hs
    · cases hs
  · cases hs
theorem gs_bastore (HL : gLf sL D ex sc aL) (F : gFr sL m p s mth meth c) (hd : decode (gB m) pc = .ok (.bastore, len)) (hn : gLen (.bastore) len = true) (hres : gRes m pc (.bastore, len, a, b) hp = true) (hs : gStep sc (.bastore, len, a, b) pc ls st h = some r)
    (P : gPt sL.heap.size D ex h0 s (gMx m) ls st h ads H locs cells slots mls mst) (kk : gKk sL D ex m p l e R s mth args below meth c Q h0 ads r) : W p l e R s mth args below meth c H locs cells slots Q (F0 mth pc mls mst) := by
  obtain ⟨hx, hb, hml, hown, hret, hlk, hnm, hO⟩ := F
  obtain ⟨hH, hS, hLo, hst, hc, hsl⟩ := P
  have hn1 : len = 1 := by simpa [gLen] using hn
  subst hn1
  simp only [gStep] at hs
  split at hs
  · rename_i x9 i9 r9 st1
    obtain ⟨mx, rfl, hx'⟩ := gRs_i hst
    obtain ⟨m0, rfl, h0'⟩ := gRs_i hx'
    obtain ⟨a9, m1, ha, rfl, h1⟩ := gRs_r h0'
    obtain ⟨ws, tys, hads, hP, hD, hK, hlen, hcor⟩ := id hH
    split at hs
    · rename_i ty n f hq
      split at hs
      · rename_i hcon
        obtain ⟨rfl, hin⟩ := hcon
        cases hs
        obtain ⟨e9, he, cA, t, rfl, ht⟩ := gCell (B := 0) (D := D) hads hcor ha hq
        refine va_zast (D := D) hx hb hK hP hD hS r9 t he ht hin hd (fun H1 locs1 hP1 hD1 hS1 => ?_)
        exact kk ads H1 locs1 cells slots mls _ ⟨[], (List.append_nil _).symm⟩ ⟨gHp_put hads hlen hcor he ⟨cA, t, rfl, ht⟩ hP1 hD1 hK, hS1, hLo, h1, hc, hsl⟩
      · cases hs
    · cases hs
  · cases hs
theorem gs_castore (HL : gLf sL D ex sc aL) (F : gFr sL m p s mth meth c) (hd : decode (gB m) pc = .ok (.castore, len)) (hn : gLen (.castore) len = true) (hres : gRes m pc (.castore, len, a, b) hp = true) (hs : gStep sc (.castore, len, a, b) pc ls st h = some r)
    (P : gPt sL.heap.size D ex h0 s (gMx m) ls st h ads H locs cells slots mls mst) (kk : gKk sL D ex m p l e R s mth args below meth c Q h0 ads r) : W p l e R s mth args below meth c H locs cells slots Q (F0 mth pc mls mst) := by
  obtain ⟨hx, hb, hml, hown, hret, hlk, hnm, hO⟩ := F
  obtain ⟨hH, hS, hLo, hst, hc, hsl⟩ := P
  have hn1 : len = 1 := by simpa [gLen] using hn
  subst hn1
  simp only [gStep] at hs
  split at hs
  · rename_i x9 i9 r9 st1
    obtain ⟨mx, rfl, hx'⟩ := gRs_i hst
    obtain ⟨m0, rfl, h0'⟩ := gRs_i hx'
    obtain ⟨a9, m1, ha, rfl, h1⟩ := gRs_r h0'
    obtain ⟨ws, tys, hads, hP, hD, hK, hlen, hcor⟩ := id hH
    split at hs
    · rename_i ty n f hq
      split at hs
      · rename_i hcon
        obtain ⟨rfl, hin⟩ := hcon
        cases hs
        obtain ⟨e9, he, cA, t, rfl, ht⟩ := gCell (B := 0) (D := D) hads hcor ha hq
        refine va_cast (D := D) hx hb hK hP hD hS r9 t he ht hin hd (fun H1 locs1 hP1 hD1 hS1 => ?_)
        exact kk ads H1 locs1 cells slots mls _ ⟨[], (List.append_nil _).symm⟩ ⟨gHp_put hads hlen hcor he ⟨cA, t, rfl, ht⟩ hP1 hD1 hK, hS1, hLo, h1, hc, hsl⟩
      · cases hs
    · cases hs
  · cases hs
theorem gs_aaload (HL : gLf sL D ex sc aL) (F : gFr sL m p s mth meth c) (hd : decode (gB m) pc = .ok (.aaload, len)) (hn : gLen (.aaload) len = true) (hres : gRes m pc (.aaload, len, a, b) hp = true) (hs : gStep sc (.aaload, len, a, b) pc ls st h = some r)
    (P : gPt sL.heap.size D ex h0 s (gMx m) ls st h ads H locs cells slots mls mst) (kk : gKk sL D ex m p l e R s mth args below meth c Q h0 ads r) : W p l e R s mth args below meth c H locs cells slots Q (F0 mth pc mls mst) := by
  obtain ⟨hx, hb, hml, hown, hret, hlk, hnm, hO⟩ := F
  obtain ⟨hH, hS, hLo, hst, hc, hsl⟩ := P
  have hn1 : len = 1 := by simpa [gLen] using hn
  subst hn1
  simp only [gStep] at hs
  split at hs
  · rename_i i9 r9 st1
    obtain ⟨m0, rfl, h0'⟩ := gRs_i hst
    obtain ⟨a9, m1, ha, rfl, h1⟩ := gRs_r h0'
    obtain ⟨ws, tys, hads, hP, hD, hK, hlen, hcor⟩ := id hH
    split at hs
    · rename_i ty n f hq
      split at hs
      · rename_i hcon
        obtain ⟨hrt, hin⟩ := hcon
        cases hs
        obtain ⟨e9, he, cA, t, g, rfl, ht, hg⟩ := gCell (B := 0) (D := D) hads hcor ha hq
        have hlt : i9.toNatClampNeg < n := Nat.not_le.mp fun q => hin (Or.inr q)
        refine W.aald (v := va_rf (g i9.toNatClampNeg)) (ty := ty) hx hb (hP r9 _ he) ((hK.2 t _ ht).1 n (fun j => va_rf (g j))) (by cases ty <;> first | rfl | (simp [gRefTy] at hrt)) (fun q => by cases q) (by show ¬ (i9 < 0 ∨ (arrV _ _ _).slots.size ≤ _); rw [arrV_size]; exact hin) (by show (arrV _ _ _).slots[_]? = _; rw [arrV_read _ _ hlt]) rfl rfl hd ?_
        exact kk ads H locs cells slots mls _ ⟨[], (List.append_nil _).symm⟩ ⟨hH, hS, hLo, ⟨_, m1, rfl, gRo_rf (hg _), h1⟩, hc, hsl⟩
      · cases hs
    · cases hs
  · cases hs
def gCas : List (Nat × Nat) := [(1, 1582), (2, 1574), (3, 1579), (4, 1571), (8, 1577), (9, 1578), (10, 1573)]
theorem gCas_ok : gCas.all (fun q => decide (lw_tbl[q.2]? = some (Cond.castable (gCn q.1) "java/lang/Object"))) = true := by decide +kernel
theorem gCas_at {ci : Nat} {q : vw_C} (h : gCl[ci]? = some q) (hm : (ci == 1 || ci == 2 || ci == 3 || ci == 4 || ci == 8 || ci == 9 || ci == 10) = true) : Cond.castable q.1 "java/lang/Object" ∈ lw_tbl := by
  have e : gCn ci = q.1 := by simp only [gCn, h]
  have h2 : ∃ k, (ci, k) ∈ gCas := by
    simp only [Bool.or_eq_true, beq_iff_eq] at hm
    rcases hm with (((((rfl | rfl) | rfl) | rfl) | rfl) | rfl) | rfl <;> exact ⟨_, by first | exact List.mem_of_getElem? (i := 0) rfl | exact List.mem_of_getElem? (i := 1) rfl | exact List.mem_of_getElem? (i := 2) rfl | exact List.mem_of_getElem? (i := 3) rfl | exact List.mem_of_getElem? (i := 4) rfl | exact List.mem_of_getElem? (i := 5) rfl | exact List.mem_of_getElem? (i := 6) rfl⟩
  obtain ⟨k, hk⟩ := h2
  have h3 := of_decide_eq_true (List.all_eq_true.mp gCas_ok _ hk)
  rw [← e]
  exact List.mem_of_getElem? h3
theorem gAOint : lw_tbl[1552]? = some (Cond.arrayOver (.array .int)) := by decide +kernel

theorem gs_aastore (HL : gLf sL D ex sc aL) (F : gFr sL m p s mth meth c) (hd : decode (gB m) pc = .ok (.aastore, len)) (hn : gLen (.aastore) len = true) (hres : gRes m pc (.aastore, len, a, b) hp = true) (hs : gStep sc (.aastore, len, a, b) pc ls st h = some r)
    (P : gPt sL.heap.size D ex h0 s (gMx m) ls st h ads H locs cells slots mls mst) (kk : gKk sL D ex m p l e R s mth args below meth c Q h0 ads r) : W p l e R s mth args below meth c H locs cells slots Q (F0 mth pc mls mst) := by
  obtain ⟨hx, hb, hml, hown, hret, hlk, hnm, hO⟩ := F
  obtain ⟨hH, hS, hLo, hst, hc, hsl⟩ := P
  have hn1 : len = 1 := by simpa [gLen] using hn
  subst hn1
  simp only [gStep] at hs
  split at hs
  · rename_i v9 i9 r9 st1
    obtain ⟨b9, mx, hbv, rfl, hx'⟩ := gRs_r hst
    obtain ⟨m0, rfl, h0'⟩ := gRs_i hx'
    obtain ⟨a9, m1, ha, rfl, h1⟩ := gRs_r h0'
    obtain ⟨ws, tys, hads, hP, hD, hK, hlen, hcor⟩ := id hH
    split at hs
    · rename_i ty n f x9 hq hqv
      split at hs
      · rename_i hcon
        obtain ⟨hin, hmay⟩ := hcon
        cases hs
        obtain ⟨e9, he, cA, t, g, rfl, ht, hg⟩ := gCell (B := 0) (D := D) hads hcor ha hq
        obtain ⟨ev, hev, hrcv⟩ := gCell (B := 0) (D := D) hads hcor hbv hqv
        have hgo : gRo ads (some v9) (some b9) := ⟨b9, hbv, rfl⟩
        cases ty with
        | object C =>
          rcases x9 with ⟨ci, fs⟩ | x9
          · obtain ⟨fs', rfl, hfs⟩ := hrcv
            obtain ⟨⟨C9, T, N⟩, hcl, -⟩ := hP _ _ hev
            simp only [gMay, Bool.or_eq_true, Bool.and_eq_true, beq_iff_eq] at hmay
            rcases hmay with ⟨rfl, hm9⟩ | ⟨rfl, rfl⟩
            · have hca : va_Nw (.castable C9 "java/lang/Object") s := va_Nw.warmC hO.1 (va_Nw.of rfl (HL.1 _ (gCas_at hcl (by simp only [Bool.or_eq_true, beq_iff_eq]; exact hm9))))
              refine va_astqO (D := D) (r := (C9, T, N)) hx hb hK hP hD hS r9 t v9 ci he ht hca hev hcl hin hd (fun H1 locs1 hP1 hD1 hS1 => ?_)
              exact kk ads H1 locs1 cells slots mls _ ⟨[], (List.append_nil _).symm⟩ ⟨gHp_put hads hlen hcor he ⟨cA, t, _, rfl, ht, gRo_upd hg hgo _⟩ hP1 hD1 hK, hS1, hLo, h1, hc, hsl⟩
            · cases hcl
              refine va_astq (D := D) (r := (RX5, TX5, 2)) hx hb hK hP hD hS r9 t v9 6 he ht hev rfl hin hd (fun H1 locs1 hP1 hD1 hS1 => ?_)
              exact kk ads H1 locs1 cells slots mls _ ⟨[], (List.append_nil _).symm⟩ ⟨gHp_put hads hlen hcor he ⟨cA, t, _, rfl, ht, gRo_upd hg hgo _⟩ hP1 hD1 hK, hS1, hLo, h1, hc, hsl⟩
          · simp [gMay] at hmay
        | array ta =>
          rcases x9 with ⟨ci, fs⟩ | ⟨tv, nv, fv⟩ | x9
          · cases ta <;> simp [gMay] at hmay
          · cases ta <;> simp [gMay] at hmay
            subst hmay
            obtain ⟨cV, tv9, rfl, htv⟩ := hrcv
            obtain ⟨comp, cA2, kA, f1, f2, f3, f4, f5⟩ := gAA.moved hO.1.alike (gAA.of (HL.1 _ (List.mem_of_getElem? gAOint)))
            have g1 : s.vm.findClass ("[" ++ (FieldType.array .int).toString) = some cA := (hK.2 t _ ht).2
            have g2 : s.vm.findClass ("[" ++ FieldType.int.toString) = some cV := (hK.2 tv9 _ htv).2
            have ecA : cA2 = cA := Option.some.inj (f5.symm.trans g1)
            have ecV : comp = cV := Option.some.inj (f1.symm.trans (show s.vm.findClass (FieldType.array .int).toString = some cV from g2))
            rw [ecA] at f3
            rw [ecV] at f1 f4
            obtain ⟨kC, hkC, -⟩ := Vm.findClass_spec f1
            have hlt : i9.toNatClampNeg < n := Nat.not_le.mp fun q => hin (Or.inr q)
            have hi0 : ¬ i9 < 0 := fun q => hin (Or.inl q)
            refine W.aast hx hb (hP r9 _ he) (fun q h => by cases h) (fun h => by cases h) f3 f4 rfl hkC ⟨hi0, by show _ < (arrV _ _ _).slots.size; rw [arrV_size]; exact hlt⟩ (hP v9 _ hev) (fun q h => by cases h) hkC (va_asg _ _) rfl rfl hd fun H1 eq9 z9 oq => ?_
            have hset : va_at D gCl (a9, .inl (cA, n, .inr (.inr (.inr (.inr (va_up g i9.toNatClampNeg (some b9))))))) H1 := by
              show H1[a9]? = some (vp_cell _ _)
              rw [eq9]
              rw [vp_cell_q, vp_cell_q, arrV_store]
              congr 2
              funext q
              by_cases hq9 : q = i9.toNatClampNeg
              · subst hq9
                simp [updV, va_up, va_rf]
              · simp [updV, va_up, hq9]
            exact kk ads H1 _ cells slots mls _ ⟨[], (List.append_nil _).symm⟩ ⟨gHp_put hads hlen hcor he ⟨cA, t, _, rfl, ht, gRo_upd hg hgo _⟩ (hP.set hD he hset oq) (hD.set he) hK, hS.put z9 oq (hD.2 r9 _ he), hLo, h1, hc, hsl⟩
          · cases ta <;> simp [gMay] at hmay
        | _ => simp [gMay] at hmay
      · cases hs
    · cases hs
  · rename_i i9 r9 st1
    obtain ⟨mx, rfl, hx'⟩ := gRs_n hst
    obtain ⟨m0, rfl, h0'⟩ := gRs_i hx'
    obtain ⟨a9, m1, ha, rfl, h1⟩ := gRs_r h0'
    obtain ⟨ws, tys, hads, hP, hD, hK, hlen, hcor⟩ := id hH
    split at hs
    · rename_i ty n f hq
      split at hs
      · rename_i hcon
        obtain ⟨hin, rfl⟩ := hcon
        cases hs
        obtain ⟨e9, he, cA, t, g, rfl, ht, hg⟩ := gCell (B := 0) (D := D) hads hcor ha hq
        have hgo : gRo ads none none := rfl
        refine va_astqN (D := D) hx hb hK hP hD hS r9 t he ht hin hd (fun H1 locs1 hP1 hD1 hS1 => ?_)
        exact kk ads H1 locs1 cells slots mls _ ⟨[], (List.append_nil _).symm⟩ ⟨gHp_put hads hlen hcor he ⟨cA, t, _, rfl, ht, gRo_upd hg hgo _⟩ hP1 hD1 hK, hS1, hLo, h1, hc, hsl⟩
      · cases hs
    · cases hs
  · cases hs
end SND3
