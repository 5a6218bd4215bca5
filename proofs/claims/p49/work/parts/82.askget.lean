/-! THE LAW ASKS FOR A VALUE -/
section AG
variable {sc : gSc} {d : Nat} {A : gA} {F : Nat → Option vC} {L : List (Nat × vC)} {o : Nat} {f : Ls FamD} {w : Ls WrD} {s : Ls SnD} {c : Ls CuD} {b : Ls BkD} {fi : Nat × FiD} {y : Ls ChD} {me : Option MeD} {ct : CtD} {g : FamD} {l : LvD} {r : RunD} {i j m k : Nat} {x z : Int}
theorem Cnt.up {K K' : Nat} {c1 c2 : CtD} (h : Cnt c1 c2 K) (hk : K ≤ K') : Cnt c1 c2 K' := h.trans Cnt.refl (K2 := 0) (by omega)
theorem lv_wt (hO : okO A F L o f w s c b fi y me ct) (hG : GI (s.2.2.map SnD.m) ct.2.2.1 f.2.2 w.2.2 b.2.2 me) (hl : w.2.2.length ≤ 120) (hg : g ∈ f.2.2) (hlm : l ∈ g.lv) : wtS l.rs ≤ 480 ∧ l.rs.length ≤ 480 := by
  have h := (hG.at hg).wtL hG.2.2.1 (rs := l.rs) (List.mem_map_of_mem hlm) (fun r hr c hc => ((((hO.2.1 g hg).2 l hlm).2 r hr).c100 c hc).1)
  omega
theorem wt_le {l : List RunD} {r : RunD} (h : r ∈ l) : r.wt ≤ wtS l := by
  obtain ⟨a, b, rfl⟩ := List.append_of_mem h
  rw [wtS_app]
  show r.wt ≤ wtS a + (r.wt + wtS b)
  omega
theorem kS_le : ∀ {l : List RunD}, kS l ≤ wtS l + 3 * l.length
  | [] => Nat.le_refl _
  | r :: l => by
    have := @kS_le l
    show r.rows.length + 3 + kS l ≤ r.wt + wtS l + 3 * (l.length + 1)
    unfold RunD.wt
    omega
theorem kL_le {N : Nat} : ∀ {t : List LvD}, (∀ l, l ∈ t → wtS l.rs ≤ N ∧ l.rs.length ≤ N) → kL t ≤ t.length * (4 * N)
  | [], _ => Nat.zero_le _
  | l :: t, h => by
    have h1 := h l (List.mem_cons_self ..)
    have h2 := @kL_le N t (fun l hl => h l (List.mem_cons_of_mem _ hl))
    have h3 := @kS_le l.rs
    show kS l.rs + kL t ≤ (t.length + 1) * (4 * N)
    rw [Nat.succ_mul]
    omega
theorem col_len (hG : GI (s.2.2.map SnD.m) ct.2.2.1 f.2.2 w.2.2 b.2.2 me) (hl : w.2.2.length ≤ 120) (hg : g ∈ f.2.2) (hlm : l ∈ g.lv) (hr : r ∈ l.rs) (hk : k < 100) : (colW r (k : Int) []).length ≤ 120 := by
  have h1 := stk_len (hG.at hg) hk
  have h2 := List.length_filter_le (fun v : WrD => v.on (k : Nat)) w.2.2
  have h3 : (stL l.rs (k : Int)).length ≤ (stkR (g.lv.map LvD.rs) (k : Int)).length := stL_le (List.mem_map_of_mem hlm)
  have h4 : (rE r (k : Int)).length ≤ (stL l.rs (k : Int)).length := by
    obtain ⟨a, b, e⟩ := List.append_of_mem hr
    rw [e]
    unfold stL
    rw [List.flatMap_append, List.flatMap_cons, List.length_append, List.length_append]
    omega
  unfold rE at h4
  rw [List.length_map] at h4
  omega
theorem ask_get (hO : okO A F L o f w s c b fi y me ct) (hG : GI (s.2.2.map SnD.m) ct.2.2.1 f.2.2 w.2.2 b.2.2 me) (hg : f.2.2[i]? = some g) (hk : k < 100) (hl : w.2.2.length ≤ 120) (hmo : Wc sc 4 76 [.ref o, .int (zI z)] A (fun r A' => r = .inl (some (.int (zI m))) ∧ A' = A)) (hm : m ∈ s.2.2.map SnD.m ∨ m = w.2.2.length) (hm2 : m ≤ w.2.2.length) (hs : cS ct + 7680 ≤ 990000000) :
    Wc sc 12 8 [.ref o, .int (zI 0), .int (zI i), .int (zI k), .int (zI z), .int (zI 0)] A (fun v A' => v = .inl (some (.int (vlI (vlE g.o g.g k (w.2.2.take m))))) ∧ ∃ fd y' ct', okO A' F L o f w s c b (fi.1, fd) y' me ct' ∧ Cnt ct ct' 7680 ∧ y'.1 = y.1 ∧ (y'.2.1 ≤ y.2.1 ∨ y'.2.1 ≤ 250) ∧ 5 * A'.2.1 + y.2.1 ≤ 5 * A.2.1 + y'.2.1 + 5 ∧ A'.2.2 + 4 * y.2.1 ≤ A.2.2 + 4 * y'.2.1 + 6) := by
  have hgm := List.mem_of_getElem? hg
  have hlw : ∀ l, l ∈ g.lv → wtS l.rs ≤ 480 ∧ l.rs.length ≤ 480 := fun l hlm => lv_wt hO hG hl hgm hlm
  have hk9 := kL_le hlw
  have h4 := hO.l4 g hgm
  rw [h4] at hk9
  have hrl : ∀ l, l ∈ g.lv → ∀ r, r ∈ l.rs → r.wt < 2600 := fun l hlm r hr => by
    have := hlw l hlm
    have := wt_le hr
    omega
  have h55 := c55 (N := 120) hO hg (x := (k : Int)) (by omega) (by omega) hmo hrl (fun l hlm r hr => col_len hG hl hgm hlm hr hk) (by omega)
  have hsame := lk_an (m := m) (k := k) (hG.at hgm) hG.1 hG.2.1 (fun v hv => (hG.2.2.1 v hv).1) (by rcases hm with hm | hm; exact .inl hm; exact .inr (by omega)) hk
  have hval : opt (lkF g w.2.2 m k) = vlE g.o g.g k (w.2.2.take m) := (same_opt hsame).trans (an_val hG.1 hm2)
  refine c8_w (c15_0 hO.ob (by rfl) h55 (fun v A' hv => ?_) (d := 11) (by omega)) (fun v A' hv => ?_) (by omega) (fun v A' hv => ?_) (fun A' hv => ?_)
  · obtain ⟨A1, y1, ct1, -, -, -, hr⟩ := hv
    rcases hr with ⟨-, rfl, -⟩ | ⟨-, rfl, -⟩
    · exact .inl ⟨_, rfl⟩
    · exact .inr ⟨_, rfl⟩
  · obtain ⟨A1, y1, ct1, -, -, -, hr⟩ := hv
    rcases hr with ⟨-, rfl, -⟩ | ⟨-, rfl, -⟩
    · exact .inl ⟨_, rfl⟩
    · exact .inr ⟨_, rfl⟩
  · obtain ⟨A1, y1, ct1, q1, q2, q3, hr⟩ := hv
    obtain ⟨e1, e2, e3, e4⟩ := rd_val hr hval
    obtain ⟨p1, p2, p3, p4⟩ := q3
    refine ⟨e1, lkF g w.2.2 m k, y1, ct1, ?_, q2.up (by omega), p3, by omega, by omega, by omega⟩
    rcases hr with ⟨-, -, rfl⟩ | ⟨-, -, rfl⟩
    · exact q1
    · exact q1.thr
  · obtain ⟨A1, y1, ct1, -, -, -, hr⟩ := hv
    rcases hr with ⟨-, h, -⟩ | ⟨-, h, -⟩
    · cases h
    · cases h
theorem ask_anew (hO : okO A F L o f w s c b fi y me ct) (hN : NumW w.2.2) (hg : f.2.2[i]? = some g) (hk : k < 100) (hl : w.2.2.length ≤ 120) (hmo : Wc sc 4 76 [.ref o, .int (zI z)] A (fun r A' => r = .inl (some (.int (zI m))) ∧ A' = A)) (hm2 : m ≤ w.2.2.length) :
    Wc sc 12 8 [.ref o, .int (zI 1), .int (zI i), .int (zI k), .int (zI z), .int (zI 0)] A (fun v A' => v = .inl (some (.int (vlI (vlE g.o g.g k (w.2.2.take m))))) ∧ ∃ fd, okO A' F L o f w s c b (fi.1, fd) y me ct ∧ A'.2.1 ≤ A.2.1 + 1 ∧ A'.2.2 ≤ A.2.2 + 6) := by
  have h56 := c56 hO hg (x := (k : Int)) (by omega) (by omega) hmo
  have hval : opt (anF g w.2.2 m k) = vlE g.o g.g k (w.2.2.take m) := an_val hN hm2
  refine c8_w (c15_1 hO.ob (by rfl) h56 (fun v A' hv => ?_) (d := 11) (by omega)) (fun v A' hv => ?_) (by omega) (fun v A' hv => ?_) (fun A' hv => ?_)
  · obtain ⟨A1, -, -, hr⟩ := hv
    rcases hr with ⟨-, rfl, -⟩ | ⟨-, rfl, -⟩
    · exact .inl ⟨_, rfl⟩
    · exact .inr ⟨_, rfl⟩
  · obtain ⟨A1, -, -, hr⟩ := hv
    rcases hr with ⟨-, rfl, -⟩ | ⟨-, rfl, -⟩
    · exact .inl ⟨_, rfl⟩
    · exact .inr ⟨_, rfl⟩
  · obtain ⟨A1, q1, q2, hr⟩ := hv
    obtain ⟨e1, e2, e3, e4⟩ := rd_val hr hval
    rw [q2] at e3 e4
    refine ⟨e1, anF g w.2.2 m k, ?_, e3, e4⟩
    rcases hr with ⟨-, -, rfl⟩ | ⟨-, -, rfl⟩
    · exact q1
    · exact q1.thr
  · obtain ⟨A1, -, -, hr⟩ := hv
    rcases hr with ⟨-, h, -⟩ | ⟨-, h, -⟩
    · cases h
    · cases h
end AG
