/-! A MERGING'S LAST STEP: all of it -/
section FIN2
variable {Mom : List Nat} {nf g o j : Nat} {A B : List (List RunD)} {S T ins nr : List RunD} {ws : List WrD} {kept kr : List ChD} {key : Int} {ρ : ChD → Bool}
theorem ovK_app {x : Int} {a b : List ChD} : ovK x (a ++ b) = ovK x a ++ ovK x b := List.filter_append ..
/-- ranges over a key that are kept, out of the way there -/
theorem kr_way {k : Int} (hok : ∀ r, r ∈ ins → RunOk r) : (ovK k (ins.flatMap (fun r => r.spans.filter ρ))).Perm ((wayW k ins).filter (fun c => decide (c.k = 3) && ρ c)) := by
  refine List.Perm.trans ?_ (List.Perm.filter _ (@wayW_perm k ins)).symm
  induction ins with
  | nil => exact List.Perm.refl _
  | cons r l ih =>
    have ih := ih (fun r hr => hok r (List.mem_cons_of_mem _ hr))
    have hr := hok r (List.mem_cons_self ..)
    rw [List.flatMap_cons, List.flatMap_cons, ovK_app, List.filter_append]
    refine List.Perm.append ?_ ih
    refine List.Perm.trans ?_ (List.Perm.filter _ colW_perm).symm
    rw [List.append_nil, List.filter_append]
    have e1 : (ovK k r.rows).filter (fun c => decide (c.k = 3) && ρ c) = [] := List.filter_eq_nil_iff.mpr (fun c hc hb => by
      have h1 := hr.2.1 c (List.mem_filter.mp hc).1
      rw [Bool.and_eq_true, decide_eq_true_eq] at hb
      omega)
    rw [e1, List.append_nil]
    unfold ovK
    rw [List.filter_filter, List.filter_filter]
    refine List.Perm.of_eq (List.filter_congr (fun c hc => ?_))
    have h1 := hr.2.2.1 c hc
    rw [show decide (c.k = 3) = true from decide_eq_true h1.1, Bool.true_and, Bool.and_comm]
theorem TI.merge (hTI : TI Mom nf g o (A ++ S :: T :: B) ws) (hN : NumW ws) (hj : A.length = j) (hins : ins = amg ins S ++ amg ins T) (h0 : j = 0 → S = kp ins S ++ amg ins S) (hT : ∀ r, r ∈ T → among ins r.id = false → ¬ r.ov (lstR 100 ins) (grtR (-1) ins) = true)
    (hks : ascF kept ∧ ptS kept) (hKA : ∀ k : Nat, k < 100 → KA Mom j ins kept (A ++ S :: T :: B) k) (ht : ∀ r, r ∈ ins → ∀ c, c ∈ r.spans → c.t < 100) (hkr : kr = ins.flatMap (fun r => r.spans.filter ρ))
    (hρ : ∀ c, ρ c = false → Bel j (A ++ S :: T :: B) c.f c.t ∧ ∀ e, e ∈ kept → ¬ (e.n < c.n ∧ c.ov (e.f : Int) (e.f : Int) = true)) (hnr : SegA kept kr nf nr) : TI Mom (nf + nr.length) g o (A ++ kp ins S :: insBs (kp ins T) nr :: B) ws := by
  have hmS : S ∈ A ++ S :: T :: B := by simp
  have hmT : T ∈ A ++ S :: T :: B := by simp
  have hokS := hTI.2.2.2.2.1 S hmS
  have hokT := hTI.2.2.2.2.1 T hmT
  have hmem : ∀ r, r ∈ ins → r ∈ S ∨ r ∈ T := by
    intro r hr
    rw [hins] at hr
    rcases List.mem_append.mp hr with hr | hr
    · exact .inl (amg_mem hr)
    · exact .inr (amg_mem hr)
  have hok : ∀ r, r ∈ ins → RunOk r := fun r hr => (hmem r hr).elim (hokS r) (hokT r)
  have hkr3 : ∀ c : ChD, c ∈ kr → c.k = 3 ∧ c.f ≤ c.t ∧ c.t < 100 := by
    intro c hc
    rw [hkr] at hc
    obtain ⟨r, hr, hc⟩ := List.mem_flatMap.mp hc
    have hc2 := (List.mem_filter.mp hc).1
    have h9 := (hok r hr).2.2.1 c hc2
    exact ⟨h9.1, h9.2, ht r hr c hc2⟩
  obtain ⟨n1, n2, n3⟩ := segA_ok hks.1 hks.2 hkr3 hnr
  have hstk := fun k (hk : k < 100) => mrg_stk hTI hk hj hins h0 hT
  have hlgS : ∀ q, q ∈ S → q.least ≤ q.great := fun q hq => (hokS q hq).lg
  have hlgT : ∀ q, q ∈ T → q.least ≤ q.great := fun q hq => (hokT q hq).lg
  have hlgN : ∀ q, q ∈ nr → q.least ≤ q.great := fun q hq => (n1 q hq).1.lg
  have hTris : Ris T := (isRis_iff hlgT).mp (hTI.2.2.2.1 (j + 1) T (by rw [List.getElem?_append_right (by omega), show j + 1 - A.length = 1 by omega]; rfl) (by omega))
  have hkT : Ris (kp ins T) := List.Pairwise.sublist List.filter_sublist hTris
  have hlgk : ∀ q, q ∈ kp ins T → q.least ≤ q.great := fun q hq => hlgT q (List.mem_filter.mp hq).1
  have hhull : ∀ c, (c ∈ kept ∨ c ∈ kr) → lstR 100 ins ≤ (c.f : Int) ∧ (c.t : Int) ≤ grtR (-1) ins := by
    intro c hc
    have hr : ∃ r, r ∈ ins ∧ (c ∈ r.rows ∨ c ∈ r.spans) := by
      rcases hc with hc | hc
      · obtain ⟨K, k1, k2, k3, -⟩ := hKA c.f (hks.2 c hc).2.2
        have h9 : c ∈ selB (wayW c.f ins) K := by
          rw [← k3]
          exact List.mem_filter.mpr ⟨hc, decide_eq_true rfl⟩
        obtain ⟨r, r1, r2, -⟩ := wayW_mem.mp (selB_mem h9)
        exact ⟨r, r1, r2⟩
      · rw [hkr] at hc
        obtain ⟨r, hr, hc⟩ := List.mem_flatMap.mp hc
        exact ⟨r, hr, .inr (List.mem_filter.mp hc).1⟩
    obtain ⟨r, r1, r2⟩ := hr
    have a1 := run_of r2
    have a2 := (@lstR_le ins 100).2 r r1
    have a3 := (@grtR_ge ins (-1)).2 r r1
    omega
  have hnew : Ris (insBs (kp ins T) nr) := by
    refine insBs_ris hlgN n2 hlgk hkT (fun r hr q hq hov => ?_)
    obtain ⟨q1, q2⟩ := List.mem_filter.mp hq
    refine hT q q1 (by simpa using q2) ?_
    have ho := of_decide_eq_true (show decide _ = true from hov)
    have hin : lstR 100 ins ≤ r.least ∧ r.great ≤ grtR (-1) ins := run_in lstR_le.1 grtR_ge.1 (fun c hc => by
      obtain ⟨z, z1, z2, z3⟩ := (n1 r hr).2.2.2 c hc
      have := hhull z z1
      omega)
    exact decide_eq_true (by omega)
  have hlgI : ∀ q, q ∈ insBs (kp ins T) nr → q.least ≤ q.great := fun q hq => (insBs_mem.mp hq).elim (hlgN q) (hlgk q)
  -- over each key
  have hkey : ∀ k : Nat, k < 100 → ∃ K, K.length = (wayW k ins).length ∧ NR (wayW k ins) K ∧ kept.filter (fun c => decide (c.f = k)) = selB (wayW k ins) K ∧ (∀ m, (m ∈ Mom ∨ ∀ c, c ∈ wayW k ins → c.n ≤ m) → KOm (Bel j (A ++ S :: T :: B) k k) m (wayW k ins) K) ∧
      stkR (A ++ S :: T :: B) k = (stkR A k ++ stL (kp ins S) k) ++ ((wayW k ins).map es ++ (stL (kp ins T) k ++ stkR B k)) ∧ stkR (A ++ kp ins S :: insBs (kp ins T) nr :: B) k = (stkR A k ++ stL (kp ins S) k) ++ ((NW ρ (wayW k ins) K).map es ++ (stL (kp ins T) k ++ stkR B k)) ∧ ((wayW k ins) ≠ [] → stL (kp ins T) k = []) := by
    intro k hk
    obtain ⟨K, k1, k2, k3, k4⟩ := hKA k hk
    obtain ⟨s1, s2⟩ := hstk k hk
    have s2' : wayW k ins ≠ [] → stL (kp ins T) k = [] := fun h => s2 (List.exists_mem_of_ne_nil _ h)
    have eold : stkR (A ++ S :: T :: B) k = (stkR A k ++ stL (kp ins S) k) ++ ((wayW k ins).map es ++ (stL (kp ins T) k ++ stkR B k)) := by
      rw [stkR_app]
      show stkR A k ++ (stL S k ++ (stL T k ++ stkR B k)) = _
      rw [← List.append_assoc (stL S k), s1, List.append_assoc, List.append_assoc, List.append_assoc]
    have hd := hTI.1 k hk
    rw [eold] at hd
    have hdW : DscS ((wayW k ins).map es ++ stL (kp ins T) k) := by
      refine hd.sublist (List.Sublist.trans ?_ (List.sublist_append_right _ _))
      rw [← List.append_assoc]
      exact List.sublist_append_left _ _
    have hsubN : ((NW ρ (wayW k ins) K).map es ++ stL (kp ins T) k).Sublist ((wayW k ins).map es ++ stL (kp ins T) k) := List.Sublist.append_right (NW_sub.map es) _
    have enew : stL (insBs (kp ins T) nr) k = (NW ρ (wayW k ins) K).map es ++ stL (kp ins T) k := by
      refine dsc_eq ?_ (stL_ris hnew hlgI) (hdW.sublist hsubN)
      refine (stL_perm insBs_perm).trans ?_
      rw [stL_app]
      refine List.Perm.append_right _ ?_
      refine (segA_stk hks.1 hks.2 hkr3 hnr hk).trans ?_
      rw [k3, hkr, ← List.map_append]
      refine List.Perm.map es ?_
      refine (List.Perm.append_left _ (kr_way (k := (k : Int)) (ρ := ρ) hok)).trans ?_
      exact (NW_perm k1 k2).symm
    refine ⟨K, k1, k2, k3, k4, eold, ?_, s2'⟩
    rw [stkR_app]
    show stkR A k ++ (stL (kp ins S) k ++ (stL (insBs (kp ins T) nr) k ++ stkR B k)) = _
    rw [enew, List.append_assoc, List.append_assoc]
  have hsub : ∀ k : Nat, k < 100 → (stkR (A ++ kp ins S :: insBs (kp ins T) nr :: B) k).Sublist (stkR (A ++ S :: T :: B) k) := by
    intro k hk
    obtain ⟨K, -, -, -, -, e1, e2, -⟩ := hkey k hk
    rw [e1, e2]
    exact List.Sublist.append_left (List.Sublist.append_right (NW_sub.map es) _) _
  have hnum := fun k hk => hTI.num hN (k := k) hk
  have hres : ∀ k : Nat, k < 100 → ∀ m, (m ∈ Mom ∨ ws.length ≤ m) → resO o (upE m (stkR (A ++ kp ins S :: insBs (kp ins T) nr :: B) k)) = resO o (upE m (stkR (A ++ S :: T :: B) k)) := by
    intro k hk m hm
    obtain ⟨K, k1, k2, k3, k4, e1, e2, e3⟩ := hkey k hk
    have hnk := hnum k hk
    rw [e1] at hnk
    have hwn : ∀ c, c ∈ wayW k ins → c.n ≤ ws.length := fun c hc => hnk (es c) (List.mem_append_right _ (List.mem_append_left _ (List.mem_map_of_mem hc)))
    rw [e1, e2]
    simp only [upE_app]
    refine resO_app ?_
    by_cases hw : wayW k ins = []
    · rw [hw]
      have : NW ρ ([] : List ChD) K = [] := by cases K <;> rfl
      rw [this]
    · rw [e3 hw]
      show resO o (upE m ((NW ρ (wayW k ins) K).map es) ++ upE m (stkR B k)) = resO o (upE m ((wayW k ins).map es) ++ upE m (stkR B k))
      have hd := hTI.1 k hk
      rw [e1] at hd
      have hdW : (wayW k ins).Pairwise (fun a b => b.n < a.n) := by
        have h9 : DscS ((wayW k ins).map es) := hd.sublist (List.Sublist.trans (List.sublist_append_left _ _) (List.sublist_append_right _ _))
        unfold DscS at h9
        rw [List.pairwise_map] at h9
        exact h9
      have hBel : ∀ x y : Int, x ≤ (k : Int) → (k : Int) ≤ y → Bel j (A ++ S :: T :: B) x y → upE m (stkR B k) = [] := by
        intro x y hx hy hb
        have hB : stkR B k = [] := stkR_nil (fun rs hrs r hr => rE_nil (fun hov => by
          refine hb rs ?_ r hr ?_
          · have : (A ++ S :: T :: B).drop (j + 2) = B := by
              rw [← hj, ← List.drop_drop, List.drop_left]
              rfl
            rw [this]
            exact hrs
          · have := of_decide_eq_true (show decide _ = true from hov)
            exact decide_eq_true (by omega)))
        rw [hB]
        rfl
      refine (keep_sem (o := o) (m := m) (tn := Bel j (A ++ S :: T :: B) k k) (ρ := ρ) k1 k2 hdW (k4 m (hm.imp id (fun h c hc => Nat.le_trans (hwn c hc) h))) (fun hb => hBel k k (Int.le_refl _) (Int.le_refl _) hb) (fun c hc => (way_k hok c hc).1) (fun c hc hc3 hr => ?_)).symm
      obtain ⟨r1, r2⟩ := hρ c hr
      have hcw := way_k hok c hc
      refine ⟨hBel c.f c.t (by omega) (by omega) r1, fun e he hen => ?_⟩
      have he2 : e ∈ kept.filter (fun c => decide (c.f = k)) := by
        rw [k3]
        exact he
      obtain ⟨h5, h6⟩ := List.mem_filter.mp he2
      have h7 := of_decide_eq_true h6
      exact r2 e h5 ⟨hen, decide_eq_true (by omega)⟩
  have hupE : ∀ k : Nat, k < 100 → upE ws.length (stkR (A ++ kp ins S :: insBs (kp ins T) nr :: B) k) = stkR (A ++ kp ins S :: insBs (kp ins T) nr :: B) k ∧ upE ws.length (stkR (A ++ S :: T :: B) k) = stkR (A ++ S :: T :: B) k :=
    fun k hk => ⟨upE_all (fun e he => hnum k hk e ((hsub k hk).subset he)), upE_all (fun e he => hnum k hk e he)⟩
  obtain ⟨t1, t2, t3, t4, t5, t6, t7, t8⟩ := hTI
  have eids : (idsR (A ++ kp ins S :: insBs (kp ins T) nr :: B)).Perm (nr.map RunD.id ++ (idsR A ++ ((kp ins S).map RunD.id ++ ((kp ins T).map RunD.id ++ idsR B)))) := by
    rw [idsR_app]
    show (idsR A ++ ((kp ins S).map RunD.id ++ ((insBs (kp ins T) nr).map RunD.id ++ idsR B))).Perm _
    have h9 : ((insBs (kp ins T) nr).map RunD.id).Perm (nr.map RunD.id ++ (kp ins T).map RunD.id) := by
      rw [← List.map_append]
      exact insBs_perm.map RunD.id
    refine (List.Perm.append_left _ (List.Perm.append_left _ (List.Perm.append_right _ h9))).trans ?_
    rw [List.append_assoc]
    refine (List.Perm.append_left _ perm_out).trans ?_
    exact perm_out
  have hidsub : (idsR A ++ ((kp ins S).map RunD.id ++ ((kp ins T).map RunD.id ++ idsR B))).Sublist (idsR (A ++ S :: T :: B)) := by
    rw [idsR_app]
    show List.Sublist _ (idsR A ++ (S.map RunD.id ++ (T.map RunD.id ++ idsR B)))
    exact List.Sublist.append_left (List.Sublist.append (List.filter_sublist.map _) (List.Sublist.append_right (List.filter_sublist.map _) _)) _
  refine ⟨fun k hk => (t1 k hk).sublist (hsub k hk), fun k hk e he => t2 k hk e ((hsub k hk).subset he), fun k hk => ⟨?_, fun m hm => ?_⟩, ?_, ?_, ?_, ?_, ?_⟩
  · have h9 := hres k hk ws.length (.inr (Nat.le_refl _))
    rw [(hupE k hk).1, (hupE k hk).2] at h9
    rw [h9]
    exact (t3 k hk).1
  · rw [hres k hk m (.inl hm)]
    exact (t3 k hk).2 m hm
  · intro i rs hi hi0
    by_cases hiA : i < A.length
    · rw [List.getElem?_append_left hiA] at hi
      exact t4 i rs (by rw [List.getElem?_append_left hiA]; exact hi) hi0
    · rw [List.getElem?_append_right (by omega)] at hi
      have h9 := t4 i
      rw [List.getElem?_append_right (by omega)] at h9
      match hd : i - A.length, hi, h9 with
      | 0, hi, h9 =>
        cases hi
        have hS := (isRis_iff hlgS).mp (h9 S rfl hi0)
        exact (isRis_iff (fun q hq => hlgS q (List.mem_filter.mp hq).1)).mpr (List.Pairwise.sublist List.filter_sublist hS)
      | 1, hi, h9 =>
        cases hi
        exact (isRis_iff hlgI).mpr hnew
      | d + 2, hi, h9 => exact h9 rs hi hi0
  · intro rs hrs q hq
    rcases List.mem_append.mp hrs with hrs | hrs
    · exact t5 rs (List.mem_append_left _ hrs) q hq
    · rcases List.mem_cons.mp hrs with rfl | hrs
      · exact hokS q (List.mem_filter.mp hq).1
      · rcases List.mem_cons.mp hrs with rfl | hrs
        · rcases insBs_mem.mp hq with hq | hq
          · exact (n1 q hq).1
          · exact hokT q (List.mem_filter.mp hq).1
        · exact t5 rs (List.mem_append_right _ (List.mem_cons_of_mem _ (List.mem_cons_of_mem _ hrs))) q hq
  · refine eids.nodup_iff.mpr (List.nodup_append.mpr ⟨?_, t6.sublist hidsub, fun a ha b hb hab => ?_⟩)
    · refine List.pairwise_map.mpr (n3.imp (fun {a b} hab => ?_))
      show a.id ≠ b.id
      omega
    · obtain ⟨r, hr, rfl⟩ := List.mem_map.mp ha
      have := (n1 r hr).2.1
      have := t7 b (hidsub.subset hb)
      omega
  · intro i hi
    rcases List.mem_append.mp (eids.mem_iff.mp hi) with hi | hi
    · obtain ⟨r, hr, rfl⟩ := List.mem_map.mp hi
      exact ⟨by have := (n1 r hr).2.1; omega, (n1 r hr).2.2.1⟩
    · have := t7 i (hidsub.subset hi)
      omega
  · intro rs hrs
    cases A with
    | nil =>
      cases hrs
      have := t8 S rfl
      have := List.length_filter_le (fun r => !among ins r.id) S
      show (List.filter (fun r => !among ins r.id) S).length ≤ 1000
      omega
    | cons a A => exact t8 rs hrs
end FIN2
