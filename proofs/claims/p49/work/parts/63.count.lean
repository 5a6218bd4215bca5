/-! HOW MUCH LIES IN THE LEVELS -/
def sumK (p : Nat → Nat) : Nat → Nat
  | 0 => 0
  | n + 1 => sumK p n + p n
theorem sumK_add {p q : Nat → Nat} : ∀ {n : Nat}, sumK (fun k => p k + q k) n = sumK p n + sumK q n
  | 0 => rfl
  | n + 1 => by
    simp only [sumK]
    rw [sumK_add]
    omega
theorem sumK_mono {p q : Nat → Nat} : ∀ {n : Nat}, (∀ k, k < n → p k ≤ q k) → sumK p n ≤ sumK q n
  | 0, _ => Nat.le_refl _
  | n + 1, h => by
    have h1 := sumK_mono (n := n) (fun k hk => h k (by omega))
    have h2 := h n (by omega)
    simp only [sumK]
    omega
theorem sumK_ge {p : Nat → Nat} {k : Nat} : ∀ {n : Nat}, k < n → p k ≤ sumK p n
  | 0, h => by omega
  | n + 1, h => by
    simp only [sumK]
    by_cases e : k = n
    · subst e
      omega
    · have := sumK_ge (p := p) (k := k) (n := n) (by omega)
      omega
theorem sumK_zero : ∀ {n : Nat}, sumK (fun _ => 0) n = 0
  | 0 => rfl
  | n + 1 => by
    simp only [sumK]
    rw [sumK_zero]
theorem sub_len {α : Type} [BEq α] [LawfulBEq α] : ∀ {l m : List α}, l.Nodup → (∀ x, x ∈ l → x ∈ m) → l.length ≤ m.length
  | [], _, _, _ => Nat.zero_le _
  | a :: l, m, hn, hs => by
    obtain ⟨h1, h2⟩ := List.nodup_cons.mp hn
    have ha := hs a (List.mem_cons_self ..)
    have h3 : l.length ≤ (m.erase a).length := sub_len h2 (fun x hx => (List.mem_erase_of_ne (fun e => h1 (by rw [← e]; exact hx))).mpr (hs x (List.mem_cons_of_mem _ hx)))
    rw [List.length_erase_of_mem ha] at h3
    have := List.length_pos_of_mem ha
    simp only [List.length_cons]
    omega
/-- the keys below a hundred that a write touches -/
def onK (w : WrD) : Nat := ((List.range 100).filter (fun k => w.on (k : Nat))).length
theorem onK_le {w : WrD} (h : WOk w) : onK w ≤ 4 := by
  obtain ⟨-, -, h1, h2, h3, -⟩ := h
  unfold onK
  have key : ∀ m : List Nat, (∀ k : Nat, w.on k = true → k ∈ m) → ((List.range 100).filter (fun k => w.on (k : Nat))).length ≤ m.length := fun m hm => sub_len (List.Nodup.sublist List.filter_sublist List.nodup_range) (fun x hx => hm x (List.mem_filter.mp hx).2)
  by_cases hs : w.s = 0
  · refine key [w.c.f, w.c.f + 1, w.c.f + 2, w.c.f + 3] (fun k hk => ?_)
    have := on_rg hk
    have h4 : w.c.t ≤ w.c.f + 3 := by
      rcases h1 hs with h | h <;> omega
    simp only [List.mem_cons, List.mem_nil_iff, or_false]
    omega
  · obtain ⟨-, h4, h5⟩ := h2 (by omega)
    refine Nat.le_trans (key [w.c.f, w.c.f + w.s, w.c.f + 2 * w.s] (fun k hk => ?_)) (by simp)
    have hk2 := of_decide_eq_true (show decide _ = true from hk)
    have hr := on_rg hk
    have hm : ((k : Int) - (w.c.f : Int)) % (w.s : Int) = 0 := by
      rcases hk2.2 with h | h
      · omega
      · exact h
    have e : ((k : Int) - (w.c.f : Int)) % (w.s : Int) = (((k - w.c.f) % w.s : Nat) : Int) := by
      rw [Int.natCast_emod, Int.natCast_sub hr.1]
    rw [e] at hm
    have hd := Nat.div_add_mod (k - w.c.f) w.s
    rw [show (k - w.c.f) % w.s = 0 by omega, Nat.add_zero] at hd
    have hq : w.s * ((k - w.c.f) / w.s) ≤ w.s * 2 := by
      rw [hd]
      omega
    have hq2 := Nat.le_of_mul_le_mul_left hq (by omega)
    simp only [List.mem_cons, List.mem_nil_iff, or_false]
    generalize (k - w.c.f) / w.s = q9 at hd hq2
    have h012 : q9 = 0 ∨ q9 = 1 ∨ q9 = 2 := by omega
    rcases h012 with q | q | q <;> rw [q] at hd <;> omega
theorem range_sum {p : Nat → Bool} : ∀ {n : Nat}, ((List.range n).filter p).length = sumK (fun k => if p k then 1 else 0) n
  | 0 => rfl
  | n + 1 => by
    rw [List.range_succ, List.filter_append, List.length_append, range_sum (n := n)]
    simp only [sumK]
    congr 1
    by_cases h : p n = true
    · rw [if_pos h, List.filter_cons_of_pos h]
      rfl
    · rw [if_neg h, List.filter_cons_of_neg h]
      rfl
theorem onK_sum : ∀ {ws : List WrD}, (∀ w, w ∈ ws → WOk w) → sumK (fun k => (ws.filter (fun w => w.on (k : Nat))).length) 100 ≤ 4 * ws.length
  | [], _ => by
    show sumK (fun _ => 0) 100 ≤ _
    rw [sumK_zero]
    omega
  | w :: ws, h => by
    have ih := onK_sum (ws := ws) (fun w hw => h w (List.mem_cons_of_mem _ hw))
    have h1 := onK_le (h w (List.mem_cons_self ..))
    unfold onK at h1
    rw [range_sum] at h1
    have e : sumK (fun k => ((w :: ws).filter (fun w => w.on (k : Nat))).length) 100 ≤ sumK (fun k => (if w.on (k : Nat) then 1 else 0) + (ws.filter (fun w => w.on (k : Nat))).length) 100 := by
      refine sumK_mono (fun k hk => ?_)
      by_cases hw : w.on (k : Nat) = true
      · rw [List.filter_cons_of_pos (p := fun w : WrD => w.on (k : Nat)) hw, if_pos hw, List.length_cons]
        omega
      · rw [List.filter_cons_of_neg (p := fun w : WrD => w.on (k : Nat)) hw, if_neg hw]
        omega
    rw [sumK_add] at e
    simp only [List.length_cons]
    omega
theorem stk_len {Mom : List Nat} {nf g o k : Nat} {rss : List (List RunD)} {ws : List WrD} (h : TI Mom nf g o rss ws) (hk : k < 100) : (stkR rss k).length ≤ (ws.filter (fun w => w.on (k : Nat))).length := by
  have h1 := h.1 k hk
  have h2 := h.2.1 k hk
  have e : ((stkR rss k).map (fun e => e.2.1)).length ≤ ((ws.filter (fun w => w.on (k : Nat))).map (fun w => w.c.n)).length := by
    refine sub_len ?_ (fun x hx => ?_)
    · unfold DscS at h1
      refine List.pairwise_map.mpr (h1.imp (fun {a b} hab => ?_))
      show a.2.1 ≠ b.2.1
      omega
    · obtain ⟨e, he, rfl⟩ := List.mem_map.mp hx
      obtain ⟨w, w1, w2, -, -, w5⟩ := h2 e he
      exact List.mem_map.mpr ⟨w, List.mem_filter.mpr ⟨w1, w5⟩, w2⟩
  rw [List.length_map, List.length_map] at e
  exact e
theorem ovK_sum : ∀ {l : List ChD}, (∀ c, c ∈ l → c.f ≤ c.t ∧ c.f < 100) → l.length ≤ sumK (fun k => (ovK (k : Nat) l).length) 100
  | [], _ => Nat.zero_le _
  | c :: l, h => by
    have ih := ovK_sum (l := l) (fun c hc => h c (List.mem_cons_of_mem _ hc))
    obtain ⟨h1, h2⟩ := h c (List.mem_cons_self ..)
    have e : sumK (fun k => (if c.ov (k : Nat) (k : Nat) then 1 else 0) + (ovK (k : Nat) l).length) 100 ≤ sumK (fun k => (ovK (k : Nat) (c :: l)).length) 100 := by
      refine sumK_mono (fun k hk => ?_)
      unfold ovK
      by_cases hw : c.ov (k : Nat) (k : Nat) = true
      · rw [List.filter_cons_of_pos (p := fun c : ChD => c.ov (k : Nat) (k : Nat)) hw, if_pos hw, List.length_cons]
        omega
      · rw [List.filter_cons_of_neg (p := fun c : ChD => c.ov (k : Nat) (k : Nat)) hw, if_neg hw]
        omega
    rw [sumK_add] at e
    have h3 := sumK_ge (p := fun k => if c.ov (k : Nat) (k : Nat) then 1 else 0) (k := c.f) (n := 100) h2
    have h4 : c.ov (c.f : Nat) (c.f : Nat) = true := decide_eq_true (by omega)
    simp only [h4, if_true] at h3
    simp only [List.length_cons]
    omega
theorem wtS_sum : ∀ {l : List RunD}, (∀ r, r ∈ l → RunOk r ∧ ∀ c, c ∈ r.rows ∨ c ∈ r.spans → c.f < 100) → wtS l ≤ sumK (fun k => (stL l (k : Nat)).length) 100
  | [], _ => Nat.zero_le _
  | r :: l, h => by
    have ih := wtS_sum (l := l) (fun r hr => h r (List.mem_cons_of_mem _ hr))
    obtain ⟨h1, h2⟩ := h r (List.mem_cons_self ..)
    have e1 := @ovK_sum r.rows (fun c hc => ⟨by have := h1.2.1 c hc; omega, h2 c (.inl hc)⟩)
    have e2 := @ovK_sum r.spans (fun c hc => ⟨(h1.2.2.1 c hc).2, h2 c (.inr hc)⟩)
    have e : sumK (fun k => (ovK (k : Nat) r.spans).length + (ovK (k : Nat) r.rows).length + (stL l (k : Nat)).length) 100 ≤ sumK (fun k => (stL (r :: l) (k : Nat)).length) 100 := by
      refine sumK_mono (fun k hk => ?_)
      have h3 := (@rE_perm r (k : Nat)).length_eq
      rw [List.length_map, List.length_append] at h3
      show _ ≤ (stL (r :: l) (k : Nat)).length
      unfold stL
      rw [List.flatMap_cons, List.length_append]
      omega
    rw [sumK_add (p := fun k => (ovK (k : Nat) r.spans).length + (ovK (k : Nat) r.rows).length), sumK_add] at e
    show r.wt + wtS l ≤ _
    unfold RunD.wt
    omega
/-- what lies in all levels of a family is at most four times the writes -/
theorem TI.wt {Mom : List Nat} {nf g o : Nat} {rss : List (List RunD)} {ws : List WrD} (h : TI Mom nf g o rss ws) (hW : ∀ w, w ∈ ws → WOk w) : sumK (fun k => (stkR rss (k : Nat)).length) 100 ≤ 4 * ws.length :=
  Nat.le_trans (sumK_mono (fun k hk => stk_len h hk)) (onK_sum hW)
theorem stL_le {rss : List (List RunD)} {rs : List RunD} {k : Int} (h : rs ∈ rss) : (stL rs k).length ≤ (stkR rss k).length := by
  obtain ⟨a, b, rfl⟩ := List.append_of_mem h
  unfold stkR
  rw [List.flatMap_append, List.flatMap_cons, List.length_append, List.length_append]
  omega
theorem TI.wtL {Mom : List Nat} {nf g o : Nat} {rss : List (List RunD)} {ws : List WrD} {rs : List RunD} (h : TI Mom nf g o rss ws) (hW : ∀ w, w ∈ ws → WOk w) (hrs : rs ∈ rss) (hc : ∀ r, r ∈ rs → ∀ c, c ∈ r.rows ∨ c ∈ r.spans → c.f < 100) : wtS rs ≤ 4 * ws.length ∧ rs.length ≤ 4 * ws.length := by
  have h1 := @wtS_sum rs (fun r hr => ⟨h.2.2.2.2.1 rs hrs r hr, hc r hr⟩)
  have h2 := h.wt hW
  have h3 : sumK (fun k => (stL rs (k : Nat)).length) 100 ≤ sumK (fun k => (stkR rss (k : Nat)).length) 100 := sumK_mono (fun k _ => stL_le hrs)
  have h4 : ∀ l : List RunD, (∀ r, r ∈ l → RunOk r) → l.length ≤ wtS l := by
    intro l
    induction l with
    | nil => intro _; exact Nat.le_refl _
    | cons r l ih =>
      intro hl
      have a1 := ih (fun r hr => hl r (List.mem_cons_of_mem _ hr))
      have a2 := (hl r (List.mem_cons_self ..)).2.2.2.1
      show l.length + 1 ≤ r.wt + wtS l
      omega
  have h5 := h4 rs (fun r hr => h.2.2.2.2.1 rs hrs r hr)
  omega
