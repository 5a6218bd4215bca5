/-! THE VIEW: a heap as the class's code sees it: a list is one thing (its room, its elements), the row behind it is hidden. 'gA': the view, cells made, slots made. -/
theorem cAL_e {md md' : Int32} {e e' : Value} {n n' : Nat} (h : cAL md e n = cAL md' e' n') : e = e' :=
  congrArg (fun x : gC => match x with | .inl (_, [_, e, _]) => e | _ => .null) h
abbrev vC : Type := gC ⊕ Option (Nat × List Nat)
abbrev gA : Type := (Nat → Option vC) × Nat × Nat
def vO (c : Nat) (fs : List Value) : vC := .inl (.inl (c, fs))
def vN (ty : FieldType) (k : Nat) (f : Nat → Int32) : vC := .inl (.inr (.inl (ty, k, f)))
def vR (ty : FieldType) (k : Nat) (f : Nat → Option Nat) : vC := .inl (.inr (.inr (ty, k, f)))
def vL (c : Nat) (xs : List Nat) : vC := .inr (some (c, xs))
def vW : vC := .inr none
def vReal : vC → Option gC
  | .inl x => some x
  | .inr none => some cAL0
  | .inr (some _) => none
def vCls : vC → Option Nat
  | .inl (.inl (c, _)) => some c
  | .inl (.inr _) => none
  | .inr _ => some 0
def gEl (h : gH) (q : Nat) : Prop := ∃ z, gGet h q = some (.inl z) ∧ gMay (.object "java/lang/Object") (.inl z) = true
def vOkL (h : gH) (V : Nat → Option vC) (q c : Nat) (xs : List Nat) : Prop := c ≤ 4000 ∧ xs.length ≤ c ∧ (∀ x, x ∈ xs → gEl h x) ∧ ∃ md e, gGet h q = some (cAL md e xs.length) ∧ lRow h e c xs ∧ ∀ b, e = .ref b → V b = none
def Rp (h : gH) (A : gA) : Prop := (∀ q c x, A.1 q = some c → vReal c = some x → gGet h q = some x) ∧ (∀ q c xs, A.1 q = some (vL c xs) → vOkL h A.1 q c xs) ∧
  (∀ q q' c c' xs xs' md md' b k k', A.1 q = some (vL c xs) → A.1 q' = some (vL c' xs') → gGet h q = some (cAL md (.ref b) k) → gGet h q' = some (cAL md' (.ref b) k') → q = q') ∧ h.1 = A.2.1 ∧ h.2.1 = A.2.2
def aPut (A : gA) (r : Nat) (c : vC) : gA := (fun q => if q = r then some c else A.1 q, A.2)
def aLst (A : gA) (r : Nat) (c : vC) (kc ks : Nat) : gA := (fun q => if q = r then some c else A.1 q, A.2.1 + kc, A.2.2 + ks)
def aNew (A : gA) (r : Nat) (c : vC) (n : Nat) : gA := aLst A r c 1 n
theorem vC_cases (c : vC) : (∃ x, vReal c = some x) ∨ ∃ k xs, c = vL k xs := by
  rcases c with x | (_ | ⟨k, xs⟩)
  · exact .inl ⟨x, rfl⟩
  · exact .inl ⟨cAL0, rfl⟩
  · exact .inr ⟨k, xs, rfl⟩
theorem vL_inj {c c' : Nat} {xs xs' : List Nat} (h : vL c xs = vL c' xs') : c = c' ∧ xs = xs' := by
  cases h
  exact ⟨rfl, rfl⟩
theorem Rp.real {h : gH} {A : gA} {q : Nat} {c : vC} {x : gC} (hR : Rp h A) (hq : A.1 q = some c) (hr : vReal c = some x) : gGet h q = some x := hR.1 q c x hq hr
theorem Rp.lis {h : gH} {A : gA} {q c : Nat} {xs : List Nat} (hR : Rp h A) (hq : A.1 q = some (vL c xs)) : vOkL h A.1 q c xs := hR.2.1 q c xs hq
theorem Rp.sm {h : gH} {A : gA} {q : Nat} {c : vC} (hR : Rp h A) (hq : A.1 q = some c) : ∃ x, gGet h q = some x := by
  rcases vC_cases c with ⟨x, hx⟩ | ⟨k, xs, rfl⟩
  · exact ⟨x, hR.real hq hx⟩
  · obtain ⟨-, -, -, md, e, hg, -⟩ := hR.lis hq
    exact ⟨_, hg⟩
theorem Rp.fresh {h : gH} {A : gA} (hR : Rp h A) : A.1 h.2.2.length = none := by
  cases hA : A.1 h.2.2.length with
  | none => rfl
  | some c =>
    obtain ⟨x, hx⟩ := hR.sm hA
    exact absurd (gGet_lt hx) (Nat.lt_irrefl _)
/-- how a list's room grows, and what that costs -/
def lg (c n c' kc ks : Nat) : Prop := c ≤ c' ∧ 5 * kc + c ≤ c' ∧ ks + 4 * c ≤ 4 * c' ∧ (c' ≤ c ∨ c' ≤ 10 + 2 * n)
theorem gMay_cls {ty : FieldType} {z z' : Nat × List Value} (h1 : z.1 = z'.1) (h2 : gMay ty (.inl z) = true) : gMay ty (.inl z') = true := by
  obtain ⟨a, b⟩ := z
  obtain ⟨a', b'⟩ := z'
  cases h1
  cases ty with
  | object C => exact h2
  | array t =>
    cases t <;> first | exact h2 | (simp only [gMay] at h2; cases h2)
  | _ => simp only [gMay] at h2; cases h2
/-- one cell is another, of the same kind -/
theorem Rp.put {h h' : gH} {A : gA} {r : Nat} {c0 c : vC} {x0 x : gC} (hR : Rp h A) (h0 : A.1 r = some c0) (hc0 : vReal c0 = some x0) (hc : vReal c = some x) (hk : ∀ z, x0 = .inl z → ∃ z', x = .inl z' ∧ z'.1 = z.1)
    (hr : gGet h' r = some x) (hne : ∀ q, q ≠ r → gGet h' q = gGet h q) (h1 : h'.1 = h.1) (h2 : h'.2.1 = h.2.1) : Rp h' (aPut A r c) := by
  have hx0 : gGet h r = some x0 := hR.real h0 hc0
  have hel : ∀ q, gEl h q → gEl h' q := by
    rintro q ⟨z, hz, hm⟩
    by_cases hq : q = r
    · subst hq
      rw [hx0] at hz
      cases hz
      obtain ⟨z', rfl, hz'⟩ := hk z rfl
      exact ⟨z', hr, gMay_cls hz'.symm hm⟩
    · exact ⟨z, by rw [hne q hq]; exact hz, hm⟩
  have hl1 : ∀ c9 xs, ¬ c = vL c9 xs := by
    rintro c9 xs rfl
    cases hc
  refine ⟨fun q c9 x9 hq hx9 => ?_, fun q c9 xs hq => ?_, fun q q' c9 c9' xs xs' md md' b k k' g1 g2 g3 g4 => ?_, h1.trans hR.2.2.2.1, h2.trans hR.2.2.2.2⟩
  · by_cases hqr : q = r
    · subst hqr
      simp only [aPut, if_true] at hq
      cases hq
      rw [hc] at hx9
      cases hx9
      exact hr
    · simp only [aPut, if_neg hqr] at hq
      rw [hne q hqr]
      exact hR.real hq hx9
  · have hqr : q ≠ r := by
      rintro rfl
      simp only [aPut, if_true] at hq
      exact hl1 _ _ (Option.some.inj hq)
    simp only [aPut, if_neg hqr] at hq
    obtain ⟨v1, v2, v3, md, e, v4, v5, v6⟩ := hR.lis hq
    refine ⟨v1, v2, fun y hy => hel y (v3 y hy), md, e, by rw [hne q hqr]; exact v4, ?_, fun b hb => ?_⟩
    · rcases v5 with v5 | ⟨v5, b, rfl, v7⟩
      · exact .inl v5
      · refine .inr ⟨v5, b, rfl, ?_⟩
        rw [hne b (by
          rintro rfl
          have := v6 b rfl
          rw [h0] at this
          cases this)]
        exact v7
    · have h9 := v6 b hb
      simp only [aPut]
      rw [if_neg (by
        rintro rfl
        rw [h0] at h9
        cases h9)]
      exact h9
  · have a1 : q ≠ r := by
      rintro rfl
      simp only [aPut, if_true] at g1
      exact hl1 _ _ (Option.some.inj g1)
    have a2 : q' ≠ r := by
      rintro rfl
      simp only [aPut, if_true] at g2
      exact hl1 _ _ (Option.some.inj g2)
    simp only [aPut, if_neg a1] at g1
    simp only [aPut, if_neg a2] at g2
    rw [hne q a1] at g3
    rw [hne q' a2] at g4
    exact hR.2.2.1 q q' c9 c9' xs xs' md md' b k k' g1 g2 g3 g4
theorem Rp.new {h : gH} {A : gA} {n : Nat} {c : vC} {x : gC} (hR : Rp h A) (hc : vReal c = some x) : Rp (gNew h n x) (aNew A h.2.2.length c n) := by
  have hne : ∀ q, q ≠ h.2.2.length → gGet (gNew h n x) q = gGet h q := fun q hq => by rw [gGet_new, if_neg hq]
  have hne2 : ∀ q y, gGet h q = some y → gGet (gNew h n x) q = some y := fun q y hy => by
    rw [hne q (Nat.ne_of_lt (gGet_lt hy))]
    exact hy
  have hl1 : ∀ c9 xs, ¬ c = vL c9 xs := by
    rintro c9 xs rfl
    cases hc
  refine ⟨fun q c9 x9 hq hx9 => ?_, fun q c9 xs hq => ?_, fun q q' c9 c9' xs xs' md md' b k k' g1 g2 g3 g4 => ?_, congrArg (· + 1) hR.2.2.2.1, congrArg (· + n) hR.2.2.2.2⟩
  · by_cases hqr : q = h.2.2.length
    · subst hqr
      simp only [aNew, aLst, if_true] at hq
      cases hq
      rw [hc] at hx9
      cases hx9
      rw [gGet_new, if_pos rfl]
    · simp only [aNew, aLst, if_neg hqr] at hq
      rw [hne q hqr]
      exact hR.real hq hx9
  · have hqr : q ≠ h.2.2.length := by
      rintro rfl
      simp only [aNew, aLst, if_true] at hq
      exact hl1 _ _ (Option.some.inj hq)
    simp only [aNew, aLst, if_neg hqr] at hq
    obtain ⟨v1, v2, v3, md, e, v4, v5, v6⟩ := hR.lis hq
    refine ⟨v1, v2, fun y hy => ?_, md, e, hne2 _ _ v4, ?_, fun b hb => ?_⟩
    · obtain ⟨z, hz, hm⟩ := v3 y hy
      exact ⟨z, hne2 _ _ hz, hm⟩
    · rcases v5 with v5 | ⟨v5, b, rfl, v7⟩
      · exact .inl v5
      · exact .inr ⟨v5, b, rfl, hne2 _ _ v7⟩
    · have h9 := v6 b hb
      simp only [aNew, aLst]
      rw [if_neg (by
        subst hb
        rcases v5 with ⟨v5, -⟩ | ⟨v5, b2, v8, v7⟩
        · cases v5
        · cases v8
          exact Nat.ne_of_lt (gGet_lt v7))]
      exact h9
  · have a1 : q ≠ h.2.2.length := by
      rintro rfl
      simp only [aNew, aLst, if_true] at g1
      exact hl1 _ _ (Option.some.inj g1)
    have a2 : q' ≠ h.2.2.length := by
      rintro rfl
      simp only [aNew, aLst, if_true] at g2
      exact hl1 _ _ (Option.some.inj g2)
    simp only [aNew, aLst, if_neg a1] at g1
    simp only [aNew, aLst, if_neg a2] at g2
    rw [hne q a1] at g3
    rw [hne q' a2] at g4
    exact hR.2.2.1 q q' c9 c9' xs xs' md md' b k k' g1 g2 g3 g4
/-- a list is another one -/
theorem Rp.lst {h h' : gH} {A : gA} {r : Nat} {c0 : vC} {x0 : gC} {e : Value} {c' : Nat} {xs' : List Nat} {kc ks : Nat} (hR : Rp h A) (h0 : A.1 r = some c0) (hx0 : gGet h r = some x0) (hx0n : ¬ gMay (.object "java/lang/Object") x0 = true)
    (hown : ∀ b, e = .ref b → A.1 b = none ∧ (∀ z, gGet h b ≠ some (.inl z)) ∧ ∀ q c xs md k, A.1 q = some (vL c xs) → gGet h q = some (cAL md (.ref b) k) → q = r)
    (hc' : c' ≤ 4000) (hels : ∀ x, x ∈ xs' → gEl h x) (hl : lRes h h' r e c' xs' kc ks) : Rp h' (aLst A r (vL c' xs') kc ks) := by
  obtain ⟨md', e', h1, h2, h3, h4, h5, h6⟩ := hl
  have hfr := hR.fresh
  have hrl := gGet_lt hx0
  have hb1 : ∀ b, e' = .ref b → A.1 b = none ∧ (∀ z, gGet h b ≠ some (.inl z)) ∧ b ≠ r := by
    intro b hb
    rcases h1 with h1 | h1
    · obtain ⟨w1, w2, -⟩ := hown b (h1.symm.trans hb)
      exact ⟨w1, w2, by rintro rfl; rw [h0] at w1; cases w1⟩
    · rw [h1] at hb
      cases hb
      exact ⟨hfr, fun z hz => absurd (gGet_lt hz) (Nat.lt_irrefl _), Ne.symm (Nat.ne_of_lt hrl)⟩
  have hvis : ∀ q c, A.1 q = some c → q ≠ r → gGet h' q = gGet h q := by
    intro q c hq hqr
    rw [h4, if_neg hqr, if_neg (fun w => by
      have := (hb1 q w).1
      rw [hq] at this
      cases this)]
  have hel : ∀ q, gEl h q → gEl h' q := by
    rintro q ⟨z, hz, hm⟩
    have hqr : q ≠ r := by
      rintro rfl
      rw [hx0] at hz
      cases hz
      exact hx0n hm
    refine ⟨z, ?_, hm⟩
    rw [h4, if_neg hqr, if_neg (fun w => (hb1 q w).2.1 z hz)]
    exact hz
  refine ⟨fun q c9 x9 hq hx9 => ?_, fun q c9 xs hq => ?_, fun q q' c9 c9' xs xs9 md9 md9' b k k' g1 g2 g3 g4 => ?_, h5.trans (congrArg (· + kc) hR.2.2.2.1), h6.trans (congrArg (· + ks) hR.2.2.2.2)⟩
  · by_cases hqr : q = r
    · subst hqr
      simp only [aLst, if_true] at hq
      cases hq
      cases hx9
    · simp only [aLst, if_neg hqr] at hq
      rw [hvis q c9 hq hqr]
      exact hR.real hq hx9
  · by_cases hqr : q = r
    · subst hqr
      simp only [aLst, if_true] at hq
      obtain ⟨rfl, rfl⟩ := vL_inj (Option.some.inj hq)
      refine ⟨hc', h2, fun x hx => hel x (hels x hx), md', e', by rw [h4, if_pos rfl], ?_, fun b hb => ?_⟩
      · rcases h3 with h3 | ⟨h3, b, hb⟩
        · exact .inl h3
        · refine .inr ⟨h3, b, hb, ?_⟩
          rw [h4, if_neg (hb1 b hb).2.2, if_pos hb]
      · simp only [aLst]
        rw [if_neg (hb1 b hb).2.2]
        exact (hb1 b hb).1
    · simp only [aLst, if_neg hqr] at hq
      have hg := hvis q _ hq hqr
      obtain ⟨v1, v2, v3, md1, e1, v4, v5, v6⟩ := hR.lis hq
      refine ⟨v1, v2, fun y hy => hel y (v3 y hy), md1, e1, by rw [hg]; exact v4, ?_, fun b hb => ?_⟩
      · rcases v5 with v5 | ⟨v5, b, rfl, v7⟩
        · exact .inl v5
        · refine .inr ⟨v5, b, rfl, ?_⟩
          have hbr : b ≠ r := by
            rintro rfl
            have := v6 b rfl
            rw [h0] at this
            cases this
          rw [h4, if_neg hbr, if_neg (fun w => by
            rcases h1 with h1 | h1
            · exact hqr ((hown b (h1.symm.trans w)).2.2 q c9 xs md1 _ hq v4)
            · rw [h1] at w
              cases w
              exact absurd (gGet_lt v7) (Nat.lt_irrefl _))]
          exact v7
      · have h9 := v6 b hb
        simp only [aLst]
        rw [if_neg (by
          rintro rfl
          rw [h0] at h9
          cases h9)]
        exact h9
  · have key : ∀ p cp xp mdp kp, p ≠ r → A.1 p = some (vL cp xp) → gGet h' p = some (cAL mdp (.ref b) kp) → gGet h' r = some (cAL md' e' xs'.length) → e' = .ref b → p = r := by
      intro p cp xp mdp kp hpr hp hgp hgr heb
      rw [hvis p _ hp hpr] at hgp
      rcases h1 with h1 | h1
      · exact (hown b (h1.symm.trans heb)).2.2 p cp xp mdp kp hp hgp
      · rw [h1] at heb
        cases heb
        obtain ⟨-, -, -, md1, e1, v4, v5, v6⟩ := hR.lis hp
        rw [hgp] at v4
        have v9 := cAL_e (Option.some.inj v4)
        subst v9
        rcases v5 with ⟨v5, -⟩ | ⟨-, b2, v8, v7⟩
        · cases v5
        · cases v8
          exact absurd (gGet_lt v7) (Nat.lt_irrefl _)
    have hr' : gGet h' r = some (cAL md' e' xs'.length) := by rw [h4, if_pos rfl]
    by_cases a1 : q = r
    · by_cases a2 : q' = r
      · rw [a1, a2]
      · subst a1
        simp only [aLst, if_neg a2] at g2
        rw [hr'] at g3
        have : e' = .ref b := cAL_e (Option.some.inj g3)
        exact absurd (key q' _ _ _ _ a2 g2 g4 hr' this) a2
    · by_cases a2 : q' = r
      · subst a2
        simp only [aLst, if_neg a1] at g1
        rw [hr'] at g4
        have : e' = .ref b := cAL_e (Option.some.inj g4)
        exact absurd (key q _ _ _ _ a1 g1 g3 hr' this) a1
      · simp only [aLst, if_neg a1] at g1
        simp only [aLst, if_neg a2] at g2
        rw [hvis q _ g1 a1] at g3
        rw [hvis q' _ g2 a2] at g4
        exact hR.2.2.1 q q' c9 c9' xs xs9 md9 md9' b k k' g1 g2 g3 g4
