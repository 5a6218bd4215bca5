/-! THE LAW'S ROWS CHANGE: sync, crash -/
def syQ (r : LrD) : LrD := (r.1, upd r.2 7 (if r.2 5 = zI 0 ∧ r.2 8 = zI 0 then zI 1 else r.2 7))
def crQ (r : LrD) : LrD := (r.1, upd r.2 8 (if r.2 8 = zI 0 ∧ r.2 6 = zI 0 ∧ r.2 7 = zI 0 then zI 1 else r.2 8))
theorem syQ_ok {w : WrD} {r : LrD} (h : LwR w r.2) (hw : WOk w) (hs : w.s ≤ 20) : LwR (synW w) (syQ r).2 := by
  obtain ⟨r0, r1, r2, r3, r4, r5, r6, r7, r8, a1, a2, a3, a4⟩ := h
  have u : ∀ k : Nat, k ≠ 7 → (syQ r).2 k = r.2 k := fun k hk => upd_ne hk
  have u7 : (syQ r).2 7 = if r.2 5 = zI 0 ∧ r.2 8 = zI 0 then zI 1 else r.2 7 := by
    show upd r.2 7 (if r.2 5 = zI 0 ∧ r.2 8 = zI 0 then zI 1 else r.2 7) 7 = _
    exact upd_self
  have hc : (r.2 5 = zI 0 ∧ r.2 8 = zI 0) ↔ (w.s = 0 ∧ w.z ≠ 0) := by
    rw [r5, r8]
    constructor
    · rintro ⟨h1, h2⟩
      refine ⟨zI_inj2 (b := 0) (by omega) (by omega) h1, fun h0 => ?_⟩
      rw [if_pos h0] at h2
      exact absurd h2 (by decide)
    · rintro ⟨h1, h2⟩
      rw [h1, if_neg h2]
      exact ⟨rfl, rfl⟩
  have h12 := hw.2.1
  unfold LwR
  rw [u 0 (by omega), u 1 (by omega), u 2 (by omega), u 3 (by omega), u 4 (by omega), u 5 (by omega), u 6 (by omega), u 8 (by omega), u7]
  have k7 : (if r.2 5 = zI 0 ∧ r.2 8 = zI 0 then zI 1 else r.2 7) = zI 0 ∨ (if r.2 5 = zI 0 ∧ r.2 8 = zI 0 then zI 1 else r.2 7) = zI 1 := by
    split
    · exact .inr rfl
    · exact r7
  unfold synW
  by_cases h1 : w.z = 1
  · rw [if_pos h1]
    have hcc := hc.mpr ⟨h12 (.inl h1), by omega⟩
    refine ⟨r0, r1, r2, r3, r4, r5, r6, k7, ?_, fun q => ?_, fun _ => a2 (.inl h1), fun q => ?_, fun _ => if_pos hcc⟩
    · rw [r8, if_neg (by omega)]
      rfl
    · have q' : (2 : Nat) = 3 := q
      omega
    · have q' : (2 : Nat) = 1 := q
      omega
  · rw [if_neg h1]
    exact ⟨r0, r1, r2, r3, r4, r5, r6, k7, r8, a1, a2, fun q => absurd q h1, fun q => if_pos (hc.mpr ⟨h12 (.inr q), by omega⟩)⟩
theorem crQ_ok {w : WrD} {r : LrD} (h : LwR w r.2) (hz : w.z ≤ 3) : LwR (crW w) (crQ r).2 ∧ ((r.2 8 = zI 0 ∧ r.2 6 = zI 0 ∧ r.2 7 = zI 0) ↔ w.z = 1) := by
  obtain ⟨r0, r1, r2, r3, r4, r5, r6, r7, r8, a1, a2, a3, a4⟩ := h
  have u : ∀ k : Nat, k ≠ 8 → (crQ r).2 k = r.2 k := fun k hk => upd_ne hk
  have u8 : (crQ r).2 8 = if r.2 8 = zI 0 ∧ r.2 6 = zI 0 ∧ r.2 7 = zI 0 then zI 1 else r.2 8 := by
    show upd r.2 8 (if r.2 8 = zI 0 ∧ r.2 6 = zI 0 ∧ r.2 7 = zI 0 then zI 1 else r.2 8) 8 = _
    exact upd_self
  have n10 : ¬ zI 1 = zI 0 := by decide
  have hc : (r.2 8 = zI 0 ∧ r.2 6 = zI 0 ∧ r.2 7 = zI 0) ↔ w.z = 1 := by
    constructor
    · rintro ⟨h1, h2, h3⟩
      have h0 : w.z ≠ 0 := fun h0 => by
        rw [r8, if_pos h0] at h1
        exact n10 h1
      have hn3 : w.z ≠ 3 := fun q => n10 ((a1 q).symm.trans h2)
      have hn2 : w.z ≠ 2 := fun q => n10 ((a4 q).symm.trans h3)
      omega
    · intro h1
      refine ⟨?_, a2 (.inl h1), a3 h1⟩
      rw [r8, if_neg (by omega)]
  refine ⟨?_, hc⟩
  unfold LwR
  rw [u 0 (by omega), u 1 (by omega), u 2 (by omega), u 3 (by omega), u 4 (by omega), u 5 (by omega), u 6 (by omega), u 7 (by omega), u8]
  unfold crW
  by_cases h1 : w.z = 1
  · rw [if_pos h1, if_pos (hc.mpr h1)]
    refine ⟨r0, r1, r2, r3, r4, r5, r6, r7, rfl, fun q => ?_, fun q => ?_, fun q => ?_, fun q => ?_⟩
    · have q' : (0 : Nat) = 3 := q
      omega
    · have q' : (0 : Nat) = 1 ∨ (0 : Nat) = 2 := q
      omega
    · have q' : (0 : Nat) = 1 := q
      omega
    · have q' : (0 : Nat) = 2 := q
      omega
  · rw [if_neg h1, if_neg (fun q => h1 (hc.mp q))]
    exact ⟨r0, r1, r2, r3, r4, r5, r6, r7, r8, a1, a2, a3, a4⟩
