/-! THE LAW LOOKS AT THE RUNS OF A LEVEL -/
section AR
variable {sc : gSc} {d : Nat} {A : gA} {F : Nat → Option vC} {L : List (Nat × vC)} {o : Nat} {f : Ls FamD} {w : Ls WrD} {s : Ls SnD} {c : Ls CuD} {b : Ls BkD} {fi : Nat × FiD} {y : Ls ChD} {me : Option MeD} {ct : CtD} {g : FamD} {l : LvD} {r : RunD} {i j m k : Nat} {x z : Int}
theorem c10_k {Q : gO → gA → Prop} (hO : okO A F L o f w s c b fi y me ct) (hi : i ≤ 3) (hg : f.2.2[i]? = some g) (hj : j ≤ 3) (hl : g.lv[j]? = some l) (hok : ∀ r, r ∈ l.rs → RunOk r ∧ 0 < r.id ∧ okRun F r) (hris : 0 < j → Ris l.rs) (hlen : l.rs.length ≤ 480) (hw : wtS l.rs ≤ 480) (hQ : ∀ (last : Int) (x8 x9 x10 x11 : Option Value), Wv sc 9 10 184 [some (.ref o), some (.int (zI i)), some (.int (zI 1)), some (.int (zI j)), some (.int (zI l.rs.length)), some (.int (zI (wtS l.rs))), some (.int (zI last)), some (.int (zI l.rs.length)), x8, x9, x10, x11] [] A Q) :
    ∀ (m k sz : Nat) (last : Int) (x8 x9 x10 x11 : Option Value), k + m = l.rs.length → sz + wtS (l.rs.drop k) = wtS l.rs → (-1 ≤ last ∧ last ≤ 100) → (0 < j → ∀ r, l.rs[k]? = some r → last < r.least) → Wv sc 9 10 51 [some (.ref o), some (.int (zI i)), some (.int (zI 1)), some (.int (zI j)), some (.int (zI l.rs.length)), some (.int (zI sz)), some (.int (zI last)), some (.int (zI k)), x8, x9, x10, x11] [] A Q
  | 0, k, sz, last, x8, x9, x10, x11, hk, hsz, hla, hri => by
    have e : k = l.rs.length := by omega
    have e2 : l.rs.drop k = [] := List.drop_of_length_le (by omega)
    rw [e2] at hsz
    have e3 : sz = wtS l.rs := hsz
    rw [e, e3]
    refine wv_s f10_51 rfl (fun _ => rfl) ?_
    refine wv_s f10_53 rfl (fun _ => rfl) ?_
    refine wv_cT_ge f10_55 (by omega) (by omega) (by omega) ?_
    exact hQ last x8 x9 x10 x11
  | m + 1, k, sz, last, x8, x9, x10, x11, hk, hsz, hla, hri => by
    obtain ⟨r, hrm, hr, -, hrd, -⟩ := at_i (l := l.rs) (i := k) (by omega)
    obtain ⟨h1, h2, h3⟩ := hok r hrm
    have hob := hO.ob
    have hlg := h1.lg
    have hwt : r.wt ≤ 480 := Nat.le_trans (wt_le hrm) hw
    have hid := h3.2.2.2.2.2.2
    have hpos := h1.2.2.2.1
    have hrg : 0 ≤ r.least ∧ r.great ≤ 99 := run_in (by omega) (by omega) (fun c hc => by
      have := h3.c100 c hc
      omega)
    have q8 : Wc sc 8 8 [.ref o, .int (zI 8), .int (zI i), .int (zI j), .int (zI k), .int (zI 0)] A (fun v A' => v = .inl (some (.int (zI r.least))) ∧ A' = A) := aV_8 hob rfl (c27 (p := false) hO hg hl hr)
    have q9 : Wc sc 8 8 [.ref o, .int (zI 9), .int (zI i), .int (zI j), .int (zI k), .int (zI 0)] A (fun v A' => v = .inl (some (.int (zI r.great))) ∧ A' = A) := aV_9 hob rfl (c27 (p := true) hO hg hl hr)
    have q6 : Wc sc 8 8 [.ref o, .int (zI 6), .int (zI i), .int (zI j), .int (zI k), .int (zI 0)] A (fun v A' => v = .inl (some (.int (zI r.rows.length))) ∧ A' = A) := aV_6 hob rfl (c45 hO hg hl hr)
    have q7 : Wc sc 8 8 [.ref o, .int (zI 7), .int (zI i), .int (zI j), .int (zI k), .int (zI 0)] A (fun v A' => v = .inl (some (.int (zI r.spans.length))) ∧ A' = A) := aV_7 hob rfl (c86 hO hg hl hr)
    have q5 : Wc sc 8 8 [.ref o, .int (zI 5), .int (zI i), .int (zI j), .int (zI k), .int (zI 0)] A (fun v A' => v = .inl (some (.int (zI r.id))) ∧ A' = A) := aV_5 hob rfl (c48 hO hg hl hr)
    unfold RunD.wt at hpos hwt
    rw [hrd] at hsz
    have hsz2 : sz + (r.wt + wtS (l.rs.drop (k + 1))) = wtS l.rs := hsz
    unfold RunD.wt at hsz2
    have nxt : Wv sc 9 10 145 [some (.ref o), some (.int (zI i)), some (.int (zI 1)), some (.int (zI j)), some (.int (zI l.rs.length)), some (.int (zI sz)), some (.int (zI last)), some (.int (zI k)), some (.int (zI r.least)), some (.int (zI r.great)), some (.int (zI r.rows.length)), some (.int (zI r.spans.length))] [] A Q := by
      have ih := c10_k hO hi hg hj hl hok hris hlen hw hQ m (k + 1) (sz + (r.rows.length + r.spans.length)) r.great (some (.int (zI r.least))) (some (.int (zI r.great))) (some (.int (zI r.rows.length))) (some (.int (zI r.spans.length))) (by omega) (by omega) (by omega) (fun h0 q hq => by
        have hp := List.pairwise_iff_getElem.mp (hris h0)
        obtain ⟨b1, rfl⟩ := List.getElem?_eq_some_iff.mp hr
        obtain ⟨b2, rfl⟩ := List.getElem?_eq_some_iff.mp hq
        exact hp k (k + 1) b1 b2 (by omega))
      refine wv_s f10_145 rfl (fun _ => rfl) ?_
      refine wv_icon f10_146 ?_
      refine wv_s f10_147 rfl (fun _ => rfl) ?_
      refine wv_s f10_148 rfl (fun _ => rfl) ?_
      refine wv_s f10_149 rfl (fun _ => rfl) ?_
      refine wv_icon f10_151 ?_
      refine wv_valS f10_152 (by decide) (by simp) (by simp) (by decide +kernel) (q5) (by omega) ?_
      refine wv_zF_le f10_155 (by omega) (by omega) ?_
      refine wv_icon f10_158 ?_
      refine wv_s (pc' := 163) f10_159 rfl (fun _ => rfl) ?_
      refine wv_st2 f10_163 rfl (fun _ _ => rfl) ?_
      refine wv_s f10_164 rfl (fun _ => rfl) ?_
      refine wv_st6 f10_166 rfl (fun _ _ => rfl) ?_
      refine wv_s f10_168 rfl (fun _ => rfl) ?_
      refine wv_s f10_170 rfl (fun _ => rfl) ?_
      refine wv_s f10_172 rfl (fun _ => rfl) ?_
      refine wv_iadd f10_174 ?_
      refine wv_iadd f10_175 ?_
      refine wv_st5 f10_176 rfl (fun _ _ => rfl) ?_
      refine wv_inc7 f10_178 ?_
      refine wv_s (pc' := 51) f10_181 rfl (fun _ => rfl) ?_
      exact ih
    refine wv_s f10_51 rfl (fun _ => rfl) ?_
    refine wv_s f10_53 rfl (fun _ => rfl) ?_
    refine wv_cF_ge f10_55 (by omega) (by omega) (by omega) ?_
    refine wv_s f10_58 rfl (fun _ => rfl) ?_
    refine wv_zF_eq f10_59 (by omega) (by omega) ?_
    refine wv_s f10_62 rfl (fun _ => rfl) ?_
    refine wv_bip f10_63 (by decide) ?_
    refine wv_s f10_65 rfl (fun _ => rfl) ?_
    refine wv_s f10_66 rfl (fun _ => rfl) ?_
    refine wv_s f10_67 rfl (fun _ => rfl) ?_
    refine wv_icon f10_69 ?_
    refine wv_valS f10_70 (by decide) (by simp) (by simp) (by decide +kernel) (q8) (by omega) ?_
    refine wv_st8 f10_73 rfl (fun _ _ => rfl) ?_
    refine wv_s f10_75 rfl (fun _ => rfl) ?_
    refine wv_bip f10_76 (by decide) ?_
    refine wv_s f10_78 rfl (fun _ => rfl) ?_
    refine wv_s f10_79 rfl (fun _ => rfl) ?_
    refine wv_s f10_80 rfl (fun _ => rfl) ?_
    refine wv_icon f10_82 ?_
    refine wv_valS f10_83 (by decide) (by simp) (by simp) (by decide +kernel) (q9) (by omega) ?_
    refine wv_st9 f10_86 rfl (fun _ _ => rfl) ?_
    refine wv_s f10_88 rfl (fun _ => rfl) ?_
    refine wv_bip f10_89 (by decide) ?_
    refine wv_s f10_91 rfl (fun _ => rfl) ?_
    refine wv_s f10_92 rfl (fun _ => rfl) ?_
    refine wv_s f10_93 rfl (fun _ => rfl) ?_
    refine wv_icon f10_95 ?_
    refine wv_valS f10_96 (by decide) (by simp) (by simp) (by decide +kernel) (q6) (by omega) ?_
    refine wv_st10 f10_99 rfl (fun _ _ => rfl) ?_
    refine wv_s f10_101 rfl (fun _ => rfl) ?_
    refine wv_bip f10_102 (by decide) ?_
    refine wv_s f10_104 rfl (fun _ => rfl) ?_
    refine wv_s f10_105 rfl (fun _ => rfl) ?_
    refine wv_s f10_106 rfl (fun _ => rfl) ?_
    refine wv_icon f10_108 ?_
    refine wv_valS f10_109 (by decide) (by simp) (by simp) (by decide +kernel) (q7) (by omega) ?_
    refine wv_st11 f10_112 rfl (fun _ _ => rfl) ?_
    refine wv_s f10_114 rfl (fun _ => rfl) ?_
    refine wv_zF_lt f10_116 (by omega) (by omega) ?_
    refine wv_s f10_119 rfl (fun _ => rfl) ?_
    refine wv_s f10_121 rfl (fun _ => rfl) ?_
    refine wv_cF_gt f10_123 (by omega) (by omega) (by omega) ?_
    refine wv_s f10_126 rfl (fun _ => rfl) ?_
    refine wv_s f10_128 rfl (fun _ => rfl) ?_
    refine wv_iadd f10_130 ?_
    refine wv_zF_le f10_131 (by omega) (by omega) ?_
    refine wv_s f10_134 rfl (fun _ => rfl) ?_
    refine wv_zX_eq f10_135 (by omega) (fun hb => ?_) (fun hb => ?_)
    · exact nxt
    · refine wv_s f10_138 rfl (fun _ => rfl) ?_
      refine wv_s f10_140 rfl (fun _ => rfl) ?_
      have := hri (by omega) r hr
      refine wv_cF_le f10_142 (by omega) (by omega) (by omega) ?_
      exact nxt
end AR
