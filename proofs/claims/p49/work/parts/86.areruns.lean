/-! THE LAW LOOKS AT ALL RUNS -/
section AR2
variable {sc : gSc} {d : Nat} {A : gA} {F : Nat → Option vC} {L : List (Nat × vC)} {o : Nat} {f : Ls FamD} {w : Ls WrD} {s : Ls SnD} {c : Ls CuD} {b : Ls BkD} {fi : Nat × FiD} {y : Ls ChD} {me : Option MeD} {ct : CtD} {g : FamD} {l : LvD} {r : RunD} {i j m k : Nat} {x z : Int}
theorem c180 {X : UInt32} (h : FP.fcmp X X = some .eq) : Wc sc 0 180 [.float X] A (fun v A' => v = .inl (some (.int (bI false))) ∧ A' = A) := by
  show Wv sc 0 180 0 [some (.float X)] [] A _
  refine wv_s f180_0 rfl (fun _ => rfl) ?_
  refine wv_s f180_1 rfl (fun _ => rfl) ?_
  refine wv_s f180_2 rfl (fun _ => rfl) ?_
  rw [h]
  refine wv_zT_eq (x := 0) f180_3 (by omega) rfl ?_
  refine wv_icon f180_10 ?_
  exact wv_iretB (p := false) f180_11 (by decide +kernel) ⟨rfl, rfl⟩
theorem c179 {X : UInt32} (h : FP.fcmp X X = some .eq) : Wc sc 1 179 [.float X] A (fun v A' => v = .inl (some (.int X.toInt32)) ∧ A' = A) := by
  show Wv sc 1 179 0 [some (.float X)] [] A _
  refine wv_s f179_0 rfl (fun _ => rfl) ?_
  refine wv_valS f179_1 (by decide) (by simp) (by simp) (by decide +kernel) (c180 h) (by omega) ?_
  refine wv_nF f179_4 rfl ?_
  refine wv_s f179_7 rfl (fun _ => rfl) ?_
  refine wv_bits f179_8 (by simp) ?_
  exact wv_iret f179_11 (by rfl) (⟨rfl, rfl⟩)
/-- the debt, as the law reckons it -/
theorem c10_f {Q : gO → gA → Prop} {x1 x2 x6 x7 x8 x9 x10 x11 : Option Value} {v0 : Option Value} (hj : j ≤ 3) (hn : dM j l < 490) (hQ : Wv sc 9 10 226 [v0, x1, x2, some (.int (zI j)), some (.int (zI l.rs.length)), some (.int (zI (wtS l.rs))), x6, x7, x8, x9, x10, x11] [.float (dF j (dM j l))] A Q) : Wv sc 9 10 184 [v0, x1, x2, some (.int (zI j)), some (.int (zI l.rs.length)), some (.int (zI (wtS l.rs))), x6, x7, x8, x9, x10, x11] [] A Q := by
  have hd := (dF_ok hj hn).1
  have hnn := of_decide_eq_true (show decide _ = true from hd)
  match j, hj with
  | 0, _ =>
    have e : dM 0 l = l.rs.length := rfl
    rw [e] at hnn hQ
    refine wv_s f10_184 rfl (fun _ => rfl) ?_
    refine wv_zF_ne f10_185 (by omega) (by omega) ?_
    refine wv_s f10_188 rfl (fun _ => rfl) ?_
    refine wv_s f10_190 rfl (fun _ => rfl) ?_
    refine wv_s f10_191 rfl (fun _ => rfl) ?_
    refine wv_s f10_193 rfl (fun h => by simp only [gStep]; rw [if_pos (show FP.fdiv (FP.i2f (zI l.rs.length)) (UInt32.ofNat 1077936128) &&& 0x7fffffff ≤ 0x7f800000 from hnn)]) ?_
    refine wv_s (pc' := 226) f10_194 rfl (fun _ => rfl) ?_
    exact hQ
  | 1, _ =>
    have e : dM 1 l = wtS l.rs := rfl
    rw [e] at hnn hQ
    refine wv_s f10_184 rfl (fun _ => rfl) ?_
    refine wv_zT_ne f10_185 (by omega) (by omega) ?_
    refine wv_s f10_197 rfl (fun _ => rfl) ?_
    refine wv_icon f10_198 ?_
    refine wv_cF_ne f10_199 (by omega) (by omega) (by omega) ?_
    refine wv_s f10_202 rfl (fun _ => rfl) ?_
    refine wv_s f10_204 rfl (fun _ => rfl) ?_
    refine wv_s f10_205 rfl (fun _ => rfl) ?_
    refine wv_s f10_207 rfl (fun h => by simp only [gStep]; rw [if_pos (show FP.fdiv (FP.i2f (zI (wtS l.rs : Nat))) (UInt32.ofNat 1090519040) &&& 0x7fffffff ≤ 0x7f800000 from hnn)]) ?_
    refine wv_s (pc' := 226) f10_208 rfl (fun _ => rfl) ?_
    exact hQ
  | 2, _ =>
    have e : dM 2 l = wtS l.rs := rfl
    rw [e] at hnn hQ
    refine wv_s f10_184 rfl (fun _ => rfl) ?_
    refine wv_zT_ne f10_185 (by omega) (by omega) ?_
    refine wv_s f10_197 rfl (fun _ => rfl) ?_
    refine wv_icon f10_198 ?_
    refine wv_cT_ne f10_199 (by omega) (by omega) (by omega) ?_
    refine wv_s f10_211 rfl (fun _ => rfl) ?_
    refine wv_icon f10_212 ?_
    refine wv_cF_ne f10_213 (by omega) (by omega) (by omega) ?_
    refine wv_s f10_216 rfl (fun _ => rfl) ?_
    refine wv_s f10_218 rfl (fun _ => rfl) ?_
    refine wv_s f10_219 rfl (fun _ => rfl) ?_
    refine wv_s f10_221 rfl (fun h => by simp only [gStep]; rw [if_pos (show FP.fdiv (FP.i2f (zI (wtS l.rs : Nat))) (UInt32.ofNat 1103101952) &&& 0x7fffffff ≤ 0x7f800000 from hnn)]) ?_
    refine wv_s (pc' := 226) f10_222 rfl (fun _ => rfl) ?_
    exact hQ
  | 3, _ =>
    refine wv_s f10_184 rfl (fun _ => rfl) ?_
    refine wv_zT_ne f10_185 (by omega) (by omega) ?_
    refine wv_s f10_197 rfl (fun _ => rfl) ?_
    refine wv_icon f10_198 ?_
    refine wv_cT_ne f10_199 (by omega) (by omega) (by omega) ?_
    refine wv_s f10_211 rfl (fun _ => rfl) ?_
    refine wv_icon f10_212 ?_
    refine wv_cT_ne f10_213 (by omega) (by omega) (by omega) ?_
    refine wv_s f10_225 rfl (fun _ => rfl) ?_
    exact hQ
theorem c10_l (hi : i ≤ 3) (hg : f.2.2[i]? = some g) (hok : ∀ l, l ∈ g.lv → (∀ r, r ∈ l.rs → RunOk r ∧ 0 < r.id ∧ okRun F r) ∧ l.rs.length ≤ 480 ∧ wtS l.rs ≤ 480) (hris : ∀ (j : Nat) l, g.lv[j]? = some l → 0 < j → Ris l.rs) : ∀ (n j : Nat) (A : gA) (x4 x5 x6 x7 x8 x9 x10 x11 : Option Value), j + n = 4 → okO A F L o f w s c b fi y me ct →
    Wv sc 9 10 22 [some (.ref o), some (.int (zI i)), some (.int (zI 1)), some (.int (zI j)), x4, x5, x6, x7, x8, x9, x10, x11] [] A (fun v A' => v = .inl (some (.int (bI true))) ∧ okO A' F L o f w s c b fi y me ct ∧ A'.2.1 ≤ A.2.1 + n ∧ A'.2.2 ≤ A.2.2 + 6 * n)
  | 0, j, A, x4, x5, x6, x7, x8, x9, x10, x11, hjn, hO => by
    refine wv_s f10_22 rfl (fun _ => rfl) ?_
    refine wv_icon f10_23 ?_
    refine wv_cT_ge f10_24 (by omega) (by omega) (by omega) ?_
    refine wv_s f10_289 rfl (fun _ => rfl) ?_
    exact wv_iretB (p := true) f10_290 (by decide +kernel) ⟨rfl, hO, by omega, by omega⟩
  | n + 1, j, A, x4, x5, x6, x7, x8, x9, x10, x11, hjn, hO => by
    have hgm := List.mem_of_getElem? hg
    have h4 := hO.l4 g hgm
    have hob := hO.ob
    have hl : g.lv[j]? = some (g.lv[j]'(by omega)) := List.getElem?_eq_getElem _
    generalize g.lv[j]'(by omega) = l at hl
    have hlm := List.mem_of_getElem? hl
    obtain ⟨k1, k2, k3⟩ := hok l hlm
    have hdm : dM j l < 490 := by
      unfold dM
      split <;> omega
    have q4 : Wc sc 7 8 [.ref o, .int (zI 4), .int (zI i), .int (zI j), .int (zI 0), .int (zI 0)] A (fun v A' => v = .inl (some (.int (zI l.rs.length))) ∧ A' = A) := aV_4 hob rfl (c90 hO hg hl)
    have q12 : Wc sc 7 8 [.ref o, .int (zI 12), .int (zI i), .int (zI j), .int (zI 0), .int (zI 0)] A (fun v A' => v = .inl (some (.int (dF j (dM j l)).toInt32)) ∧ A' = A) := aV_12 hob rfl (c37 hO hg hl hdm)
    have q5 : Wc sc 8 8 [.ref o, .int (zI 5), .int (zI i), .int (zI j), .int (zI l.rs.length), .int (zI 0)] A (fun v A' => v = .inl (some (.int (zI (-2000001)))) ∧ A' = aThr A) := aT0_5 hob rfl (c48_t hO hg hl)
    refine wv_s f10_22 rfl (fun _ => rfl) ?_
    refine wv_icon f10_23 ?_
    refine wv_cF_ge f10_24 (by omega) (by omega) (by omega) ?_
    refine wv_s f10_27 rfl (fun _ => rfl) ?_
    refine wv_zF_eq f10_28 (by omega) (by omega) ?_
    refine wv_s f10_31 rfl (fun _ => rfl) ?_
    refine wv_icon f10_32 ?_
    refine wv_s f10_33 rfl (fun _ => rfl) ?_
    refine wv_s f10_34 rfl (fun _ => rfl) ?_
    refine wv_icon f10_35 ?_
    refine wv_icon f10_36 ?_
    refine wv_valS f10_37 (by decide) (by simp) (by simp) (by decide +kernel) (q4) (by omega) ?_
    refine wv_st4 f10_40 rfl (fun _ _ => rfl) ?_
    refine wv_icon f10_42 ?_
    refine wv_st5 f10_43 rfl (fun _ _ => rfl) ?_
    refine wv_icon f10_45 ?_
    refine wv_st6 f10_46 rfl (fun _ _ => rfl) ?_
    refine wv_icon f10_48 ?_
    refine wv_st7 f10_49 rfl (fun _ _ => rfl) ?_
    refine c10_k hO hi hg (by omega) hl k1 (hris j l hl) k2 k3 (fun last y8 y9 y10 y11 => ?_) l.rs.length 0 0 (-1) _ _ _ _ (by omega) (by rw [List.drop_zero]; omega) (by omega) (fun h0 r hr => by
      have hrm := List.mem_of_getElem? hr
      have : 0 ≤ r.least ∧ r.great ≤ 99 := run_in (by omega) (by omega) (fun c hc => by
        have := (k1 r hrm).2.2.c100 c hc
        omega)
      omega)
    refine c10_f (by omega) hdm ?_
    have heq := (dF_ok (j := j) (n := dM j l) (by omega) hdm).2.2
    refine wv_st7 f10_226 rfl (fun _ _ => rfl) ?_
    refine wv_s f10_228 rfl (fun _ => rfl) ?_
    refine wv_zF_eq f10_229 (by omega) (by omega) ?_
    refine wv_s f10_232 rfl (fun _ => rfl) ?_
    refine wv_bip f10_233 (by decide) ?_
    refine wv_s f10_235 rfl (fun _ => rfl) ?_
    refine wv_s f10_236 rfl (fun _ => rfl) ?_
    refine wv_icon f10_237 ?_
    refine wv_icon f10_238 ?_
    refine wv_valS f10_239 (by decide) (by simp) (by simp) (by decide +kernel) (q12) (by omega) ?_
    refine wv_s f10_242 rfl (fun _ => rfl) ?_
    refine wv_valS f10_244 (by decide) (by simp) (by simp) (by decide +kernel) (c179 heq) (by omega) ?_
    refine wv_rX f10_247 (fun hb => ?_) (fun hb => ?_)
    · exact absurd hb (by simp [gTest])
    · refine wv_s f10_250 rfl (fun _ => rfl) ?_
      refine wv_s f10_251 rfl (fun _ => rfl) ?_
      refine wv_s f10_252 rfl (fun _ => rfl) ?_
      refine wv_valV f10_253 (by decide) (by simp) (by simp) (by decide +kernel) (by assumption) (by rfl) (by decide +kernel) rfl (c36 hO hg hl hdm) (by omega) ?_
      refine wv_s f10_256 rfl (fun _ => rfl) ?_
      refine wv_s f10_258 rfl (fun _ => rfl) ?_
      rw [heq]
      refine wv_zF_ne (x := 0) f10_259 (by omega) (by omega) ?_
      refine wv_s f10_262 rfl (fun _ => rfl) ?_
      refine wv_icon f10_263 ?_
      refine wv_s f10_264 rfl (fun _ => rfl) ?_
      refine wv_s f10_265 rfl (fun _ => rfl) ?_
      refine wv_s f10_266 rfl (fun _ => rfl) ?_
      refine wv_icon f10_268 ?_
      refine wv_invS f10_269 (by decide) (by simp) (by simp) (by decide +kernel) q5 (by omega) (fun v A1 hv => ?_)
      obtain ⟨rfl, rfl⟩ := hv
      show Wv sc 9 10 272 _ (.int (zI (-2000001)) :: []) (aThr A) _
      refine wv_ldcI (k := -2000001) f10_272 (by decide) ?_
      refine wv_cF_ne f10_274 (by omega) (by omega) (by omega) ?_
      have ih := c10_l hi hg hok hris n (j + 1) (aThr A) (some (.int (zI l.rs.length))) (some (.int (zI (wtS l.rs)))) (some (.int (zI last))) (some (.float (dF j (dM j l)))) y8 y9 y10 y11 (by omega) hO.thr
      refine wv_icon f10_277 ?_
      refine wv_s (pc' := 282) f10_278 rfl (fun _ => rfl) ?_
      refine wv_st2 f10_282 rfl (fun _ _ => rfl) ?_
      refine wv_inc3 f10_283 ?_
      refine wv_s (pc' := 22) f10_286 rfl (fun _ => rfl) ?_
      refine ih.up (Nat.le_refl _) (fun v A2 hv => ⟨hv.1, hv.2.1, ?_, ?_⟩)
      · have : A2.2.1 ≤ A.2.1 + 1 + n := hv.2.2.1
        omega
      · have : A2.2.2 ≤ A.2.2 + 6 + 6 * n := hv.2.2.2
        omega
theorem c10 (hO : okO A F L o f w s c b fi y me ct) (hG : GI (s.2.2.map SnD.m) ct.2.2.1 f.2.2 w.2.2 b.2.2 me) (hlw : w.2.2.length ≤ 120) (hi : i ≤ 3) (hg : f.2.2[i]? = some g) : Wc sc 9 10 [.ref o, .int (zI i)] A (fun v A' => v = .inl (some (.int (bI true))) ∧ okO A' F L o f w s c b fi y me ct ∧ A'.2.1 ≤ A.2.1 + 5 ∧ A'.2.2 ≤ A.2.2 + 30) := by
  show Wv sc 9 10 0 [some (.ref o), some (.int (zI i)), none, none, none, none, none, none, none, none, none, none] [] A _
  have hgm := List.mem_of_getElem? hg
  have hTI := hG.at hgm
  have hok : ∀ l, l ∈ g.lv → (∀ r, r ∈ l.rs → RunOk r ∧ 0 < r.id ∧ okRun F r) ∧ l.rs.length ≤ 480 ∧ wtS l.rs ≤ 480 := by
    intro l hl
    have h1 := lv_wt hO hG hlw hgm hl
    refine ⟨fun r hr => ⟨hTI.2.2.2.2.1 l.rs (List.mem_map_of_mem hl) r hr, (hTI.2.2.2.2.2.2.1 r.id (List.mem_flatMap.mpr ⟨l.rs, List.mem_map_of_mem hl, List.mem_map_of_mem hr⟩)).1, ((hO.2.1 g hgm).2 l hl).2 r hr⟩, h1.2, h1.1⟩
  have hris : ∀ (j : Nat) l, g.lv[j]? = some l → 0 < j → Ris l.rs := by
    intro j l hl h0
    refine (isRis_iff (fun r hr => (hok l (List.mem_of_getElem? hl)).1 r hr |>.1.lg)).mp (hTI.2.2.2.1 j l.rs (by rw [List.getElem?_map, hl]; rfl) h0)
  have hob := hO.ob
  have q4 : Wc sc 7 8 [.ref o, .int (zI 4), .int (zI i), .int (zI 4), .int (zI 0), .int (zI 0)] A (fun v A' => v = .inl (some (.int (zI (-2000001)))) ∧ A' = aThr A) := aT0_4 hob rfl (c90_t hO hg)
  refine wv_s f10_0 rfl (fun _ => rfl) ?_
  refine wv_icon f10_1 ?_
  refine wv_s f10_2 rfl (fun _ => rfl) ?_
  refine wv_icon f10_3 ?_
  refine wv_icon f10_4 ?_
  refine wv_icon f10_5 ?_
  refine wv_invS f10_6 (by decide) (by simp) (by simp) (by decide +kernel) q4 (by omega) (fun v A1 hv => ?_)
  obtain ⟨rfl, rfl⟩ := hv
  show Wv sc 9 10 9 _ (.int (zI (-2000001)) :: []) (aThr A) _
  refine wv_ldcI (k := -2000001) f10_9 (by decide) ?_
  refine wv_cF_ne f10_11 (by omega) (by omega) (by omega) ?_
  have ih := c10_l (sc := sc) hi hg hok hris 4 0 (aThr A) none none none none none none none none (by omega) hO.thr
  refine wv_icon f10_14 ?_
  refine wv_s (pc' := 19) f10_15 rfl (fun _ => rfl) ?_
  refine wv_st2 f10_19 rfl (fun _ _ => rfl) ?_
  refine wv_icon f10_20 ?_
  refine wv_st3 f10_21 rfl (fun _ _ => rfl) ?_
  refine ih.up (Nat.le_refl _) (fun v A2 hv => ⟨hv.1, hv.2.1, ?_, ?_⟩)
  · have : A2.2.1 ≤ A.2.1 + 1 + 4 := hv.2.2.1
    omega
  · have : A2.2.2 ≤ A.2.2 + 6 + 6 * 4 := hv.2.2.2
    omega
end AR2
