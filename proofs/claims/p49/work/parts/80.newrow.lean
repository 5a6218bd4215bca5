/-! A NEW ROW OF THE LAW -/
theorem allG_snoc {rows : List LrD} {r : LrD} {n : Nat} (h : rows.length = n) : va_up (allG rows) (n + 1) (some r.1) = allG (rows ++ [r]) := by
  funext k
  cases k with
  | zero => rfl
  | succ k =>
    show (if k + 1 = n + 1 then some r.1 else (rows[k]?).map Prod.fst) = ((rows ++ [r])[k]?).map Prod.fst
    by_cases e : k = n
    · rw [if_pos (by omega), List.getElem?_append_right (by omega), show k - rows.length = 0 by omega]
      rfl
    · rw [if_neg (by omega)]
      by_cases h2 : k < rows.length
      · rw [List.getElem?_append_left h2]
      · rw [List.getElem?_eq_none (by omega), List.getElem?_eq_none (by rw [List.length_append]; show rows.length + 1 ≤ k; omega)]
theorem c14 {sc : gSc} {A : gA} {F : Nat → Option vC} {X : List (Nat × vC)} {qa qm n : Nat} {ga : Nat → Option Nat} {fm : Nat → Int32} {X0 X1 X2 X3 X4 : Int32} (hO : Own A F ((qm, vN .int 1 fm) :: (qa, vR (gComp 2) 200 ga) :: X)) (hfm : fm 0 = zI n) (hn : n < 190) : Wc sc 0 14 [.ref qa, .ref qm, .int X0, .int X1, .int X2, .int X3, .int X4] A (fun o A' => ∃ v, o = .inl (some v) ∧ ∃ q fn fm', v = .ref q ∧ Own A' F ((q, vN .int 20 fn) :: (qm, vN .int 1 fm') :: (qa, vR (gComp 2) 200 (va_up ga (n + 1) (some q))) :: X) ∧ fm' 0 = zI ((n + 1 : Nat) : Int) ∧ fn 0 = X0 ∧ fn 1 = X1 ∧ fn 2 = X2 ∧ fn 3 = X3 ∧ fn 4 = X4 ∧ fn 5 = zI 0 ∧ fn 6 = zI 0 ∧ fn 7 = zI 0 ∧ fn 8 = zI 0 ∧ A'.2 = (A.2.1 + 1, A.2.2 + 20)) := by
  show Wv sc 0 14 0 [some (.ref qa), some (.ref qm), some (.int X0), some (.int X1), some (.int X2), some (.int X3), some (.int X4), none] [] A _
  refine wv_bip f14_0 (by decide) ?_
  refine wv_newarr (n := 20) f14_2 (by first | rfl | omega) (by omega) (fun q hq => ?_)
  have hO0 := hO.new (n := 20) (c := vN .int 20 (fun _ => 0)) hq
  have g0 := hO0.at (List.mem_cons_self ..)
  refine wv_s f14_4 rfl (fun _ => rfl) ?_
  refine wv_icon f14_5 ?_
  refine wv_s f14_6 rfl (fun _ => rfl) ?_
  refine wv_iastore (j := 0) f14_7 (g0) (by first | rfl | omega) (by omega) (by omega) ?_
  have hO1 := Own.put (L1 := []) hO0 (c := vN .int 20 (upd (fun _ => 0) 0 (X0)))
  have g1 := hO1.at (List.mem_cons_self ..)
  refine wv_s f14_8 rfl (fun _ => rfl) ?_
  refine wv_icon f14_9 ?_
  refine wv_s f14_10 rfl (fun _ => rfl) ?_
  refine wv_iastore (j := 1) f14_11 (g1) (by first | rfl | omega) (by omega) (by omega) ?_
  have hO2 := Own.put (L1 := []) hO1 (c := vN .int 20 (upd (upd (fun _ => 0) 0 (X0)) 1 (X1)))
  have g2 := hO2.at (List.mem_cons_self ..)
  refine wv_s f14_12 rfl (fun _ => rfl) ?_
  refine wv_icon f14_13 ?_
  refine wv_s f14_14 rfl (fun _ => rfl) ?_
  refine wv_iastore (j := 2) f14_16 (g2) (by first | rfl | omega) (by omega) (by omega) ?_
  have hO3 := Own.put (L1 := []) hO2 (c := vN .int 20 (upd (upd (upd (fun _ => 0) 0 (X0)) 1 (X1)) 2 (X2)))
  have g3 := hO3.at (List.mem_cons_self ..)
  refine wv_s f14_17 rfl (fun _ => rfl) ?_
  refine wv_icon f14_18 ?_
  refine wv_s f14_19 rfl (fun _ => rfl) ?_
  refine wv_iastore (j := 3) f14_21 (g3) (by first | rfl | omega) (by omega) (by omega) ?_
  have hO4 := Own.put (L1 := []) hO3 (c := vN .int 20 (upd (upd (upd (upd (fun _ => 0) 0 (X0)) 1 (X1)) 2 (X2)) 3 (X3)))
  have g4 := hO4.at (List.mem_cons_self ..)
  refine wv_s f14_22 rfl (fun _ => rfl) ?_
  refine wv_icon f14_23 ?_
  refine wv_s f14_24 rfl (fun _ => rfl) ?_
  refine wv_iastore (j := 4) f14_26 (g4) (by first | rfl | omega) (by omega) (by omega) ?_
  have hO5 := Own.put (L1 := []) hO4 (c := vN .int 20 (upd (upd (upd (upd (upd (fun _ => 0) 0 (X0)) 1 (X1)) 2 (X2)) 3 (X3)) 4 (X4)))
  have g5 := hO5.at (List.mem_cons_self ..)
  refine wv_s f14_27 rfl (fun _ => rfl) ?_
  refine wv_icon f14_28 ?_
  refine wv_icon f14_29 ?_
  refine wv_iastore (j := 5) f14_30 (g5) (by first | rfl | omega) (by omega) (by omega) ?_
  have hO6 := Own.put (L1 := []) hO5 (c := vN .int 20 (upd (upd (upd (upd (upd (upd (fun _ => 0) 0 (X0)) 1 (X1)) 2 (X2)) 3 (X3)) 4 (X4)) 5 (zI 0)))
  have g6 := hO6.at (List.mem_cons_self ..)
  refine wv_s f14_31 rfl (fun _ => rfl) ?_
  refine wv_bip f14_32 (by decide) ?_
  refine wv_icon f14_34 ?_
  refine wv_iastore (j := 6) f14_35 (g6) (by first | rfl | omega) (by omega) (by omega) ?_
  have hO7 := Own.put (L1 := []) hO6 (c := vN .int 20 (upd (upd (upd (upd (upd (upd (upd (fun _ => 0) 0 (X0)) 1 (X1)) 2 (X2)) 3 (X3)) 4 (X4)) 5 (zI 0)) 6 (zI 0)))
  have g7 := hO7.at (List.mem_cons_self ..)
  refine wv_s f14_36 rfl (fun _ => rfl) ?_
  refine wv_bip f14_37 (by decide) ?_
  refine wv_icon f14_39 ?_
  refine wv_iastore (j := 7) f14_40 (g7) (by first | rfl | omega) (by omega) (by omega) ?_
  have hO8 := Own.put (L1 := []) hO7 (c := vN .int 20 (upd (upd (upd (upd (upd (upd (upd (upd (fun _ => 0) 0 (X0)) 1 (X1)) 2 (X2)) 3 (X3)) 4 (X4)) 5 (zI 0)) 6 (zI 0)) 7 (zI 0)))
  have g8 := hO8.at (List.mem_cons_self ..)
  refine wv_s f14_41 rfl (fun _ => rfl) ?_
  refine wv_bip f14_42 (by decide) ?_
  refine wv_icon f14_44 ?_
  refine wv_iastore (j := 8) f14_45 (g8) (by first | rfl | omega) (by omega) (by omega) ?_
  have hO9 := Own.put (L1 := []) hO8 (c := vN .int 20 (upd (upd (upd (upd (upd (upd (upd (upd (upd (fun _ => 0) 0 (X0)) 1 (X1)) 2 (X2)) 3 (X3)) 4 (X4)) 5 (zI 0)) 6 (zI 0)) 7 (zI 0)) 8 (zI 0)))
  have g9 := hO9.at (List.mem_cons_self ..)
  refine wv_s f14_46 rfl (fun _ => rfl) ?_
  refine wv_bip f14_47 (by decide) ?_
  refine wv_icon f14_49 ?_
  refine wv_iastore (j := 9) f14_50 (g9) (by first | rfl | omega) (by omega) (by omega) ?_
  have hO10 := Own.put (L1 := []) hO9 (c := vN .int 20 (upd (upd (upd (upd (upd (upd (upd (upd (upd (upd (fun _ => 0) 0 (X0)) 1 (X1)) 2 (X2)) 3 (X3)) 4 (X4)) 5 (zI 0)) 6 (zI 0)) 7 (zI 0)) 8 (zI 0)) 9 (zI 0)))
  have g10 := hO10.at (List.mem_cons_self ..)
  refine wv_s f14_51 rfl (fun _ => rfl) ?_
  refine wv_bip f14_52 (by decide) ?_
  refine wv_icon f14_54 ?_
  refine wv_iastore (j := 10) f14_55 (g10) (by first | rfl | omega) (by omega) (by omega) ?_
  have hO11 := Own.put (L1 := []) hO10 (c := vN .int 20 (upd (upd (upd (upd (upd (upd (upd (upd (upd (upd (upd (fun _ => 0) 0 (X0)) 1 (X1)) 2 (X2)) 3 (X3)) 4 (X4)) 5 (zI 0)) 6 (zI 0)) 7 (zI 0)) 8 (zI 0)) 9 (zI 0)) 10 (zI 0)))
  have g11 := hO11.at (List.mem_cons_self ..)
  refine wv_s f14_56 rfl (fun _ => rfl) ?_
  refine wv_bip f14_57 (by decide) ?_
  refine wv_icon f14_59 ?_
  refine wv_iastore (j := 11) f14_60 (g11) (by first | rfl | omega) (by omega) (by omega) ?_
  have hO12 := Own.put (L1 := []) hO11 (c := vN .int 20 (upd (upd (upd (upd (upd (upd (upd (upd (upd (upd (upd (upd (fun _ => 0) 0 (X0)) 1 (X1)) 2 (X2)) 3 (X3)) 4 (X4)) 5 (zI 0)) 6 (zI 0)) 7 (zI 0)) 8 (zI 0)) 9 (zI 0)) 10 (zI 0)) 11 (zI 0)))
  have g12 := hO12.at (List.mem_cons_self ..)
  refine wv_s f14_61 rfl (fun _ => rfl) ?_
  refine wv_bip f14_62 (by decide) ?_
  refine wv_icon f14_64 ?_
  refine wv_iastore (j := 12) f14_65 (g12) (by first | rfl | omega) (by omega) (by omega) ?_
  have hO13 := Own.put (L1 := []) hO12 (c := vN .int 20 (upd (upd (upd (upd (upd (upd (upd (upd (upd (upd (upd (upd (upd (fun _ => 0) 0 (X0)) 1 (X1)) 2 (X2)) 3 (X3)) 4 (X4)) 5 (zI 0)) 6 (zI 0)) 7 (zI 0)) 8 (zI 0)) 9 (zI 0)) 10 (zI 0)) 11 (zI 0)) 12 (zI 0)))
  have g13 := hO13.at (List.mem_cons_self ..)
  refine wv_s f14_66 rfl (fun _ => rfl) ?_
  refine wv_bip f14_67 (by decide) ?_
  refine wv_icon f14_69 ?_
  refine wv_iastore (j := 13) f14_70 (g13) (by first | rfl | omega) (by omega) (by omega) ?_
  have hO14 := Own.put (L1 := []) hO13 (c := vN .int 20 (upd (upd (upd (upd (upd (upd (upd (upd (upd (upd (upd (upd (upd (upd (fun _ => 0) 0 (X0)) 1 (X1)) 2 (X2)) 3 (X3)) 4 (X4)) 5 (zI 0)) 6 (zI 0)) 7 (zI 0)) 8 (zI 0)) 9 (zI 0)) 10 (zI 0)) 11 (zI 0)) 12 (zI 0)) 13 (zI 0)))
  have g14 := hO14.at (List.mem_cons_self ..)
  refine wv_s f14_71 rfl (fun _ => rfl) ?_
  refine wv_bip f14_72 (by decide) ?_
  refine wv_icon f14_74 ?_
  refine wv_iastore (j := 14) f14_75 (g14) (by first | rfl | omega) (by omega) (by omega) ?_
  have hO15 := Own.put (L1 := []) hO14 (c := vN .int 20 (upd (upd (upd (upd (upd (upd (upd (upd (upd (upd (upd (upd (upd (upd (upd (fun _ => 0) 0 (X0)) 1 (X1)) 2 (X2)) 3 (X3)) 4 (X4)) 5 (zI 0)) 6 (zI 0)) 7 (zI 0)) 8 (zI 0)) 9 (zI 0)) 10 (zI 0)) 11 (zI 0)) 12 (zI 0)) 13 (zI 0)) 14 (zI 0)))
  have g15 := hO15.at (List.mem_cons_self ..)
  refine wv_s f14_76 rfl (fun _ => rfl) ?_
  refine wv_bip f14_77 (by decide) ?_
  refine wv_icon f14_79 ?_
  refine wv_iastore (j := 15) f14_80 (g15) (by first | rfl | omega) (by omega) (by omega) ?_
  have hO16 := Own.put (L1 := []) hO15 (c := vN .int 20 (upd (upd (upd (upd (upd (upd (upd (upd (upd (upd (upd (upd (upd (upd (upd (upd (fun _ => 0) 0 (X0)) 1 (X1)) 2 (X2)) 3 (X3)) 4 (X4)) 5 (zI 0)) 6 (zI 0)) 7 (zI 0)) 8 (zI 0)) 9 (zI 0)) 10 (zI 0)) 11 (zI 0)) 12 (zI 0)) 13 (zI 0)) 14 (zI 0)) 15 (zI 0)))
  have g16 := hO16.at (List.mem_cons_self ..)
  refine wv_s f14_81 rfl (fun _ => rfl) ?_
  refine wv_bip f14_82 (by decide) ?_
  refine wv_icon f14_84 ?_
  refine wv_iastore (j := 16) f14_85 (g16) (by first | rfl | omega) (by omega) (by omega) ?_
  have hO17 := Own.put (L1 := []) hO16 (c := vN .int 20 (upd (upd (upd (upd (upd (upd (upd (upd (upd (upd (upd (upd (upd (upd (upd (upd (upd (fun _ => 0) 0 (X0)) 1 (X1)) 2 (X2)) 3 (X3)) 4 (X4)) 5 (zI 0)) 6 (zI 0)) 7 (zI 0)) 8 (zI 0)) 9 (zI 0)) 10 (zI 0)) 11 (zI 0)) 12 (zI 0)) 13 (zI 0)) 14 (zI 0)) 15 (zI 0)) 16 (zI 0)))
  have g17 := hO17.at (List.mem_cons_self ..)
  refine wv_s f14_86 rfl (fun _ => rfl) ?_
  refine wv_bip f14_87 (by decide) ?_
  refine wv_icon f14_89 ?_
  refine wv_iastore (j := 17) f14_90 (g17) (by first | rfl | omega) (by omega) (by omega) ?_
  have hO18 := Own.put (L1 := []) hO17 (c := vN .int 20 (upd (upd (upd (upd (upd (upd (upd (upd (upd (upd (upd (upd (upd (upd (upd (upd (upd (upd (fun _ => 0) 0 (X0)) 1 (X1)) 2 (X2)) 3 (X3)) 4 (X4)) 5 (zI 0)) 6 (zI 0)) 7 (zI 0)) 8 (zI 0)) 9 (zI 0)) 10 (zI 0)) 11 (zI 0)) 12 (zI 0)) 13 (zI 0)) 14 (zI 0)) 15 (zI 0)) 16 (zI 0)) 17 (zI 0)))
  have g18 := hO18.at (List.mem_cons_self ..)
  refine wv_s f14_91 rfl (fun _ => rfl) ?_
  refine wv_bip f14_92 (by decide) ?_
  refine wv_icon f14_94 ?_
  refine wv_iastore (j := 18) f14_95 (g18) (by first | rfl | omega) (by omega) (by omega) ?_
  have hO19 := Own.put (L1 := []) hO18 (c := vN .int 20 (upd (upd (upd (upd (upd (upd (upd (upd (upd (upd (upd (upd (upd (upd (upd (upd (upd (upd (upd (fun _ => 0) 0 (X0)) 1 (X1)) 2 (X2)) 3 (X3)) 4 (X4)) 5 (zI 0)) 6 (zI 0)) 7 (zI 0)) 8 (zI 0)) 9 (zI 0)) 10 (zI 0)) 11 (zI 0)) 12 (zI 0)) 13 (zI 0)) 14 (zI 0)) 15 (zI 0)) 16 (zI 0)) 17 (zI 0)) 18 (zI 0)))
  have g19 := hO19.at (List.mem_cons_self ..)
  refine wv_s f14_96 rfl (fun _ => rfl) ?_
  refine wv_bip f14_97 (by decide) ?_
  refine wv_icon f14_99 ?_
  refine wv_iastore (j := 19) f14_100 (g19) (by first | rfl | omega) (by omega) (by omega) ?_
  have hO20 := Own.put (L1 := []) hO19 (c := vN .int 20 (upd (upd (upd (upd (upd (upd (upd (upd (upd (upd (upd (upd (upd (upd (upd (upd (upd (upd (upd (upd (fun _ => 0) 0 (X0)) 1 (X1)) 2 (X2)) 3 (X3)) 4 (X4)) 5 (zI 0)) 6 (zI 0)) 7 (zI 0)) 8 (zI 0)) 9 (zI 0)) 10 (zI 0)) 11 (zI 0)) 12 (zI 0)) 13 (zI 0)) 14 (zI 0)) 15 (zI 0)) 16 (zI 0)) 17 (zI 0)) 18 (zI 0)) 19 (zI 0)))
  have hm0 := hO20.at (List.mem_cons_of_mem _ (List.mem_cons_self ..))
  refine wv_st7 f14_101 rfl (fun _ _ => rfl) ?_
  refine wv_s f14_103 rfl (fun _ => rfl) ?_
  refine wv_icon f14_104 ?_
  refine wv_s f14_105 rfl (fun _ => rfl) ?_
  refine wv_iaload (j := 0) f14_106 (hm0) (by first | rfl | omega) (by omega) (by omega) ?_
  rw [hfm]
  refine wv_icon f14_107 ?_
  refine wv_iadd f14_108 ?_
  have e1 : (n : Int) + 1 = ((n + 1 : Nat) : Int) := by omega
  rw [e1]
  have hP := Own.put (L1 := [(q, vN .int 20 (upd (upd (upd (upd (upd (upd (upd (upd (upd (upd (upd (upd (upd (upd (upd (upd (upd (upd (upd (upd (fun _ => 0) 0 (X0)) 1 (X1)) 2 (X2)) 3 (X3)) 4 (X4)) 5 (zI 0)) 6 (zI 0)) 7 (zI 0)) 8 (zI 0)) 9 (zI 0)) 10 (zI 0)) 11 (zI 0)) 12 (zI 0)) 13 (zI 0)) 14 (zI 0)) 15 (zI 0)) 16 (zI 0)) 17 (zI 0)) 18 (zI 0)) 19 (zI 0)))]) hO20 (c := vN .int 1 (upd fm 0 (zI ((n + 1 : Nat) : Int))))
  refine wv_iastore (j := 0) f14_109 (hm0) (by first | rfl | omega) (by omega) (by omega) ?_
  have hm1 := hP.at (List.mem_cons_of_mem _ (List.mem_cons_self ..))
  refine wv_s f14_110 rfl (fun _ => rfl) ?_
  refine wv_s f14_111 rfl (fun _ => rfl) ?_
  refine wv_icon f14_112 ?_
  refine wv_iaload (j := 0) f14_113 (hm1) (by first | rfl | omega) (by omega) (by omega) ?_
  rw [show upd fm 0 (zI ((n + 1 : Nat) : Int)) 0 = zI ((n + 1 : Nat) : Int) from upd_self]
  have ha1 := hP.at (List.mem_cons_of_mem _ (List.mem_cons_of_mem _ (List.mem_cons_self ..)))
  have hq1 := hP.at (List.mem_cons_self ..)
  refine wv_s f14_114 rfl (fun _ => rfl) ?_
  refine wv_aastore (j := n + 1) f14_116 ha1 hq1 (by rfl) (by rfl) (by first | rfl | omega) (by omega) (by omega) ?_
  have hP2 := Own.put (L1 := [(q, vN .int 20 (upd (upd (upd (upd (upd (upd (upd (upd (upd (upd (upd (upd (upd (upd (upd (upd (upd (upd (upd (upd (fun _ => 0) 0 (X0)) 1 (X1)) 2 (X2)) 3 (X3)) 4 (X4)) 5 (zI 0)) 6 (zI 0)) 7 (zI 0)) 8 (zI 0)) 9 (zI 0)) 10 (zI 0)) 11 (zI 0)) 12 (zI 0)) 13 (zI 0)) 14 (zI 0)) 15 (zI 0)) 16 (zI 0)) 17 (zI 0)) 18 (zI 0)) 19 (zI 0))), (qm, vN .int 1 (upd fm 0 (zI ((n + 1 : Nat) : Int))))]) hP (c := vR (gComp 2) 200 (va_up ga (n + 1) (some q)))
  refine wv_s f14_117 rfl (fun _ => rfl) ?_
  exact wv_aret f14_119 (by rfl) (⟨_, rfl, q, _, _, rfl, hP2, upd_self, rfl, rfl, rfl, rfl, rfl, rfl, rfl, rfl, rfl, rfl⟩)
