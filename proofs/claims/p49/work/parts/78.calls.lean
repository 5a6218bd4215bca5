/-! THE LAW'S CALLS: dispatch and what they catch -/
section DS
variable {sc : gSc} {d dc : Nat} {A : gA} {o : Nat} {cc : vC} {Q : gO → gA → Prop} {a1 a2 a3 a4 a5 : Int32}
theorem c13_0 (h1 : A.1 o = some cc) (hcl : vCls cc = some 11) (he : (a1.toUInt32 % 65536).toInt32 = a1) (hc : Wc sc dc 19 [.ref o, .int a1] A Q) (hq : isR Q) (hd : dc < d) : Wc sc d 13 [.ref o, .int (zI 0), .int a1, .int a2, .int a3, .int a4, .int a5] A Q := by
  show Wv sc d 13 0 [some (.ref o), some (.int (zI 0)), some (.int a1), some (.int a2), some (.int a3), some (.int a4), some (.int a5)] [] A _
  refine wv_s f13_0 rfl (fun _ => rfl) ?_
  refine wv_s (pc' := 84) f13_1 rfl (fun _ => rfl) ?_
  refine wv_s f13_84 rfl (fun _ => rfl) ?_
  refine wv_s f13_85 rfl (fun _ => rfl) ?_
  refine wv_s (pc' := 87) (ls' := [some (.ref o), some (.int (zI 0)), some (.int a1), some (.int a2), some (.int a3), some (.int a4), some (.int a5)]) (st' := [.int a1, .ref o]) f13_86 rfl (fun _ => by simp only [gStep]; rw [he]) ?_
  exact wv_tail f13_87 (by decide) rfl (by decide +kernel) h1 hcl (by decide +kernel) rfl hc hd hq f13_90 (gRet_int (by decide +kernel)) (fun E => rfl) (by decide +kernel)
theorem c13_1 (h1 : A.1 o = some cc) (hcl : vCls cc = some 11) (hc : Wc sc dc 85 [.ref o, .int a1, .int a2, .int a3] A Q) (hq : isR Q) (hd : dc < d) : Wc sc d 13 [.ref o, .int (zI 1), .int a1, .int a2, .int a3, .int a4, .int a5] A Q := by
  show Wv sc d 13 0 [some (.ref o), some (.int (zI 1)), some (.int a1), some (.int a2), some (.int a3), some (.int a4), some (.int a5)] [] A _
  refine wv_s f13_0 rfl (fun _ => rfl) ?_
  refine wv_s (pc' := 91) f13_1 rfl (fun _ => rfl) ?_
  refine wv_s f13_91 rfl (fun _ => rfl) ?_
  refine wv_s f13_92 rfl (fun _ => rfl) ?_
  refine wv_s f13_93 rfl (fun _ => rfl) ?_
  refine wv_s f13_94 rfl (fun _ => rfl) ?_
  exact wv_tail f13_96 (by decide) rfl (by decide +kernel) h1 hcl (by decide +kernel) rfl hc hd hq f13_99 (gRet_int (by decide +kernel)) (fun E => rfl) (by decide +kernel)
theorem c13_2 (h1 : A.1 o = some cc) (hcl : vCls cc = some 11) (hc : Wc sc dc 39 [.ref o, .int a1, .int a2] A Q) (hq : isR Q) (hd : dc < d) : Wc sc d 13 [.ref o, .int (zI 2), .int a1, .int a2, .int a3, .int a4, .int a5] A Q := by
  show Wv sc d 13 0 [some (.ref o), some (.int (zI 2)), some (.int a1), some (.int a2), some (.int a3), some (.int a4), some (.int a5)] [] A _
  refine wv_s f13_0 rfl (fun _ => rfl) ?_
  refine wv_s (pc' := 100) f13_1 rfl (fun _ => rfl) ?_
  refine wv_s f13_100 rfl (fun _ => rfl) ?_
  refine wv_s f13_101 rfl (fun _ => rfl) ?_
  refine wv_s f13_102 rfl (fun _ => rfl) ?_
  exact wv_tail f13_103 (by decide) rfl (by decide +kernel) h1 hcl (by decide +kernel) rfl hc hd hq f13_106 (gRet_int (by decide +kernel)) (fun E => rfl) (by decide +kernel)
theorem c13_3 (h1 : A.1 o = some cc) (hcl : vCls cc = some 11) (hc : Wc sc dc 40 [.ref o, .int a1, .int a2, .int a3] A Q) (hq : isR Q) (hd : dc < d) : Wc sc d 13 [.ref o, .int (zI 3), .int a1, .int a2, .int a3, .int a4, .int a5] A Q := by
  show Wv sc d 13 0 [some (.ref o), some (.int (zI 3)), some (.int a1), some (.int a2), some (.int a3), some (.int a4), some (.int a5)] [] A _
  refine wv_s f13_0 rfl (fun _ => rfl) ?_
  refine wv_s (pc' := 107) f13_1 rfl (fun _ => rfl) ?_
  refine wv_s f13_107 rfl (fun _ => rfl) ?_
  refine wv_s f13_108 rfl (fun _ => rfl) ?_
  refine wv_s f13_109 rfl (fun _ => rfl) ?_
  refine wv_s f13_110 rfl (fun _ => rfl) ?_
  exact wv_tail f13_112 (by decide) rfl (by decide +kernel) h1 hcl (by decide +kernel) rfl hc hd hq f13_115 (gRet_int (by decide +kernel)) (fun E => rfl) (by decide +kernel)
theorem c13_4 (h1 : A.1 o = some cc) (hcl : vCls cc = some 11) (hc : Wc sc dc 75 [.ref o, .int a1, .int a2, .int a3] A Q) (hq : isR Q) (hd : dc < d) : Wc sc d 13 [.ref o, .int (zI 4), .int a1, .int a2, .int a3, .int a4, .int a5] A Q := by
  show Wv sc d 13 0 [some (.ref o), some (.int (zI 4)), some (.int a1), some (.int a2), some (.int a3), some (.int a4), some (.int a5)] [] A _
  refine wv_s f13_0 rfl (fun _ => rfl) ?_
  refine wv_s (pc' := 116) f13_1 rfl (fun _ => rfl) ?_
  refine wv_s f13_116 rfl (fun _ => rfl) ?_
  refine wv_s f13_117 rfl (fun _ => rfl) ?_
  refine wv_s f13_118 rfl (fun _ => rfl) ?_
  refine wv_s f13_119 rfl (fun _ => rfl) ?_
  exact wv_tail f13_121 (by decide) rfl (by decide +kernel) h1 hcl (by decide +kernel) rfl hc hd hq f13_124 (gRet_int (by decide +kernel)) (fun E => rfl) (by decide +kernel)
theorem c13_5 (h1 : A.1 o = some cc) (hcl : vCls cc = some 11) (hc : Wc sc dc 28 [.ref o, .int a1, .int a2, .int a3, .int a4, .int a5] A Q) (hq : isR Q) (hd : dc < d) : Wc sc d 13 [.ref o, .int (zI 5), .int a1, .int a2, .int a3, .int a4, .int a5] A Q := by
  show Wv sc d 13 0 [some (.ref o), some (.int (zI 5)), some (.int a1), some (.int a2), some (.int a3), some (.int a4), some (.int a5)] [] A _
  refine wv_s f13_0 rfl (fun _ => rfl) ?_
  refine wv_s (pc' := 125) f13_1 rfl (fun _ => rfl) ?_
  refine wv_s f13_125 rfl (fun _ => rfl) ?_
  refine wv_s f13_126 rfl (fun _ => rfl) ?_
  refine wv_s f13_127 rfl (fun _ => rfl) ?_
  refine wv_s f13_128 rfl (fun _ => rfl) ?_
  refine wv_s f13_130 rfl (fun _ => rfl) ?_
  refine wv_s f13_132 rfl (fun _ => rfl) ?_
  exact wv_tail f13_134 (by decide) rfl (by decide +kernel) h1 hcl (by decide +kernel) rfl hc hd hq f13_137 (gRet_int (by decide +kernel)) (fun E => rfl) (by decide +kernel)
theorem c13_6 (h1 : A.1 o = some cc) (hcl : vCls cc = some 11) (hc : Wc sc dc 93 [.ref o] A Q) (hq : isR Q) (hd : dc < d) : Wc sc d 13 [.ref o, .int (zI 6), .int a1, .int a2, .int a3, .int a4, .int a5] A Q := by
  show Wv sc d 13 0 [some (.ref o), some (.int (zI 6)), some (.int a1), some (.int a2), some (.int a3), some (.int a4), some (.int a5)] [] A _
  refine wv_s f13_0 rfl (fun _ => rfl) ?_
  refine wv_s (pc' := 138) f13_1 rfl (fun _ => rfl) ?_
  refine wv_s f13_138 rfl (fun _ => rfl) ?_
  exact wv_tail f13_139 (by decide) rfl (by decide +kernel) h1 hcl (by decide +kernel) rfl hc hd hq f13_142 (gRet_int (by decide +kernel)) (fun E => rfl) (by decide +kernel)
theorem c13_7 (h1 : A.1 o = some cc) (hcl : vCls cc = some 11) (hc : Wc sc dc 87 [.ref o, .int a1] A Q) (hq : isR Q) (hd : dc < d) : Wc sc d 13 [.ref o, .int (zI 7), .int a1, .int a2, .int a3, .int a4, .int a5] A Q := by
  show Wv sc d 13 0 [some (.ref o), some (.int (zI 7)), some (.int a1), some (.int a2), some (.int a3), some (.int a4), some (.int a5)] [] A _
  refine wv_s f13_0 rfl (fun _ => rfl) ?_
  refine wv_s (pc' := 143) f13_1 rfl (fun _ => rfl) ?_
  refine wv_s f13_143 rfl (fun _ => rfl) ?_
  refine wv_s f13_144 rfl (fun _ => rfl) ?_
  exact wv_tail f13_145 (by decide) rfl (by decide +kernel) h1 hcl (by decide +kernel) rfl hc hd hq f13_148 (gRet_int (by decide +kernel)) (fun E => rfl) (by decide +kernel)
theorem c13_8 (h1 : A.1 o = some cc) (hcl : vCls cc = some 11) (hc : Wc sc dc 79 [.ref o, .int a1, .int a2] A Q) (hq : isR Q) (hd : dc < d) : Wc sc d 13 [.ref o, .int (zI 8), .int a1, .int a2, .int a3, .int a4, .int a5] A Q := by
  show Wv sc d 13 0 [some (.ref o), some (.int (zI 8)), some (.int a1), some (.int a2), some (.int a3), some (.int a4), some (.int a5)] [] A _
  refine wv_s f13_0 rfl (fun _ => rfl) ?_
  refine wv_s (pc' := 149) f13_1 rfl (fun _ => rfl) ?_
  refine wv_s f13_149 rfl (fun _ => rfl) ?_
  refine wv_s f13_150 rfl (fun _ => rfl) ?_
  refine wv_s f13_151 rfl (fun _ => rfl) ?_
  exact wv_tail f13_152 (by decide) rfl (by decide +kernel) h1 hcl (by decide +kernel) rfl hc hd hq f13_155 (gRet_int (by decide +kernel)) (fun E => rfl) (by decide +kernel)
theorem c13_9 (h1 : A.1 o = some cc) (hcl : vCls cc = some 11) (hc : Wc sc dc 78 [.ref o, .int a1] A Q) (hq : isR Q) (hd : dc < d) : Wc sc d 13 [.ref o, .int (zI 9), .int a1, .int a2, .int a3, .int a4, .int a5] A Q := by
  show Wv sc d 13 0 [some (.ref o), some (.int (zI 9)), some (.int a1), some (.int a2), some (.int a3), some (.int a4), some (.int a5)] [] A _
  refine wv_s f13_0 rfl (fun _ => rfl) ?_
  refine wv_s (pc' := 156) f13_1 rfl (fun _ => rfl) ?_
  refine wv_s f13_156 rfl (fun _ => rfl) ?_
  refine wv_s f13_157 rfl (fun _ => rfl) ?_
  exact wv_tail f13_158 (by decide) rfl (by decide +kernel) h1 hcl (by decide +kernel) rfl hc hd hq f13_161 (gRet_int (by decide +kernel)) (fun E => rfl) (by decide +kernel)
theorem c13_10 (h1 : A.1 o = some cc) (hcl : vCls cc = some 11) (hc : Wc sc dc 84 [.ref o, .int a1] A Q) (hq : isR Q) (hd : dc < d) : Wc sc d 13 [.ref o, .int (zI 10), .int a1, .int a2, .int a3, .int a4, .int a5] A Q := by
  show Wv sc d 13 0 [some (.ref o), some (.int (zI 10)), some (.int a1), some (.int a2), some (.int a3), some (.int a4), some (.int a5)] [] A _
  refine wv_s f13_0 rfl (fun _ => rfl) ?_
  refine wv_s (pc' := 162) f13_1 rfl (fun _ => rfl) ?_
  refine wv_s f13_162 rfl (fun _ => rfl) ?_
  refine wv_s f13_163 rfl (fun _ => rfl) ?_
  exact wv_tail f13_164 (by decide) rfl (by decide +kernel) h1 hcl (by decide +kernel) rfl hc hd hq f13_167 (gRet_int (by decide +kernel)) (fun E => rfl) (by decide +kernel)
theorem c13_11 (h1 : A.1 o = some cc) (hcl : vCls cc = some 11) (hc : Wc sc dc 30 [.ref o, .int a1] A Q) (hq : isR Q) (hd : dc < d) : Wc sc d 13 [.ref o, .int (zI 11), .int a1, .int a2, .int a3, .int a4, .int a5] A Q := by
  show Wv sc d 13 0 [some (.ref o), some (.int (zI 11)), some (.int a1), some (.int a2), some (.int a3), some (.int a4), some (.int a5)] [] A _
  refine wv_s f13_0 rfl (fun _ => rfl) ?_
  refine wv_s (pc' := 168) f13_1 rfl (fun _ => rfl) ?_
  refine wv_s f13_168 rfl (fun _ => rfl) ?_
  refine wv_s f13_169 rfl (fun _ => rfl) ?_
  exact wv_tail f13_170 (by decide) rfl (by decide +kernel) h1 hcl (by decide +kernel) rfl hc hd hq f13_173 (gRet_int (by decide +kernel)) (fun E => rfl) (by decide +kernel)
theorem c13_12 (h1 : A.1 o = some cc) (hcl : vCls cc = some 11) (hc : Wc sc dc 51 [.ref o, .int a1] A Q) (hq : isR Q) (hd : dc < d) : Wc sc d 13 [.ref o, .int (zI 12), .int a1, .int a2, .int a3, .int a4, .int a5] A Q := by
  show Wv sc d 13 0 [some (.ref o), some (.int (zI 12)), some (.int a1), some (.int a2), some (.int a3), some (.int a4), some (.int a5)] [] A _
  refine wv_s f13_0 rfl (fun _ => rfl) ?_
  refine wv_s (pc' := 174) f13_1 rfl (fun _ => rfl) ?_
  refine wv_s f13_174 rfl (fun _ => rfl) ?_
  refine wv_s f13_175 rfl (fun _ => rfl) ?_
  exact wv_tail f13_176 (by decide) rfl (by decide +kernel) h1 hcl (by decide +kernel) rfl hc hd hq f13_179 (gRet_int (by decide +kernel)) (fun E => rfl) (by decide +kernel)
theorem c13_13 (h1 : A.1 o = some cc) (hcl : vCls cc = some 11) (hc : Wc sc dc 31 [.ref o, .int a1] A Q) (hq : isR Q) (hd : dc < d) : Wc sc d 13 [.ref o, .int (zI 13), .int a1, .int a2, .int a3, .int a4, .int a5] A Q := by
  show Wv sc d 13 0 [some (.ref o), some (.int (zI 13)), some (.int a1), some (.int a2), some (.int a3), some (.int a4), some (.int a5)] [] A _
  refine wv_s f13_0 rfl (fun _ => rfl) ?_
  refine wv_s (pc' := 180) f13_1 rfl (fun _ => rfl) ?_
  refine wv_s f13_180 rfl (fun _ => rfl) ?_
  refine wv_s f13_181 rfl (fun _ => rfl) ?_
  exact wv_tail f13_182 (by decide) rfl (by decide +kernel) h1 hcl (by decide +kernel) rfl hc hd hq f13_185 (gRet_int (by decide +kernel)) (fun E => rfl) (by decide +kernel)
theorem c13_14 (h1 : A.1 o = some cc) (hcl : vCls cc = some 11) (hc : Wc sc dc 98 [.ref o, .int a1] A Q) (hq : isR Q) (hd : dc < d) : Wc sc d 13 [.ref o, .int (zI 14), .int a1, .int a2, .int a3, .int a4, .int a5] A Q := by
  show Wv sc d 13 0 [some (.ref o), some (.int (zI 14)), some (.int a1), some (.int a2), some (.int a3), some (.int a4), some (.int a5)] [] A _
  refine wv_s f13_0 rfl (fun _ => rfl) ?_
  refine wv_s (pc' := 186) f13_1 rfl (fun _ => rfl) ?_
  refine wv_s f13_186 rfl (fun _ => rfl) ?_
  refine wv_s f13_187 rfl (fun _ => rfl) ?_
  exact wv_tail f13_188 (by decide) rfl (by decide +kernel) h1 hcl (by decide +kernel) rfl hc hd hq f13_191 (gRet_int (by decide +kernel)) (fun E => rfl) (by decide +kernel)
theorem c13_15 (h1 : A.1 o = some cc) (hcl : vCls cc = some 11) (hc : Wc sc dc 94 [.ref o] A Q) (hq : isR Q) (hd : dc < d) : Wc sc d 13 [.ref o, .int (zI 15), .int a1, .int a2, .int a3, .int a4, .int a5] A Q := by
  show Wv sc d 13 0 [some (.ref o), some (.int (zI 15)), some (.int a1), some (.int a2), some (.int a3), some (.int a4), some (.int a5)] [] A _
  refine wv_s f13_0 rfl (fun _ => rfl) ?_
  refine wv_s (pc' := 192) f13_1 rfl (fun _ => rfl) ?_
  refine wv_s f13_192 rfl (fun _ => rfl) ?_
  exact wv_tail f13_193 (by decide) rfl (by decide +kernel) h1 hcl (by decide +kernel) rfl hc hd hq f13_196 (gRet_int (by decide +kernel)) (fun E => rfl) (by decide +kernel)
theorem c13_16 (h1 : A.1 o = some cc) (hcl : vCls cc = some 11) (hc : Wc sc dc 23 [.ref o] A Q) (hq : isR Q) (hd : dc < d) : Wc sc d 13 [.ref o, .int (zI 16), .int a1, .int a2, .int a3, .int a4, .int a5] A Q := by
  show Wv sc d 13 0 [some (.ref o), some (.int (zI 16)), some (.int a1), some (.int a2), some (.int a3), some (.int a4), some (.int a5)] [] A _
  refine wv_s f13_0 rfl (fun _ => rfl) ?_
  refine wv_s (pc' := 197) f13_1 rfl (fun _ => rfl) ?_
  refine wv_s f13_197 rfl (fun _ => rfl) ?_
  exact wv_tail f13_198 (by decide) rfl (by decide +kernel) h1 hcl (by decide +kernel) rfl hc hd hq f13_201 (gRet_int (by decide +kernel)) (fun E => rfl) (by decide +kernel)
theorem c13_17 (h1 : A.1 o = some cc) (hcl : vCls cc = some 11) (hc : Wc sc dc 88 [.ref o, .int a1] A Q) (hq : isR Q) (hd : dc < d) : Wc sc d 13 [.ref o, .int (zI 17), .int a1, .int a2, .int a3, .int a4, .int a5] A Q := by
  show Wv sc d 13 0 [some (.ref o), some (.int (zI 17)), some (.int a1), some (.int a2), some (.int a3), some (.int a4), some (.int a5)] [] A _
  refine wv_s f13_0 rfl (fun _ => rfl) ?_
  refine wv_s (pc' := 202) f13_1 rfl (fun _ => rfl) ?_
  refine wv_s f13_202 rfl (fun _ => rfl) ?_
  refine wv_s f13_203 rfl (fun _ => rfl) ?_
  exact wv_tail f13_204 (by decide) rfl (by decide +kernel) h1 hcl (by decide +kernel) rfl hc hd hq f13_207 (gRet_int (by decide +kernel)) (fun E => rfl) (by decide +kernel)
theorem c15_0 (h1 : A.1 o = some cc) (hcl : vCls cc = some 11) (hc : Wc sc dc 55 [.ref o, .int a1, .int a2, .int a3] A Q) (hq : isR Q) (hd : dc < d) : Wc sc d 15 [.ref o, .int (zI 0), .int a1, .int a2, .int a3, .int a4] A Q := by
  show Wv sc d 15 0 [some (.ref o), some (.int (zI 0)), some (.int a1), some (.int a2), some (.int a3), some (.int a4)] [] A _
  refine wv_s f15_0 rfl (fun _ => rfl) ?_
  refine wv_s (pc' := 64) f15_1 rfl (fun _ => rfl) ?_
  refine wv_s f15_64 rfl (fun _ => rfl) ?_
  refine wv_s f15_65 rfl (fun _ => rfl) ?_
  refine wv_s f15_66 rfl (fun _ => rfl) ?_
  refine wv_s f15_67 rfl (fun _ => rfl) ?_
  exact wv_tail f15_69 (by decide) rfl (by decide +kernel) h1 hcl (by decide +kernel) rfl hc hd hq f15_72 (gRet_int (by decide +kernel)) (fun E => rfl) (by decide +kernel)
theorem c15_1 (h1 : A.1 o = some cc) (hcl : vCls cc = some 11) (hc : Wc sc dc 56 [.ref o, .int a1, .int a2, .int a3] A Q) (hq : isR Q) (hd : dc < d) : Wc sc d 15 [.ref o, .int (zI 1), .int a1, .int a2, .int a3, .int a4] A Q := by
  show Wv sc d 15 0 [some (.ref o), some (.int (zI 1)), some (.int a1), some (.int a2), some (.int a3), some (.int a4)] [] A _
  refine wv_s f15_0 rfl (fun _ => rfl) ?_
  refine wv_s (pc' := 73) f15_1 rfl (fun _ => rfl) ?_
  refine wv_s f15_73 rfl (fun _ => rfl) ?_
  refine wv_s f15_74 rfl (fun _ => rfl) ?_
  refine wv_s f15_75 rfl (fun _ => rfl) ?_
  refine wv_s f15_76 rfl (fun _ => rfl) ?_
  exact wv_tail f15_78 (by decide) rfl (by decide +kernel) h1 hcl (by decide +kernel) rfl hc hd hq f15_81 (gRet_int (by decide +kernel)) (fun E => rfl) (by decide +kernel)
theorem c15_2 (h1 : A.1 o = some cc) (hcl : vCls cc = some 11) (hc : Wc sc dc 96 [.ref o, .int a1] A Q) (hq : isR Q) (hd : dc < d) : Wc sc d 15 [.ref o, .int (zI 2), .int a1, .int a2, .int a3, .int a4] A Q := by
  show Wv sc d 15 0 [some (.ref o), some (.int (zI 2)), some (.int a1), some (.int a2), some (.int a3), some (.int a4)] [] A _
  refine wv_s f15_0 rfl (fun _ => rfl) ?_
  refine wv_s (pc' := 82) f15_1 rfl (fun _ => rfl) ?_
  refine wv_s f15_82 rfl (fun _ => rfl) ?_
  refine wv_s f15_83 rfl (fun _ => rfl) ?_
  exact wv_tail f15_84 (by decide) rfl (by decide +kernel) h1 hcl (by decide +kernel) rfl hc hd hq f15_87 (gRet_int (by decide +kernel)) (fun E => rfl) (by decide +kernel)
theorem c15_3 (h1 : A.1 o = some cc) (hcl : vCls cc = some 11) (hc : Wc sc dc 58 [.ref o, .int a1] A Q) (hq : isR Q) (hd : dc < d) : Wc sc d 15 [.ref o, .int (zI 3), .int a1, .int a2, .int a3, .int a4] A Q := by
  show Wv sc d 15 0 [some (.ref o), some (.int (zI 3)), some (.int a1), some (.int a2), some (.int a3), some (.int a4)] [] A _
  refine wv_s f15_0 rfl (fun _ => rfl) ?_
  refine wv_s (pc' := 88) f15_1 rfl (fun _ => rfl) ?_
  refine wv_s f15_88 rfl (fun _ => rfl) ?_
  refine wv_s f15_89 rfl (fun _ => rfl) ?_
  exact wv_tail f15_90 (by decide) rfl (by decide +kernel) h1 hcl (by decide +kernel) rfl hc hd hq f15_93 (gRet_int (by decide +kernel)) (fun E => rfl) (by decide +kernel)
theorem c15_4 (h1 : A.1 o = some cc) (hcl : vCls cc = some 11) (hc : Wc sc dc 90 [.ref o, .int a1, .int a2] A Q) (hq : isR Q) (hd : dc < d) : Wc sc d 15 [.ref o, .int (zI 4), .int a1, .int a2, .int a3, .int a4] A Q := by
  show Wv sc d 15 0 [some (.ref o), some (.int (zI 4)), some (.int a1), some (.int a2), some (.int a3), some (.int a4)] [] A _
  refine wv_s f15_0 rfl (fun _ => rfl) ?_
  refine wv_s (pc' := 94) f15_1 rfl (fun _ => rfl) ?_
  refine wv_s f15_94 rfl (fun _ => rfl) ?_
  refine wv_s f15_95 rfl (fun _ => rfl) ?_
  refine wv_s f15_96 rfl (fun _ => rfl) ?_
  exact wv_tail f15_97 (by decide) rfl (by decide +kernel) h1 hcl (by decide +kernel) rfl hc hd hq f15_100 (gRet_int (by decide +kernel)) (fun E => rfl) (by decide +kernel)
theorem c15_5 (h1 : A.1 o = some cc) (hcl : vCls cc = some 11) (hc : Wc sc dc 48 [.ref o, .int a1, .int a2, .int a3] A Q) (hq : isR Q) (hd : dc < d) : Wc sc d 15 [.ref o, .int (zI 5), .int a1, .int a2, .int a3, .int a4] A Q := by
  show Wv sc d 15 0 [some (.ref o), some (.int (zI 5)), some (.int a1), some (.int a2), some (.int a3), some (.int a4)] [] A _
  refine wv_s f15_0 rfl (fun _ => rfl) ?_
  refine wv_s (pc' := 101) f15_1 rfl (fun _ => rfl) ?_
  refine wv_s f15_101 rfl (fun _ => rfl) ?_
  refine wv_s f15_102 rfl (fun _ => rfl) ?_
  refine wv_s f15_103 rfl (fun _ => rfl) ?_
  refine wv_s f15_104 rfl (fun _ => rfl) ?_
  exact wv_tail f15_106 (by decide) rfl (by decide +kernel) h1 hcl (by decide +kernel) rfl hc hd hq f15_109 (gRet_int (by decide +kernel)) (fun E => rfl) (by decide +kernel)
theorem c15_6 (h1 : A.1 o = some cc) (hcl : vCls cc = some 11) (hc : Wc sc dc 45 [.ref o, .int a1, .int a2, .int a3] A Q) (hq : isR Q) (hd : dc < d) : Wc sc d 15 [.ref o, .int (zI 6), .int a1, .int a2, .int a3, .int a4] A Q := by
  show Wv sc d 15 0 [some (.ref o), some (.int (zI 6)), some (.int a1), some (.int a2), some (.int a3), some (.int a4)] [] A _
  refine wv_s f15_0 rfl (fun _ => rfl) ?_
  refine wv_s (pc' := 110) f15_1 rfl (fun _ => rfl) ?_
  refine wv_s f15_110 rfl (fun _ => rfl) ?_
  refine wv_s f15_111 rfl (fun _ => rfl) ?_
  refine wv_s f15_112 rfl (fun _ => rfl) ?_
  refine wv_s f15_113 rfl (fun _ => rfl) ?_
  exact wv_tail f15_115 (by decide) rfl (by decide +kernel) h1 hcl (by decide +kernel) rfl hc hd hq f15_118 (gRet_int (by decide +kernel)) (fun E => rfl) (by decide +kernel)
theorem c15_7 (h1 : A.1 o = some cc) (hcl : vCls cc = some 11) (hc : Wc sc dc 86 [.ref o, .int a1, .int a2, .int a3] A Q) (hq : isR Q) (hd : dc < d) : Wc sc d 15 [.ref o, .int (zI 7), .int a1, .int a2, .int a3, .int a4] A Q := by
  show Wv sc d 15 0 [some (.ref o), some (.int (zI 7)), some (.int a1), some (.int a2), some (.int a3), some (.int a4)] [] A _
  refine wv_s f15_0 rfl (fun _ => rfl) ?_
  refine wv_s (pc' := 119) f15_1 rfl (fun _ => rfl) ?_
  refine wv_s f15_119 rfl (fun _ => rfl) ?_
  refine wv_s f15_120 rfl (fun _ => rfl) ?_
  refine wv_s f15_121 rfl (fun _ => rfl) ?_
  refine wv_s f15_122 rfl (fun _ => rfl) ?_
  exact wv_tail f15_124 (by decide) rfl (by decide +kernel) h1 hcl (by decide +kernel) rfl hc hd hq f15_127 (gRet_int (by decide +kernel)) (fun E => rfl) (by decide +kernel)
theorem c15_8 (h1 : A.1 o = some cc) (hcl : vCls cc = some 11) (hc : Wc sc dc 27 [.ref o, .int a1, .int a2, .int a3, .int (zI 0)] A Q) (hq : isR Q) (hd : dc < d) : Wc sc d 15 [.ref o, .int (zI 8), .int a1, .int a2, .int a3, .int a4] A Q := by
  show Wv sc d 15 0 [some (.ref o), some (.int (zI 8)), some (.int a1), some (.int a2), some (.int a3), some (.int a4)] [] A _
  refine wv_s f15_0 rfl (fun _ => rfl) ?_
  refine wv_s (pc' := 128) f15_1 rfl (fun _ => rfl) ?_
  refine wv_s f15_128 rfl (fun _ => rfl) ?_
  refine wv_s f15_129 rfl (fun _ => rfl) ?_
  refine wv_s f15_130 rfl (fun _ => rfl) ?_
  refine wv_s f15_131 rfl (fun _ => rfl) ?_
  refine wv_icon f15_133 ?_
  exact wv_tail f15_134 (by decide) rfl (by decide +kernel) h1 hcl (by decide +kernel) rfl hc hd hq f15_137 (gRet_int (by decide +kernel)) (fun E => rfl) (by decide +kernel)
theorem c15_9 (h1 : A.1 o = some cc) (hcl : vCls cc = some 11) (hc : Wc sc dc 27 [.ref o, .int a1, .int a2, .int a3, .int (zI 1)] A Q) (hq : isR Q) (hd : dc < d) : Wc sc d 15 [.ref o, .int (zI 9), .int a1, .int a2, .int a3, .int a4] A Q := by
  show Wv sc d 15 0 [some (.ref o), some (.int (zI 9)), some (.int a1), some (.int a2), some (.int a3), some (.int a4)] [] A _
  refine wv_s f15_0 rfl (fun _ => rfl) ?_
  refine wv_s (pc' := 138) f15_1 rfl (fun _ => rfl) ?_
  refine wv_s f15_138 rfl (fun _ => rfl) ?_
  refine wv_s f15_139 rfl (fun _ => rfl) ?_
  refine wv_s f15_140 rfl (fun _ => rfl) ?_
  refine wv_s f15_141 rfl (fun _ => rfl) ?_
  refine wv_icon f15_143 ?_
  exact wv_tail f15_144 (by decide) rfl (by decide +kernel) h1 hcl (by decide +kernel) rfl hc hd hq f15_147 (gRet_int (by decide +kernel)) (fun E => rfl) (by decide +kernel)
theorem c15_11 (h1 : A.1 o = some cc) (hcl : vCls cc = some 11) (hc : Wc sc dc 91 [.ref o, .int a1, .int a2] A Q) (hq : isR Q) (hd : dc < d) : Wc sc d 15 [.ref o, .int (zI 11), .int a1, .int a2, .int a3, .int a4] A Q := by
  show Wv sc d 15 0 [some (.ref o), some (.int (zI 11)), some (.int a1), some (.int a2), some (.int a3), some (.int a4)] [] A _
  refine wv_s f15_0 rfl (fun _ => rfl) ?_
  refine wv_s (pc' := 162) f15_1 rfl (fun _ => rfl) ?_
  refine wv_s f15_162 rfl (fun _ => rfl) ?_
  refine wv_s f15_163 rfl (fun _ => rfl) ?_
  refine wv_s f15_164 rfl (fun _ => rfl) ?_
  exact wv_tail f15_165 (by decide) rfl (by decide +kernel) h1 hcl (by decide +kernel) rfl hc hd hq f15_168 (gRet_int (by decide +kernel)) (fun E => rfl) (by decide +kernel)
theorem c15_12 (h1 : A.1 o = some cc) (hcl : vCls cc = some 11) (hc : Wc sc dc 37 [.ref o, .int a1, .int a2] A Q) (hq : isR Q) (hd : dc < d) : Wc sc d 15 [.ref o, .int (zI 12), .int a1, .int a2, .int a3, .int a4] A Q := by
  show Wv sc d 15 0 [some (.ref o), some (.int (zI 12)), some (.int a1), some (.int a2), some (.int a3), some (.int a4)] [] A _
  refine wv_s f15_0 rfl (fun _ => rfl) ?_
  refine wv_s (pc' := 169) f15_1 rfl (fun _ => rfl) ?_
  refine wv_s f15_169 rfl (fun _ => rfl) ?_
  refine wv_s f15_170 rfl (fun _ => rfl) ?_
  refine wv_s f15_171 rfl (fun _ => rfl) ?_
  exact wv_tail f15_172 (by decide) rfl (by decide +kernel) h1 hcl (by decide +kernel) rfl hc hd hq f15_175 (gRet_int (by decide +kernel)) (fun E => rfl) (by decide +kernel)
def ctD (v : gO) : gO := match v with
  | .inl v => .inl v
  | .inr 0 => .inl (some (.int (zI (-2000001))))
  | .inr 1 => .inl (some (.int (zI (-2000002))))
  | .inr 2 => .inl (some (.int (zI (-2000003))))
  | .inr _ => .inl (some (.int (zI (-2000005))))
theorem c2_w {a0 : Int32} {Qc : gO → gA → Prop} (hc : Wc sc dc 13 [.ref o, .int a0, .int a1, .int a2, .int a3, .int a4, .int a5] A Qc) (hq : isR Qc) (hd : dc < d) (h : ∀ v A', Qc v A' → Q (ctD v) A') : Wc sc d 2 [.ref o, .int a0, .int a1, .int a2, .int a3, .int a4, .int a5] A Q := by
  show Wv sc d 2 0 [some (.ref o), some (.int a0), some (.int a1), some (.int a2), some (.int a3), some (.int a4), some (.int a5), none] [] A _
  refine wv_s f2_0 rfl (fun _ => rfl) ?_
  refine wv_s f2_1 rfl (fun _ => rfl) ?_
  refine wv_s f2_2 rfl (fun _ => rfl) ?_
  refine wv_s f2_3 rfl (fun _ => rfl) ?_
  refine wv_s f2_4 rfl (fun _ => rfl) ?_
  refine wv_s f2_6 rfl (fun _ => rfl) ?_
  refine wv_s f2_8 rfl (fun _ => rfl) ?_
  refine wv_invS f2_10 (by decide) (by simp) (by simp) (by decide +kernel) hc hd (fun v A' hv => ?_)
  have hQ := h v A' hv
  rcases hq v A' hv with ⟨X, rfl⟩ | ⟨E, rfl⟩
  · exact wv_iret f2_13 (gRet_int (by decide +kernel) X) hQ
  · match E, hQ with
    | 0, hQ =>
      refine ⟨rfl, .inl ⟨14, 7, 16, rfl, ?_⟩⟩
      refine wv_ldcI (k := -2000001) f2_16 (by decide) ?_
      exact wv_iret f2_18 (by rfl) (hQ)
    | 1, hQ =>
      refine ⟨rfl, .inl ⟨19, 7, 21, rfl, ?_⟩⟩
      refine wv_ldcI (k := -2000002) f2_21 (by decide) ?_
      exact wv_iret f2_23 (by rfl) (hQ)
    | 2, hQ =>
      refine ⟨rfl, .inl ⟨24, 7, 26, rfl, ?_⟩⟩
      refine wv_ldcI (k := -2000003) f2_26 (by decide) ?_
      exact wv_iret f2_28 (by rfl) (hQ)
    | E + 3, hQ =>
      refine ⟨rfl, .inl ⟨29, 7, 31, rfl, ?_⟩⟩
      refine wv_ldcI (k := -2000005) f2_31 (by decide) ?_
      exact wv_iret f2_33 (by rfl) (hQ)
theorem c8_w {a0 : Int32} {Qc : gO → gA → Prop} (hc : Wc sc dc 15 [.ref o, .int a0, .int a1, .int a2, .int a3, .int a4] A Qc) (hq : isR Qc) (hd : dc < d) (h : ∀ v A', Qc v A' → Q (ctD v) A') (h2 : ∀ A', ¬ Qc (.inr 2) A') : Wc sc d 8 [.ref o, .int a0, .int a1, .int a2, .int a3, .int a4] A Q := by
  show Wv sc d 8 0 [some (.ref o), some (.int a0), some (.int a1), some (.int a2), some (.int a3), some (.int a4), none] [] A _
  refine wv_s f8_0 rfl (fun _ => rfl) ?_
  refine wv_s f8_1 rfl (fun _ => rfl) ?_
  refine wv_s f8_2 rfl (fun _ => rfl) ?_
  refine wv_s f8_3 rfl (fun _ => rfl) ?_
  refine wv_s f8_4 rfl (fun _ => rfl) ?_
  refine wv_s f8_6 rfl (fun _ => rfl) ?_
  refine wv_invS f8_8 (by decide) (by simp) (by simp) (by decide +kernel) hc hd (fun v A' hv => ?_)
  have hQ := h v A' hv
  rcases hq v A' hv with ⟨X, rfl⟩ | ⟨E, rfl⟩
  · exact wv_iret f8_11 (gRet_int (by decide +kernel) X) hQ
  · match E, hQ, hv with
    | 0, hQ, _ =>
      refine ⟨rfl, .inl ⟨12, 6, 14, rfl, ?_⟩⟩
      refine wv_ldcI (k := -2000001) f8_14 (by decide) ?_
      exact wv_iret f8_16 (by rfl) (hQ)
    | 1, hQ, _ =>
      refine ⟨rfl, .inl ⟨17, 6, 19, rfl, ?_⟩⟩
      refine wv_ldcI (k := -2000002) f8_19 (by decide) ?_
      exact wv_iret f8_21 (by rfl) (hQ)
    | 2, _, hv => exact (h2 _ hv).elim
    | E + 3, hQ, _ =>
      refine ⟨rfl, .inl ⟨22, 6, 24, rfl, ?_⟩⟩
      refine wv_ldcI (k := -2000005) f8_24 (by decide) ?_
      exact wv_iret f8_26 (by rfl) (hQ)
end DS
