/-! ROWS OVER VIEWS -/
def zI (x : Int) : Int32 := Int32.ofInt x
def bI (b : Bool) : Int32 := if b then 1 else 0
abbrev i32 (a : Int) : Prop := -2147483648 ≤ a ∧ a < 2147483648
theorem zI_nat (n : Nat) : zI (n : Int) = nI n := Int32.ofInt_eq_ofNat
theorem zI_add (a b : Int) : zI a + zI b = zI (a + b) := (Int32.ofInt_add a b).symm
theorem zI_sub (a b : Int) : zI a - zI b = zI (a - b) := (Int32.ofInt_sub a b).symm
theorem zI_mul (a b : Int) : zI a * zI b = zI (a * b) := (Int32.ofInt_mul a b).symm
theorem zI_int {a : Int} (h : i32 a) : (zI a).toInt = a := Int32.toInt_ofInt_of_le h.1 h.2
theorem zI_lt {a b : Int} (ha : i32 a) (hb : i32 b) : zI a < zI b ↔ a < b := by rw [Int32.lt_iff_toInt_lt, zI_int ha, zI_int hb]
theorem zI_le {a b : Int} (ha : i32 a) (hb : i32 b) : zI a ≤ zI b ↔ a ≤ b := by rw [Int32.le_iff_toInt_le, zI_int ha, zI_int hb]
theorem zI_eq {a b : Int} (ha : i32 a) (hb : i32 b) : zI a = zI b ↔ a = b := by rw [← Int32.toInt_inj, zI_int ha, zI_int hb]
theorem zI_div {a b : Int} (ha : 0 ≤ a) (ha2 : a < 2147483648) (hb : 0 < b) (hb2 : b < 2147483648) : zI a / zI b = zI (a / b) := by
  have h0 : 0 ≤ a / b := Int.ediv_nonneg ha (by omega)
  have h1 : a / b ≤ a := Int.ediv_le_self b ha
  rw [← Int32.toInt_inj, Int32.toInt_div_of_ne_left _ _ (by
    intro h9
    have := congrArg Int32.toInt h9
    rw [zI_int ⟨by omega, ha2⟩, Int32.toInt_minValue] at this
    omega), zI_int ⟨by omega, ha2⟩, zI_int ⟨by omega, hb2⟩, zI_int ⟨by omega, by omega⟩, Int.tdiv_eq_ediv_of_nonneg ha]
theorem zI_rem {a b : Int} (ha : 0 ≤ a) (ha2 : a < 2147483648) (hb : 0 < b) (hb2 : b < 2147483648) : zI a - zI a / zI b * zI b = zI (a % b) := by
  rw [zI_div ha ha2 hb hb2, zI_mul, zI_sub]
  congr 1
  have := Int.mul_ediv_add_emod a b
  rw [Int.mul_comm] at this
  omega
theorem zI_clamp {i : Int} {j : Nat} (hj : i = (j : Int)) (h : j < 2 ^ 31) : (zI i).toNatClampNeg = j := by
  subst hj
  rw [zI_nat]
  exact nI_clamp h
theorem zI_neg' {i : Int} {j : Nat} (hj : i = (j : Int)) (h : j < 2 ^ 31) : ¬ zI i < 0 := by
  subst hj
  rw [zI_nat]
  exact nI_pos h
theorem zI_in {i : Int} {j k : Nat} (hj : i = (j : Int)) (h : j < k) (hk : k < 2 ^ 31) : ¬ (zI i < 0 ∨ k ≤ (zI i).toNatClampNeg) := by
  subst hj
  rw [zI_nat]
  exact nI_in h hk
def Wv (sc : gSc) (d m pc : Nat) (ls : gL) (st : List Value) (A : gA) (Q : gO → gA → Prop) : Prop := ∀ h, Rp h A → Wq sc d m pc ls st h (fun o h' => ∃ A', Rp h' A' ∧ Q o A')
def Wc (sc : gSc) (d a : Nat) (av : List Value) (A : gA) (Q : gO → gA → Prop) : Prop := Wv sc d a 0 (gStart a av) [] A Q
section WV
variable {sc : gSc} {d m pc pc' : Nat} {ls ls' : gL} {st st' : List Value} {A : gA} {Q : gO → gA → Prop} {q : gI} {a b len i ci k r tgt b9 : Nat} {fs : List Value} {v w : Value} {off : Int} {x y : Int} {X Y : Int32}
theorem Wv.up {d' : Nat} {Q' : gO → gA → Prop} (hw : Wv sc d m pc ls st A Q) (hd : d ≤ d') (hq : ∀ o A', Q o A' → Q' o A') : Wv sc d' m pc ls st A Q' := fun h hR => (hw h hR).up hd (fun o h' ⟨A', h1, h2⟩ => ⟨A', h1, hq o A' h2⟩)
theorem Wc.up {d' : Nat} {av : List Value} {Q' : gO → gA → Prop} (hw : Wc sc d a av A Q) (hd : d ≤ d') (hq : ∀ o A', Q o A' → Q' o A') : Wc sc d' a av A Q' := Wv.up hw hd hq
theorem wv_s (hf : gFetch m pc = some q) (hk : gSmp q.1 = true) (hs : ∀ h, gStep sc q pc ls st h = some (pc', ls', st', h)) (hn : Wv sc d m pc' ls' st' A Q) : Wv sc d m pc ls st A Q := fun h hR => wq_s hf hk (hs h) (hn h hR)
theorem wv_bip {n : Int} (hf : gFetch m pc = some (.bipush n, len, a, b)) (hz : (Int8.ofInt n).toInt32 = zI n) (hn : Wv sc d m (pc + 2) ls (.int (zI n) :: st) A Q) : Wv sc d m pc ls st A Q := wv_s hf rfl (fun h => by simp only [gStep, hz]) hn
theorem wv_sip {n : Int} (hf : gFetch m pc = some (.sipush n, len, a, b)) (hz : (Int16.ofInt n).toInt32 = zI n) (hn : Wv sc d m (pc + 3) ls (.int (zI n) :: st) A Q) : Wv sc d m pc ls st A Q := wv_s hf rfl (fun h => by simp only [gStep, hz]) hn
theorem wv_icon {n : Int} (hf : gFetch m pc = some (.iconst n, len, a, b)) (hn : Wv sc d m (pc + 1) ls (.int (zI n) :: st) A Q) : Wv sc d m pc ls st A Q := wv_s hf rfl (fun h => rfl) hn
theorem wv_iadd (hf : gFetch m pc = some (.iadd, len, a, b)) (hn : Wv sc d m (pc + 1) ls (.int (zI (x + y)) :: st) A Q) : Wv sc d m pc ls (.int (zI y) :: .int (zI x) :: st) A Q := wv_s hf rfl (fun h => by simp only [gStep, zI_add]) hn
theorem wv_isub (hf : gFetch m pc = some (.isub, len, a, b)) (hn : Wv sc d m (pc + 1) ls (.int (zI (x - y)) :: st) A Q) : Wv sc d m pc ls (.int (zI y) :: .int (zI x) :: st) A Q := wv_s hf rfl (fun h => by simp only [gStep, zI_sub]) hn
theorem wv_imul (hf : gFetch m pc = some (.imul, len, a, b)) (hn : Wv sc d m (pc + 1) ls (.int (zI (x * y)) :: st) A Q) : Wv sc d m pc ls (.int (zI y) :: .int (zI x) :: st) A Q := wv_s hf rfl (fun h => by simp only [gStep, zI_mul]) hn
theorem wv_idiv (hf : gFetch m pc = some (.idiv, len, a, b)) (h0 : 0 ≤ x ∧ x < 2147483648 ∧ 0 < y ∧ y < 2147483648) (hn : Wv sc d m (pc + 1) ls (.int (zI (x / y)) :: st) A Q) : Wv sc d m pc ls (.int (zI y) :: .int (zI x) :: st) A Q := by
  refine wv_s hf rfl (fun h => ?_) hn
  have hz : ¬ zI y = 0 := fun w => by
    have := (zI_eq (b := 0) ⟨by omega, by omega⟩ ⟨by omega, by omega⟩).mp w
    omega
  simp only [gStep, if_neg hz, zI_div h0.1 h0.2.1 h0.2.2.1 h0.2.2.2]
theorem wv_irem (hf : gFetch m pc = some (.irem, len, a, b)) (h0 : 0 ≤ x ∧ x < 2147483648 ∧ 0 < y ∧ y < 2147483648) (hn : Wv sc d m (pc + 1) ls (.int (zI (x % y)) :: st) A Q) : Wv sc d m pc ls (.int (zI y) :: .int (zI x) :: st) A Q := by
  refine wv_s hf rfl (fun h => ?_) hn
  have hz : ¬ zI y = 0 := fun w => by
    have := (zI_eq (b := 0) ⟨by omega, by omega⟩ ⟨by omega, by omega⟩).mp w
    omega
  simp only [gStep, if_neg hz, zI_rem h0.1 h0.2.1 h0.2.2.1 h0.2.2.2]
theorem wv_cT_lt (hf : gFetch m pc = some (.if_icmp .lt off, len, tgt, b9)) (hx : i32 x) (hy : i32 y) (hp : x < y) (hn : Wv sc d m tgt ls st A Q) : Wv sc d m pc ls (.int (zI y) :: .int (zI x) :: st) A Q := fun h hR => wq_ict hf (decide_eq_true ((zI_lt hx hy).mpr hp)) (hn h hR)
theorem wv_cF_lt (hf : gFetch m pc = some (.if_icmp .lt off, len, tgt, b9)) (hx : i32 x) (hy : i32 y) (hp : y ≤ x) (hn : Wv sc d m (pc + 3) ls st A Q) : Wv sc d m pc ls (.int (zI y) :: .int (zI x) :: st) A Q := fun h hR => wq_icf hf (decide_eq_false (fun w => by have := (zI_lt hx hy).mp w; omega)) (hn h hR)
theorem wv_cX_lt (hf : gFetch m pc = some (.if_icmp .lt off, len, tgt, b9)) (hx : i32 x) (hy : i32 y) (h1 : x < y → Wv sc d m tgt ls st A Q) (h2 : y ≤ x → Wv sc d m (pc + 3) ls st A Q) : Wv sc d m pc ls (.int (zI y) :: .int (zI x) :: st) A Q := (Decidable.em (x < y)).elim (fun hp => wv_cT_lt hf hx hy hp (h1 hp)) (fun hp => wv_cF_lt hf hx hy (by omega) (h2 (by omega)))
theorem wv_zT_lt (hf : gFetch m pc = some (.ifCond .lt off, len, tgt, b9)) (hx : i32 x) (hp : x < 0) (hn : Wv sc d m tgt ls st A Q) : Wv sc d m pc ls (.int (zI x) :: st) A Q := fun h hR => wq_ift hf (show gTest .lt (zI x) (zI 0) = true from decide_eq_true ((zI_lt hx (show i32 0 by decide)).mpr hp)) (hn h hR)
theorem wv_zF_lt (hf : gFetch m pc = some (.ifCond .lt off, len, tgt, b9)) (hx : i32 x) (hp : 0 ≤ x) (hn : Wv sc d m (pc + 3) ls st A Q) : Wv sc d m pc ls (.int (zI x) :: st) A Q := fun h hR => wq_iff hf (show gTest .lt (zI x) (zI 0) = false from decide_eq_false (fun w => by have := (zI_lt hx (show i32 0 by decide)).mp w; omega)) (hn h hR)
theorem wv_zX_lt (hf : gFetch m pc = some (.ifCond .lt off, len, tgt, b9)) (hx : i32 x) (h1 : x < 0 → Wv sc d m tgt ls st A Q) (h2 : 0 ≤ x → Wv sc d m (pc + 3) ls st A Q) : Wv sc d m pc ls (.int (zI x) :: st) A Q := (Decidable.em (x < 0)).elim (fun hp => wv_zT_lt hf hx hp (h1 hp)) (fun hp => wv_zF_lt hf hx (by omega) (h2 (by omega)))
theorem wv_cT_ge (hf : gFetch m pc = some (.if_icmp .ge off, len, tgt, b9)) (hx : i32 x) (hy : i32 y) (hp : y ≤ x) (hn : Wv sc d m tgt ls st A Q) : Wv sc d m pc ls (.int (zI y) :: .int (zI x) :: st) A Q := fun h hR => wq_ict hf (decide_eq_true ((zI_le hy hx).mpr hp)) (hn h hR)
theorem wv_cF_ge (hf : gFetch m pc = some (.if_icmp .ge off, len, tgt, b9)) (hx : i32 x) (hy : i32 y) (hp : x < y) (hn : Wv sc d m (pc + 3) ls st A Q) : Wv sc d m pc ls (.int (zI y) :: .int (zI x) :: st) A Q := fun h hR => wq_icf hf (decide_eq_false (fun w => by have := (zI_le hy hx).mp w; omega)) (hn h hR)
theorem wv_cX_ge (hf : gFetch m pc = some (.if_icmp .ge off, len, tgt, b9)) (hx : i32 x) (hy : i32 y) (h1 : y ≤ x → Wv sc d m tgt ls st A Q) (h2 : x < y → Wv sc d m (pc + 3) ls st A Q) : Wv sc d m pc ls (.int (zI y) :: .int (zI x) :: st) A Q := (Decidable.em (y ≤ x)).elim (fun hp => wv_cT_ge hf hx hy hp (h1 hp)) (fun hp => wv_cF_ge hf hx hy (by omega) (h2 (by omega)))
theorem wv_zT_ge (hf : gFetch m pc = some (.ifCond .ge off, len, tgt, b9)) (hx : i32 x) (hp : 0 ≤ x) (hn : Wv sc d m tgt ls st A Q) : Wv sc d m pc ls (.int (zI x) :: st) A Q := fun h hR => wq_ift hf (show gTest .ge (zI x) (zI 0) = true from decide_eq_true ((zI_le (show i32 0 by decide) hx).mpr hp)) (hn h hR)
theorem wv_zF_ge (hf : gFetch m pc = some (.ifCond .ge off, len, tgt, b9)) (hx : i32 x) (hp : x < 0) (hn : Wv sc d m (pc + 3) ls st A Q) : Wv sc d m pc ls (.int (zI x) :: st) A Q := fun h hR => wq_iff hf (show gTest .ge (zI x) (zI 0) = false from decide_eq_false (fun w => by have := (zI_le (show i32 0 by decide) hx).mp w; omega)) (hn h hR)
theorem wv_zX_ge (hf : gFetch m pc = some (.ifCond .ge off, len, tgt, b9)) (hx : i32 x) (h1 : 0 ≤ x → Wv sc d m tgt ls st A Q) (h2 : x < 0 → Wv sc d m (pc + 3) ls st A Q) : Wv sc d m pc ls (.int (zI x) :: st) A Q := (Decidable.em (0 ≤ x)).elim (fun hp => wv_zT_ge hf hx hp (h1 hp)) (fun hp => wv_zF_ge hf hx (by omega) (h2 (by omega)))
theorem wv_cT_gt (hf : gFetch m pc = some (.if_icmp .gt off, len, tgt, b9)) (hx : i32 x) (hy : i32 y) (hp : y < x) (hn : Wv sc d m tgt ls st A Q) : Wv sc d m pc ls (.int (zI y) :: .int (zI x) :: st) A Q := fun h hR => wq_ict hf (decide_eq_true ((zI_lt hy hx).mpr hp)) (hn h hR)
theorem wv_cF_gt (hf : gFetch m pc = some (.if_icmp .gt off, len, tgt, b9)) (hx : i32 x) (hy : i32 y) (hp : x ≤ y) (hn : Wv sc d m (pc + 3) ls st A Q) : Wv sc d m pc ls (.int (zI y) :: .int (zI x) :: st) A Q := fun h hR => wq_icf hf (decide_eq_false (fun w => by have := (zI_lt hy hx).mp w; omega)) (hn h hR)
theorem wv_cX_gt (hf : gFetch m pc = some (.if_icmp .gt off, len, tgt, b9)) (hx : i32 x) (hy : i32 y) (h1 : y < x → Wv sc d m tgt ls st A Q) (h2 : x ≤ y → Wv sc d m (pc + 3) ls st A Q) : Wv sc d m pc ls (.int (zI y) :: .int (zI x) :: st) A Q := (Decidable.em (y < x)).elim (fun hp => wv_cT_gt hf hx hy hp (h1 hp)) (fun hp => wv_cF_gt hf hx hy (by omega) (h2 (by omega)))
theorem wv_zT_gt (hf : gFetch m pc = some (.ifCond .gt off, len, tgt, b9)) (hx : i32 x) (hp : 0 < x) (hn : Wv sc d m tgt ls st A Q) : Wv sc d m pc ls (.int (zI x) :: st) A Q := fun h hR => wq_ift hf (show gTest .gt (zI x) (zI 0) = true from decide_eq_true ((zI_lt (show i32 0 by decide) hx).mpr hp)) (hn h hR)
theorem wv_zF_gt (hf : gFetch m pc = some (.ifCond .gt off, len, tgt, b9)) (hx : i32 x) (hp : x ≤ 0) (hn : Wv sc d m (pc + 3) ls st A Q) : Wv sc d m pc ls (.int (zI x) :: st) A Q := fun h hR => wq_iff hf (show gTest .gt (zI x) (zI 0) = false from decide_eq_false (fun w => by have := (zI_lt (show i32 0 by decide) hx).mp w; omega)) (hn h hR)
theorem wv_zX_gt (hf : gFetch m pc = some (.ifCond .gt off, len, tgt, b9)) (hx : i32 x) (h1 : 0 < x → Wv sc d m tgt ls st A Q) (h2 : x ≤ 0 → Wv sc d m (pc + 3) ls st A Q) : Wv sc d m pc ls (.int (zI x) :: st) A Q := (Decidable.em (0 < x)).elim (fun hp => wv_zT_gt hf hx hp (h1 hp)) (fun hp => wv_zF_gt hf hx (by omega) (h2 (by omega)))
theorem wv_cT_le (hf : gFetch m pc = some (.if_icmp .le off, len, tgt, b9)) (hx : i32 x) (hy : i32 y) (hp : x ≤ y) (hn : Wv sc d m tgt ls st A Q) : Wv sc d m pc ls (.int (zI y) :: .int (zI x) :: st) A Q := fun h hR => wq_ict hf (decide_eq_true ((zI_le hx hy).mpr hp)) (hn h hR)
theorem wv_cF_le (hf : gFetch m pc = some (.if_icmp .le off, len, tgt, b9)) (hx : i32 x) (hy : i32 y) (hp : y < x) (hn : Wv sc d m (pc + 3) ls st A Q) : Wv sc d m pc ls (.int (zI y) :: .int (zI x) :: st) A Q := fun h hR => wq_icf hf (decide_eq_false (fun w => by have := (zI_le hx hy).mp w; omega)) (hn h hR)
theorem wv_cX_le (hf : gFetch m pc = some (.if_icmp .le off, len, tgt, b9)) (hx : i32 x) (hy : i32 y) (h1 : x ≤ y → Wv sc d m tgt ls st A Q) (h2 : y < x → Wv sc d m (pc + 3) ls st A Q) : Wv sc d m pc ls (.int (zI y) :: .int (zI x) :: st) A Q := (Decidable.em (x ≤ y)).elim (fun hp => wv_cT_le hf hx hy hp (h1 hp)) (fun hp => wv_cF_le hf hx hy (by omega) (h2 (by omega)))
theorem wv_zT_le (hf : gFetch m pc = some (.ifCond .le off, len, tgt, b9)) (hx : i32 x) (hp : x ≤ 0) (hn : Wv sc d m tgt ls st A Q) : Wv sc d m pc ls (.int (zI x) :: st) A Q := fun h hR => wq_ift hf (show gTest .le (zI x) (zI 0) = true from decide_eq_true ((zI_le hx (show i32 0 by decide)).mpr hp)) (hn h hR)
theorem wv_zF_le (hf : gFetch m pc = some (.ifCond .le off, len, tgt, b9)) (hx : i32 x) (hp : 0 < x) (hn : Wv sc d m (pc + 3) ls st A Q) : Wv sc d m pc ls (.int (zI x) :: st) A Q := fun h hR => wq_iff hf (show gTest .le (zI x) (zI 0) = false from decide_eq_false (fun w => by have := (zI_le hx (show i32 0 by decide)).mp w; omega)) (hn h hR)
theorem wv_zX_le (hf : gFetch m pc = some (.ifCond .le off, len, tgt, b9)) (hx : i32 x) (h1 : x ≤ 0 → Wv sc d m tgt ls st A Q) (h2 : 0 < x → Wv sc d m (pc + 3) ls st A Q) : Wv sc d m pc ls (.int (zI x) :: st) A Q := (Decidable.em (x ≤ 0)).elim (fun hp => wv_zT_le hf hx hp (h1 hp)) (fun hp => wv_zF_le hf hx (by omega) (h2 (by omega)))
theorem wv_cT_eq (hf : gFetch m pc = some (.if_icmp .eq off, len, tgt, b9)) (hx : i32 x) (hy : i32 y) (hp : x = y) (hn : Wv sc d m tgt ls st A Q) : Wv sc d m pc ls (.int (zI y) :: .int (zI x) :: st) A Q := fun h hR => wq_ict hf (decide_eq_true ((zI_eq hx hy).mpr hp)) (hn h hR)
theorem wv_cF_eq (hf : gFetch m pc = some (.if_icmp .eq off, len, tgt, b9)) (hx : i32 x) (hy : i32 y) (hp : ¬ x = y) (hn : Wv sc d m (pc + 3) ls st A Q) : Wv sc d m pc ls (.int (zI y) :: .int (zI x) :: st) A Q := fun h hR => wq_icf hf (decide_eq_false (fun w => hp ((zI_eq hx hy).mp w))) (hn h hR)
theorem wv_cX_eq (hf : gFetch m pc = some (.if_icmp .eq off, len, tgt, b9)) (hx : i32 x) (hy : i32 y) (h1 : x = y → Wv sc d m tgt ls st A Q) (h2 : ¬ x = y → Wv sc d m (pc + 3) ls st A Q) : Wv sc d m pc ls (.int (zI y) :: .int (zI x) :: st) A Q := (Decidable.em (x = y)).elim (fun hp => wv_cT_eq hf hx hy hp (h1 hp)) (fun hp => wv_cF_eq hf hx hy hp (h2 hp))
theorem wv_zT_eq (hf : gFetch m pc = some (.ifCond .eq off, len, tgt, b9)) (hx : i32 x) (hp : x = 0) (hn : Wv sc d m tgt ls st A Q) : Wv sc d m pc ls (.int (zI x) :: st) A Q := fun h hR => wq_ift hf (show gTest .eq (zI x) (zI 0) = true from decide_eq_true ((zI_eq hx (show i32 0 by decide)).mpr hp)) (hn h hR)
theorem wv_zF_eq (hf : gFetch m pc = some (.ifCond .eq off, len, tgt, b9)) (hx : i32 x) (hp : ¬ x = 0) (hn : Wv sc d m (pc + 3) ls st A Q) : Wv sc d m pc ls (.int (zI x) :: st) A Q := fun h hR => wq_iff hf (show gTest .eq (zI x) (zI 0) = false from decide_eq_false (fun w => hp ((zI_eq hx (show i32 0 by decide)).mp w))) (hn h hR)
theorem wv_zX_eq (hf : gFetch m pc = some (.ifCond .eq off, len, tgt, b9)) (hx : i32 x) (h1 : x = 0 → Wv sc d m tgt ls st A Q) (h2 : ¬ x = 0 → Wv sc d m (pc + 3) ls st A Q) : Wv sc d m pc ls (.int (zI x) :: st) A Q := (Decidable.em (x = 0)).elim (fun hp => wv_zT_eq hf hx hp (h1 hp)) (fun hp => wv_zF_eq hf hx hp (h2 hp))
theorem wv_cT_ne (hf : gFetch m pc = some (.if_icmp .ne off, len, tgt, b9)) (hx : i32 x) (hy : i32 y) (hp : ¬ x = y) (hn : Wv sc d m tgt ls st A Q) : Wv sc d m pc ls (.int (zI y) :: .int (zI x) :: st) A Q := fun h hR => wq_ict hf (decide_eq_true (fun w => hp ((zI_eq hx hy).mp w))) (hn h hR)
theorem wv_cF_ne (hf : gFetch m pc = some (.if_icmp .ne off, len, tgt, b9)) (hx : i32 x) (hy : i32 y) (hp : x = y) (hn : Wv sc d m (pc + 3) ls st A Q) : Wv sc d m pc ls (.int (zI y) :: .int (zI x) :: st) A Q := fun h hR => wq_icf hf (decide_eq_false (fun w => w ((zI_eq hx hy).mpr hp))) (hn h hR)
theorem wv_cX_ne (hf : gFetch m pc = some (.if_icmp .ne off, len, tgt, b9)) (hx : i32 x) (hy : i32 y) (h1 : ¬ x = y → Wv sc d m tgt ls st A Q) (h2 : x = y → Wv sc d m (pc + 3) ls st A Q) : Wv sc d m pc ls (.int (zI y) :: .int (zI x) :: st) A Q := (Decidable.em (x = y)).elim (fun hp => wv_cF_ne hf hx hy hp (h2 hp)) (fun hp => wv_cT_ne hf hx hy hp (h1 hp))
theorem wv_zT_ne (hf : gFetch m pc = some (.ifCond .ne off, len, tgt, b9)) (hx : i32 x) (hp : ¬ x = 0) (hn : Wv sc d m tgt ls st A Q) : Wv sc d m pc ls (.int (zI x) :: st) A Q := fun h hR => wq_ift hf (show gTest .ne (zI x) (zI 0) = true from decide_eq_true (fun w => hp ((zI_eq hx (show i32 0 by decide)).mp w))) (hn h hR)
theorem wv_zF_ne (hf : gFetch m pc = some (.ifCond .ne off, len, tgt, b9)) (hx : i32 x) (hp : x = 0) (hn : Wv sc d m (pc + 3) ls st A Q) : Wv sc d m pc ls (.int (zI x) :: st) A Q := fun h hR => wq_iff hf (show gTest .ne (zI x) (zI 0) = false from decide_eq_false (fun w => w ((zI_eq hx (show i32 0 by decide)).mpr hp))) (hn h hR)
theorem wv_zX_ne (hf : gFetch m pc = some (.ifCond .ne off, len, tgt, b9)) (hx : i32 x) (h1 : ¬ x = 0 → Wv sc d m tgt ls st A Q) (h2 : x = 0 → Wv sc d m (pc + 3) ls st A Q) : Wv sc d m pc ls (.int (zI x) :: st) A Q := (Decidable.em (x = 0)).elim (fun hp => wv_zF_ne hf hx hp (h2 hp)) (fun hp => wv_zT_ne hf hx hp (h1 hp))
theorem wv_bF (hf : gFetch m pc = some (.ifCond .eq off, len, tgt, b9)) {p : Bool} (hp : p = true) (hn : Wv sc d m (pc + 3) ls st A Q) : Wv sc d m pc ls (.int (bI p) :: st) A Q := fun h hR => wq_iff hf (by subst hp; decide) (hn h hR)
theorem wv_bT (hf : gFetch m pc = some (.ifCond .eq off, len, tgt, b9)) {p : Bool} (hp : p = false) (hn : Wv sc d m tgt ls st A Q) : Wv sc d m pc ls (.int (bI p) :: st) A Q := fun h hR => wq_ift hf (by subst hp; decide) (hn h hR)
theorem wv_bX (hf : gFetch m pc = some (.ifCond .eq off, len, tgt, b9)) {p : Bool} (h1 : p = false → Wv sc d m tgt ls st A Q) (h2 : p = true → Wv sc d m (pc + 3) ls st A Q) : Wv sc d m pc ls (.int (bI p) :: st) A Q := by
  cases p
  · exact wv_bT hf rfl (h1 rfl)
  · exact wv_bF hf rfl (h2 rfl)
theorem wv_nF (hf : gFetch m pc = some (.ifCond .ne off, len, tgt, b9)) {p : Bool} (hp : p = false) (hn : Wv sc d m (pc + 3) ls st A Q) : Wv sc d m pc ls (.int (bI p) :: st) A Q := fun h hR => wq_iff hf (by subst hp; decide) (hn h hR)
theorem wv_nT (hf : gFetch m pc = some (.ifCond .ne off, len, tgt, b9)) {p : Bool} (hp : p = true) (hn : Wv sc d m tgt ls st A Q) : Wv sc d m pc ls (.int (bI p) :: st) A Q := fun h hR => wq_ift hf (by subst hp; decide) (hn h hR)
theorem wv_nX (hf : gFetch m pc = some (.ifCond .ne off, len, tgt, b9)) {p : Bool} (h1 : p = true → Wv sc d m tgt ls st A Q) (h2 : p = false → Wv sc d m (pc + 3) ls st A Q) : Wv sc d m pc ls (.int (bI p) :: st) A Q := by
  cases p
  · exact wv_nF hf rfl (h2 rfl)
  · exact wv_nT hf rfl (h1 rfl)
theorem wv_rX {cn : ClassFile.Cond} (hf : gFetch m pc = some (.if_icmp cn off, len, tgt, b9)) (h1 : gTest cn X Y = true → Wv sc d m tgt ls st A Q) (h2 : gTest cn X Y = false → Wv sc d m (pc + 3) ls st A Q) : Wv sc d m pc ls (.int Y :: .int X :: st) A Q := fun h hR => by
  cases ht : gTest cn X Y
  · exact wq_icf hf ht (h2 ht h hR)
  · exact wq_ict hf ht (h1 ht h hR)
theorem wv_r0X {cn : ClassFile.Cond} (hf : gFetch m pc = some (.ifCond cn off, len, tgt, b9)) (h1 : gTest cn X 0 = true → Wv sc d m tgt ls st A Q) (h2 : gTest cn X 0 = false → Wv sc d m (pc + 3) ls st A Q) : Wv sc d m pc ls (.int X :: st) A Q := fun h hR => by
  cases ht : gTest cn X 0
  · exact wq_iff hf ht (h2 ht h hR)
  · exact wq_ift hf ht (h1 ht h hR)
theorem wv_aX {b0 : Nat} (hf : gFetch m pc = some (.if_acmp .ne off, len, tgt, b9)) (h1 : ¬ r = b0 → Wv sc d m tgt ls st A Q) (h2 : r = b0 → Wv sc d m (pc + 3) ls st A Q) : Wv sc d m pc ls (.ref b0 :: .ref r :: st) A Q := by
  by_cases hp : r = b0
  · refine wv_s hf rfl (fun h => ?_) (h2 hp)
    simp only [gStep, gSame, hp, beq_self_eq_true]
    rfl
  · refine wv_s hf rfl (fun h => ?_) (h1 hp)
    have : (r == b0) = false := by simp [hp]
    simp only [gStep, gSame, this]
    rfl
theorem wv_st0 {x0 : Option Value} {l : gL} (hf : gFetch m pc = some q) (hk : gSmp q.1 = true) (hs : ∀ ls h, gStep sc q pc ls (v :: st) h = some (pc', gSt ls 0 v, st, h)) (hn : Wv sc d m pc' (some v :: l) st A Q) : Wv sc d m pc (x0 :: l) (v :: st) A Q := wv_s hf hk (hs _) hn
theorem wv_inc0 {l : gL} {n : Int} (hf : gFetch m pc = some (.iinc 0 n, len, a, b)) (hn : Wv sc d m (pc + 3) (some (.int (zI (x + n))) :: l) st A Q) : Wv sc d m pc (some (.int (zI x)) :: l) st A Q := by
  refine wv_s hf rfl (fun h => ?_) hn
  show some (pc + 3, gSt _ 0 (.int (zI x + Int32.ofInt n)), st, h) = _
  rw [show zI x + Int32.ofInt n = zI (x + n) from zI_add x n]
  rfl
theorem wv_st1 {x0 x1 : Option Value} {l : gL} (hf : gFetch m pc = some q) (hk : gSmp q.1 = true) (hs : ∀ ls h, gStep sc q pc ls (v :: st) h = some (pc', gSt ls 1 v, st, h)) (hn : Wv sc d m pc' (x0 :: some v :: l) st A Q) : Wv sc d m pc (x0 :: x1 :: l) (v :: st) A Q := wv_s hf hk (hs _) hn
theorem wv_inc1 {x0 : Option Value} {l : gL} {n : Int} (hf : gFetch m pc = some (.iinc 1 n, len, a, b)) (hn : Wv sc d m (pc + 3) (x0 :: some (.int (zI (x + n))) :: l) st A Q) : Wv sc d m pc (x0 :: some (.int (zI x)) :: l) st A Q := by
  refine wv_s hf rfl (fun h => ?_) hn
  show some (pc + 3, gSt _ 1 (.int (zI x + Int32.ofInt n)), st, h) = _
  rw [show zI x + Int32.ofInt n = zI (x + n) from zI_add x n]
  rfl
theorem wv_st2 {x0 x1 x2 : Option Value} {l : gL} (hf : gFetch m pc = some q) (hk : gSmp q.1 = true) (hs : ∀ ls h, gStep sc q pc ls (v :: st) h = some (pc', gSt ls 2 v, st, h)) (hn : Wv sc d m pc' (x0 :: x1 :: some v :: l) st A Q) : Wv sc d m pc (x0 :: x1 :: x2 :: l) (v :: st) A Q := wv_s hf hk (hs _) hn
theorem wv_inc2 {x0 x1 : Option Value} {l : gL} {n : Int} (hf : gFetch m pc = some (.iinc 2 n, len, a, b)) (hn : Wv sc d m (pc + 3) (x0 :: x1 :: some (.int (zI (x + n))) :: l) st A Q) : Wv sc d m pc (x0 :: x1 :: some (.int (zI x)) :: l) st A Q := by
  refine wv_s hf rfl (fun h => ?_) hn
  show some (pc + 3, gSt _ 2 (.int (zI x + Int32.ofInt n)), st, h) = _
  rw [show zI x + Int32.ofInt n = zI (x + n) from zI_add x n]
  rfl
theorem wv_st3 {x0 x1 x2 x3 : Option Value} {l : gL} (hf : gFetch m pc = some q) (hk : gSmp q.1 = true) (hs : ∀ ls h, gStep sc q pc ls (v :: st) h = some (pc', gSt ls 3 v, st, h)) (hn : Wv sc d m pc' (x0 :: x1 :: x2 :: some v :: l) st A Q) : Wv sc d m pc (x0 :: x1 :: x2 :: x3 :: l) (v :: st) A Q := wv_s hf hk (hs _) hn
theorem wv_inc3 {x0 x1 x2 : Option Value} {l : gL} {n : Int} (hf : gFetch m pc = some (.iinc 3 n, len, a, b)) (hn : Wv sc d m (pc + 3) (x0 :: x1 :: x2 :: some (.int (zI (x + n))) :: l) st A Q) : Wv sc d m pc (x0 :: x1 :: x2 :: some (.int (zI x)) :: l) st A Q := by
  refine wv_s hf rfl (fun h => ?_) hn
  show some (pc + 3, gSt _ 3 (.int (zI x + Int32.ofInt n)), st, h) = _
  rw [show zI x + Int32.ofInt n = zI (x + n) from zI_add x n]
  rfl
theorem wv_st4 {x0 x1 x2 x3 x4 : Option Value} {l : gL} (hf : gFetch m pc = some q) (hk : gSmp q.1 = true) (hs : ∀ ls h, gStep sc q pc ls (v :: st) h = some (pc', gSt ls 4 v, st, h)) (hn : Wv sc d m pc' (x0 :: x1 :: x2 :: x3 :: some v :: l) st A Q) : Wv sc d m pc (x0 :: x1 :: x2 :: x3 :: x4 :: l) (v :: st) A Q := wv_s hf hk (hs _) hn
theorem wv_inc4 {x0 x1 x2 x3 : Option Value} {l : gL} {n : Int} (hf : gFetch m pc = some (.iinc 4 n, len, a, b)) (hn : Wv sc d m (pc + 3) (x0 :: x1 :: x2 :: x3 :: some (.int (zI (x + n))) :: l) st A Q) : Wv sc d m pc (x0 :: x1 :: x2 :: x3 :: some (.int (zI x)) :: l) st A Q := by
  refine wv_s hf rfl (fun h => ?_) hn
  show some (pc + 3, gSt _ 4 (.int (zI x + Int32.ofInt n)), st, h) = _
  rw [show zI x + Int32.ofInt n = zI (x + n) from zI_add x n]
  rfl
theorem wv_st5 {x0 x1 x2 x3 x4 x5 : Option Value} {l : gL} (hf : gFetch m pc = some q) (hk : gSmp q.1 = true) (hs : ∀ ls h, gStep sc q pc ls (v :: st) h = some (pc', gSt ls 5 v, st, h)) (hn : Wv sc d m pc' (x0 :: x1 :: x2 :: x3 :: x4 :: some v :: l) st A Q) : Wv sc d m pc (x0 :: x1 :: x2 :: x3 :: x4 :: x5 :: l) (v :: st) A Q := wv_s hf hk (hs _) hn
theorem wv_inc5 {x0 x1 x2 x3 x4 : Option Value} {l : gL} {n : Int} (hf : gFetch m pc = some (.iinc 5 n, len, a, b)) (hn : Wv sc d m (pc + 3) (x0 :: x1 :: x2 :: x3 :: x4 :: some (.int (zI (x + n))) :: l) st A Q) : Wv sc d m pc (x0 :: x1 :: x2 :: x3 :: x4 :: some (.int (zI x)) :: l) st A Q := by
  refine wv_s hf rfl (fun h => ?_) hn
  show some (pc + 3, gSt _ 5 (.int (zI x + Int32.ofInt n)), st, h) = _
  rw [show zI x + Int32.ofInt n = zI (x + n) from zI_add x n]
  rfl
theorem wv_st6 {x0 x1 x2 x3 x4 x5 x6 : Option Value} {l : gL} (hf : gFetch m pc = some q) (hk : gSmp q.1 = true) (hs : ∀ ls h, gStep sc q pc ls (v :: st) h = some (pc', gSt ls 6 v, st, h)) (hn : Wv sc d m pc' (x0 :: x1 :: x2 :: x3 :: x4 :: x5 :: some v :: l) st A Q) : Wv sc d m pc (x0 :: x1 :: x2 :: x3 :: x4 :: x5 :: x6 :: l) (v :: st) A Q := wv_s hf hk (hs _) hn
theorem wv_inc6 {x0 x1 x2 x3 x4 x5 : Option Value} {l : gL} {n : Int} (hf : gFetch m pc = some (.iinc 6 n, len, a, b)) (hn : Wv sc d m (pc + 3) (x0 :: x1 :: x2 :: x3 :: x4 :: x5 :: some (.int (zI (x + n))) :: l) st A Q) : Wv sc d m pc (x0 :: x1 :: x2 :: x3 :: x4 :: x5 :: some (.int (zI x)) :: l) st A Q := by
  refine wv_s hf rfl (fun h => ?_) hn
  show some (pc + 3, gSt _ 6 (.int (zI x + Int32.ofInt n)), st, h) = _
  rw [show zI x + Int32.ofInt n = zI (x + n) from zI_add x n]
  rfl
theorem wv_st7 {x0 x1 x2 x3 x4 x5 x6 x7 : Option Value} {l : gL} (hf : gFetch m pc = some q) (hk : gSmp q.1 = true) (hs : ∀ ls h, gStep sc q pc ls (v :: st) h = some (pc', gSt ls 7 v, st, h)) (hn : Wv sc d m pc' (x0 :: x1 :: x2 :: x3 :: x4 :: x5 :: x6 :: some v :: l) st A Q) : Wv sc d m pc (x0 :: x1 :: x2 :: x3 :: x4 :: x5 :: x6 :: x7 :: l) (v :: st) A Q := wv_s hf hk (hs _) hn
theorem wv_inc7 {x0 x1 x2 x3 x4 x5 x6 : Option Value} {l : gL} {n : Int} (hf : gFetch m pc = some (.iinc 7 n, len, a, b)) (hn : Wv sc d m (pc + 3) (x0 :: x1 :: x2 :: x3 :: x4 :: x5 :: x6 :: some (.int (zI (x + n))) :: l) st A Q) : Wv sc d m pc (x0 :: x1 :: x2 :: x3 :: x4 :: x5 :: x6 :: some (.int (zI x)) :: l) st A Q := by
  refine wv_s hf rfl (fun h => ?_) hn
  show some (pc + 3, gSt _ 7 (.int (zI x + Int32.ofInt n)), st, h) = _
  rw [show zI x + Int32.ofInt n = zI (x + n) from zI_add x n]
  rfl
theorem wv_st8 {x0 x1 x2 x3 x4 x5 x6 x7 x8 : Option Value} {l : gL} (hf : gFetch m pc = some q) (hk : gSmp q.1 = true) (hs : ∀ ls h, gStep sc q pc ls (v :: st) h = some (pc', gSt ls 8 v, st, h)) (hn : Wv sc d m pc' (x0 :: x1 :: x2 :: x3 :: x4 :: x5 :: x6 :: x7 :: some v :: l) st A Q) : Wv sc d m pc (x0 :: x1 :: x2 :: x3 :: x4 :: x5 :: x6 :: x7 :: x8 :: l) (v :: st) A Q := wv_s hf hk (hs _) hn
theorem wv_inc8 {x0 x1 x2 x3 x4 x5 x6 x7 : Option Value} {l : gL} {n : Int} (hf : gFetch m pc = some (.iinc 8 n, len, a, b)) (hn : Wv sc d m (pc + 3) (x0 :: x1 :: x2 :: x3 :: x4 :: x5 :: x6 :: x7 :: some (.int (zI (x + n))) :: l) st A Q) : Wv sc d m pc (x0 :: x1 :: x2 :: x3 :: x4 :: x5 :: x6 :: x7 :: some (.int (zI x)) :: l) st A Q := by
  refine wv_s hf rfl (fun h => ?_) hn
  show some (pc + 3, gSt _ 8 (.int (zI x + Int32.ofInt n)), st, h) = _
  rw [show zI x + Int32.ofInt n = zI (x + n) from zI_add x n]
  rfl
theorem wv_st9 {x0 x1 x2 x3 x4 x5 x6 x7 x8 x9 : Option Value} {l : gL} (hf : gFetch m pc = some q) (hk : gSmp q.1 = true) (hs : ∀ ls h, gStep sc q pc ls (v :: st) h = some (pc', gSt ls 9 v, st, h)) (hn : Wv sc d m pc' (x0 :: x1 :: x2 :: x3 :: x4 :: x5 :: x6 :: x7 :: x8 :: some v :: l) st A Q) : Wv sc d m pc (x0 :: x1 :: x2 :: x3 :: x4 :: x5 :: x6 :: x7 :: x8 :: x9 :: l) (v :: st) A Q := wv_s hf hk (hs _) hn
theorem wv_inc9 {x0 x1 x2 x3 x4 x5 x6 x7 x8 : Option Value} {l : gL} {n : Int} (hf : gFetch m pc = some (.iinc 9 n, len, a, b)) (hn : Wv sc d m (pc + 3) (x0 :: x1 :: x2 :: x3 :: x4 :: x5 :: x6 :: x7 :: x8 :: some (.int (zI (x + n))) :: l) st A Q) : Wv sc d m pc (x0 :: x1 :: x2 :: x3 :: x4 :: x5 :: x6 :: x7 :: x8 :: some (.int (zI x)) :: l) st A Q := by
  refine wv_s hf rfl (fun h => ?_) hn
  show some (pc + 3, gSt _ 9 (.int (zI x + Int32.ofInt n)), st, h) = _
  rw [show zI x + Int32.ofInt n = zI (x + n) from zI_add x n]
  rfl
theorem wv_st10 {x0 x1 x2 x3 x4 x5 x6 x7 x8 x9 x10 : Option Value} {l : gL} (hf : gFetch m pc = some q) (hk : gSmp q.1 = true) (hs : ∀ ls h, gStep sc q pc ls (v :: st) h = some (pc', gSt ls 10 v, st, h)) (hn : Wv sc d m pc' (x0 :: x1 :: x2 :: x3 :: x4 :: x5 :: x6 :: x7 :: x8 :: x9 :: some v :: l) st A Q) : Wv sc d m pc (x0 :: x1 :: x2 :: x3 :: x4 :: x5 :: x6 :: x7 :: x8 :: x9 :: x10 :: l) (v :: st) A Q := wv_s hf hk (hs _) hn
theorem wv_inc10 {x0 x1 x2 x3 x4 x5 x6 x7 x8 x9 : Option Value} {l : gL} {n : Int} (hf : gFetch m pc = some (.iinc 10 n, len, a, b)) (hn : Wv sc d m (pc + 3) (x0 :: x1 :: x2 :: x3 :: x4 :: x5 :: x6 :: x7 :: x8 :: x9 :: some (.int (zI (x + n))) :: l) st A Q) : Wv sc d m pc (x0 :: x1 :: x2 :: x3 :: x4 :: x5 :: x6 :: x7 :: x8 :: x9 :: some (.int (zI x)) :: l) st A Q := by
  refine wv_s hf rfl (fun h => ?_) hn
  show some (pc + 3, gSt _ 10 (.int (zI x + Int32.ofInt n)), st, h) = _
  rw [show zI x + Int32.ofInt n = zI (x + n) from zI_add x n]
  rfl
theorem wv_st11 {x0 x1 x2 x3 x4 x5 x6 x7 x8 x9 x10 x11 : Option Value} {l : gL} (hf : gFetch m pc = some q) (hk : gSmp q.1 = true) (hs : ∀ ls h, gStep sc q pc ls (v :: st) h = some (pc', gSt ls 11 v, st, h)) (hn : Wv sc d m pc' (x0 :: x1 :: x2 :: x3 :: x4 :: x5 :: x6 :: x7 :: x8 :: x9 :: x10 :: some v :: l) st A Q) : Wv sc d m pc (x0 :: x1 :: x2 :: x3 :: x4 :: x5 :: x6 :: x7 :: x8 :: x9 :: x10 :: x11 :: l) (v :: st) A Q := wv_s hf hk (hs _) hn
theorem wv_inc11 {x0 x1 x2 x3 x4 x5 x6 x7 x8 x9 x10 : Option Value} {l : gL} {n : Int} (hf : gFetch m pc = some (.iinc 11 n, len, a, b)) (hn : Wv sc d m (pc + 3) (x0 :: x1 :: x2 :: x3 :: x4 :: x5 :: x6 :: x7 :: x8 :: x9 :: x10 :: some (.int (zI (x + n))) :: l) st A Q) : Wv sc d m pc (x0 :: x1 :: x2 :: x3 :: x4 :: x5 :: x6 :: x7 :: x8 :: x9 :: x10 :: some (.int (zI x)) :: l) st A Q := by
  refine wv_s hf rfl (fun h => ?_) hn
  show some (pc + 3, gSt _ 11 (.int (zI x + Int32.ofInt n)), st, h) = _
  rw [show zI x + Int32.ofInt n = zI (x + n) from zI_add x n]
  rfl
theorem wv_st12 {x0 x1 x2 x3 x4 x5 x6 x7 x8 x9 x10 x11 x12 : Option Value} {l : gL} (hf : gFetch m pc = some q) (hk : gSmp q.1 = true) (hs : ∀ ls h, gStep sc q pc ls (v :: st) h = some (pc', gSt ls 12 v, st, h)) (hn : Wv sc d m pc' (x0 :: x1 :: x2 :: x3 :: x4 :: x5 :: x6 :: x7 :: x8 :: x9 :: x10 :: x11 :: some v :: l) st A Q) : Wv sc d m pc (x0 :: x1 :: x2 :: x3 :: x4 :: x5 :: x6 :: x7 :: x8 :: x9 :: x10 :: x11 :: x12 :: l) (v :: st) A Q := wv_s hf hk (hs _) hn
theorem wv_inc12 {x0 x1 x2 x3 x4 x5 x6 x7 x8 x9 x10 x11 : Option Value} {l : gL} {n : Int} (hf : gFetch m pc = some (.iinc 12 n, len, a, b)) (hn : Wv sc d m (pc + 3) (x0 :: x1 :: x2 :: x3 :: x4 :: x5 :: x6 :: x7 :: x8 :: x9 :: x10 :: x11 :: some (.int (zI (x + n))) :: l) st A Q) : Wv sc d m pc (x0 :: x1 :: x2 :: x3 :: x4 :: x5 :: x6 :: x7 :: x8 :: x9 :: x10 :: x11 :: some (.int (zI x)) :: l) st A Q := by
  refine wv_s hf rfl (fun h => ?_) hn
  show some (pc + 3, gSt _ 12 (.int (zI x + Int32.ofInt n)), st, h) = _
  rw [show zI x + Int32.ofInt n = zI (x + n) from zI_add x n]
  rfl
theorem wv_st13 {x0 x1 x2 x3 x4 x5 x6 x7 x8 x9 x10 x11 x12 x13 : Option Value} {l : gL} (hf : gFetch m pc = some q) (hk : gSmp q.1 = true) (hs : ∀ ls h, gStep sc q pc ls (v :: st) h = some (pc', gSt ls 13 v, st, h)) (hn : Wv sc d m pc' (x0 :: x1 :: x2 :: x3 :: x4 :: x5 :: x6 :: x7 :: x8 :: x9 :: x10 :: x11 :: x12 :: some v :: l) st A Q) : Wv sc d m pc (x0 :: x1 :: x2 :: x3 :: x4 :: x5 :: x6 :: x7 :: x8 :: x9 :: x10 :: x11 :: x12 :: x13 :: l) (v :: st) A Q := wv_s hf hk (hs _) hn
theorem wv_inc13 {x0 x1 x2 x3 x4 x5 x6 x7 x8 x9 x10 x11 x12 : Option Value} {l : gL} {n : Int} (hf : gFetch m pc = some (.iinc 13 n, len, a, b)) (hn : Wv sc d m (pc + 3) (x0 :: x1 :: x2 :: x3 :: x4 :: x5 :: x6 :: x7 :: x8 :: x9 :: x10 :: x11 :: x12 :: some (.int (zI (x + n))) :: l) st A Q) : Wv sc d m pc (x0 :: x1 :: x2 :: x3 :: x4 :: x5 :: x6 :: x7 :: x8 :: x9 :: x10 :: x11 :: x12 :: some (.int (zI x)) :: l) st A Q := by
  refine wv_s hf rfl (fun h => ?_) hn
  show some (pc + 3, gSt _ 13 (.int (zI x + Int32.ofInt n)), st, h) = _
  rw [show zI x + Int32.ofInt n = zI (x + n) from zI_add x n]
  rfl
theorem wv_st14 {x0 x1 x2 x3 x4 x5 x6 x7 x8 x9 x10 x11 x12 x13 x14 : Option Value} {l : gL} (hf : gFetch m pc = some q) (hk : gSmp q.1 = true) (hs : ∀ ls h, gStep sc q pc ls (v :: st) h = some (pc', gSt ls 14 v, st, h)) (hn : Wv sc d m pc' (x0 :: x1 :: x2 :: x3 :: x4 :: x5 :: x6 :: x7 :: x8 :: x9 :: x10 :: x11 :: x12 :: x13 :: some v :: l) st A Q) : Wv sc d m pc (x0 :: x1 :: x2 :: x3 :: x4 :: x5 :: x6 :: x7 :: x8 :: x9 :: x10 :: x11 :: x12 :: x13 :: x14 :: l) (v :: st) A Q := wv_s hf hk (hs _) hn
theorem wv_inc14 {x0 x1 x2 x3 x4 x5 x6 x7 x8 x9 x10 x11 x12 x13 : Option Value} {l : gL} {n : Int} (hf : gFetch m pc = some (.iinc 14 n, len, a, b)) (hn : Wv sc d m (pc + 3) (x0 :: x1 :: x2 :: x3 :: x4 :: x5 :: x6 :: x7 :: x8 :: x9 :: x10 :: x11 :: x12 :: x13 :: some (.int (zI (x + n))) :: l) st A Q) : Wv sc d m pc (x0 :: x1 :: x2 :: x3 :: x4 :: x5 :: x6 :: x7 :: x8 :: x9 :: x10 :: x11 :: x12 :: x13 :: some (.int (zI x)) :: l) st A Q := by
  refine wv_s hf rfl (fun h => ?_) hn
  show some (pc + 3, gSt _ 14 (.int (zI x + Int32.ofInt n)), st, h) = _
  rw [show zI x + Int32.ofInt n = zI (x + n) from zI_add x n]
  rfl
theorem wv_st15 {x0 x1 x2 x3 x4 x5 x6 x7 x8 x9 x10 x11 x12 x13 x14 x15 : Option Value} {l : gL} (hf : gFetch m pc = some q) (hk : gSmp q.1 = true) (hs : ∀ ls h, gStep sc q pc ls (v :: st) h = some (pc', gSt ls 15 v, st, h)) (hn : Wv sc d m pc' (x0 :: x1 :: x2 :: x3 :: x4 :: x5 :: x6 :: x7 :: x8 :: x9 :: x10 :: x11 :: x12 :: x13 :: x14 :: some v :: l) st A Q) : Wv sc d m pc (x0 :: x1 :: x2 :: x3 :: x4 :: x5 :: x6 :: x7 :: x8 :: x9 :: x10 :: x11 :: x12 :: x13 :: x14 :: x15 :: l) (v :: st) A Q := wv_s hf hk (hs _) hn
theorem wv_inc15 {x0 x1 x2 x3 x4 x5 x6 x7 x8 x9 x10 x11 x12 x13 x14 : Option Value} {l : gL} {n : Int} (hf : gFetch m pc = some (.iinc 15 n, len, a, b)) (hn : Wv sc d m (pc + 3) (x0 :: x1 :: x2 :: x3 :: x4 :: x5 :: x6 :: x7 :: x8 :: x9 :: x10 :: x11 :: x12 :: x13 :: x14 :: some (.int (zI (x + n))) :: l) st A Q) : Wv sc d m pc (x0 :: x1 :: x2 :: x3 :: x4 :: x5 :: x6 :: x7 :: x8 :: x9 :: x10 :: x11 :: x12 :: x13 :: x14 :: some (.int (zI x)) :: l) st A Q := by
  refine wv_s hf rfl (fun h => ?_) hn
  show some (pc + 3, gSt _ 15 (.int (zI x + Int32.ofInt n)), st, h) = _
  rw [show zI x + Int32.ofInt n = zI (x + n) from zI_add x n]
  rfl
theorem wv_st16 {x0 x1 x2 x3 x4 x5 x6 x7 x8 x9 x10 x11 x12 x13 x14 x15 x16 : Option Value} {l : gL} (hf : gFetch m pc = some q) (hk : gSmp q.1 = true) (hs : ∀ ls h, gStep sc q pc ls (v :: st) h = some (pc', gSt ls 16 v, st, h)) (hn : Wv sc d m pc' (x0 :: x1 :: x2 :: x3 :: x4 :: x5 :: x6 :: x7 :: x8 :: x9 :: x10 :: x11 :: x12 :: x13 :: x14 :: x15 :: some v :: l) st A Q) : Wv sc d m pc (x0 :: x1 :: x2 :: x3 :: x4 :: x5 :: x6 :: x7 :: x8 :: x9 :: x10 :: x11 :: x12 :: x13 :: x14 :: x15 :: x16 :: l) (v :: st) A Q := wv_s hf hk (hs _) hn
theorem wv_inc16 {x0 x1 x2 x3 x4 x5 x6 x7 x8 x9 x10 x11 x12 x13 x14 x15 : Option Value} {l : gL} {n : Int} (hf : gFetch m pc = some (.iinc 16 n, len, a, b)) (hn : Wv sc d m (pc + 3) (x0 :: x1 :: x2 :: x3 :: x4 :: x5 :: x6 :: x7 :: x8 :: x9 :: x10 :: x11 :: x12 :: x13 :: x14 :: x15 :: some (.int (zI (x + n))) :: l) st A Q) : Wv sc d m pc (x0 :: x1 :: x2 :: x3 :: x4 :: x5 :: x6 :: x7 :: x8 :: x9 :: x10 :: x11 :: x12 :: x13 :: x14 :: x15 :: some (.int (zI x)) :: l) st A Q := by
  refine wv_s hf rfl (fun h => ?_) hn
  show some (pc + 3, gSt _ 16 (.int (zI x + Int32.ofInt n)), st, h) = _
  rw [show zI x + Int32.ofInt n = zI (x + n) from zI_add x n]
  rfl
theorem wv_st17 {x0 x1 x2 x3 x4 x5 x6 x7 x8 x9 x10 x11 x12 x13 x14 x15 x16 x17 : Option Value} {l : gL} (hf : gFetch m pc = some q) (hk : gSmp q.1 = true) (hs : ∀ ls h, gStep sc q pc ls (v :: st) h = some (pc', gSt ls 17 v, st, h)) (hn : Wv sc d m pc' (x0 :: x1 :: x2 :: x3 :: x4 :: x5 :: x6 :: x7 :: x8 :: x9 :: x10 :: x11 :: x12 :: x13 :: x14 :: x15 :: x16 :: some v :: l) st A Q) : Wv sc d m pc (x0 :: x1 :: x2 :: x3 :: x4 :: x5 :: x6 :: x7 :: x8 :: x9 :: x10 :: x11 :: x12 :: x13 :: x14 :: x15 :: x16 :: x17 :: l) (v :: st) A Q := wv_s hf hk (hs _) hn
theorem wv_inc17 {x0 x1 x2 x3 x4 x5 x6 x7 x8 x9 x10 x11 x12 x13 x14 x15 x16 : Option Value} {l : gL} {n : Int} (hf : gFetch m pc = some (.iinc 17 n, len, a, b)) (hn : Wv sc d m (pc + 3) (x0 :: x1 :: x2 :: x3 :: x4 :: x5 :: x6 :: x7 :: x8 :: x9 :: x10 :: x11 :: x12 :: x13 :: x14 :: x15 :: x16 :: some (.int (zI (x + n))) :: l) st A Q) : Wv sc d m pc (x0 :: x1 :: x2 :: x3 :: x4 :: x5 :: x6 :: x7 :: x8 :: x9 :: x10 :: x11 :: x12 :: x13 :: x14 :: x15 :: x16 :: some (.int (zI x)) :: l) st A Q := by
  refine wv_s hf rfl (fun h => ?_) hn
  show some (pc + 3, gSt _ 17 (.int (zI x + Int32.ofInt n)), st, h) = _
  rw [show zI x + Int32.ofInt n = zI (x + n) from zI_add x n]
  rfl
theorem wv_st18 {x0 x1 x2 x3 x4 x5 x6 x7 x8 x9 x10 x11 x12 x13 x14 x15 x16 x17 x18 : Option Value} {l : gL} (hf : gFetch m pc = some q) (hk : gSmp q.1 = true) (hs : ∀ ls h, gStep sc q pc ls (v :: st) h = some (pc', gSt ls 18 v, st, h)) (hn : Wv sc d m pc' (x0 :: x1 :: x2 :: x3 :: x4 :: x5 :: x6 :: x7 :: x8 :: x9 :: x10 :: x11 :: x12 :: x13 :: x14 :: x15 :: x16 :: x17 :: some v :: l) st A Q) : Wv sc d m pc (x0 :: x1 :: x2 :: x3 :: x4 :: x5 :: x6 :: x7 :: x8 :: x9 :: x10 :: x11 :: x12 :: x13 :: x14 :: x15 :: x16 :: x17 :: x18 :: l) (v :: st) A Q := wv_s hf hk (hs _) hn
theorem wv_inc18 {x0 x1 x2 x3 x4 x5 x6 x7 x8 x9 x10 x11 x12 x13 x14 x15 x16 x17 : Option Value} {l : gL} {n : Int} (hf : gFetch m pc = some (.iinc 18 n, len, a, b)) (hn : Wv sc d m (pc + 3) (x0 :: x1 :: x2 :: x3 :: x4 :: x5 :: x6 :: x7 :: x8 :: x9 :: x10 :: x11 :: x12 :: x13 :: x14 :: x15 :: x16 :: x17 :: some (.int (zI (x + n))) :: l) st A Q) : Wv sc d m pc (x0 :: x1 :: x2 :: x3 :: x4 :: x5 :: x6 :: x7 :: x8 :: x9 :: x10 :: x11 :: x12 :: x13 :: x14 :: x15 :: x16 :: x17 :: some (.int (zI x)) :: l) st A Q := by
  refine wv_s hf rfl (fun h => ?_) hn
  show some (pc + 3, gSt _ 18 (.int (zI x + Int32.ofInt n)), st, h) = _
  rw [show zI x + Int32.ofInt n = zI (x + n) from zI_add x n]
  rfl
theorem wv_st19 {x0 x1 x2 x3 x4 x5 x6 x7 x8 x9 x10 x11 x12 x13 x14 x15 x16 x17 x18 x19 : Option Value} {l : gL} (hf : gFetch m pc = some q) (hk : gSmp q.1 = true) (hs : ∀ ls h, gStep sc q pc ls (v :: st) h = some (pc', gSt ls 19 v, st, h)) (hn : Wv sc d m pc' (x0 :: x1 :: x2 :: x3 :: x4 :: x5 :: x6 :: x7 :: x8 :: x9 :: x10 :: x11 :: x12 :: x13 :: x14 :: x15 :: x16 :: x17 :: x18 :: some v :: l) st A Q) : Wv sc d m pc (x0 :: x1 :: x2 :: x3 :: x4 :: x5 :: x6 :: x7 :: x8 :: x9 :: x10 :: x11 :: x12 :: x13 :: x14 :: x15 :: x16 :: x17 :: x18 :: x19 :: l) (v :: st) A Q := wv_s hf hk (hs _) hn
theorem wv_inc19 {x0 x1 x2 x3 x4 x5 x6 x7 x8 x9 x10 x11 x12 x13 x14 x15 x16 x17 x18 : Option Value} {l : gL} {n : Int} (hf : gFetch m pc = some (.iinc 19 n, len, a, b)) (hn : Wv sc d m (pc + 3) (x0 :: x1 :: x2 :: x3 :: x4 :: x5 :: x6 :: x7 :: x8 :: x9 :: x10 :: x11 :: x12 :: x13 :: x14 :: x15 :: x16 :: x17 :: x18 :: some (.int (zI (x + n))) :: l) st A Q) : Wv sc d m pc (x0 :: x1 :: x2 :: x3 :: x4 :: x5 :: x6 :: x7 :: x8 :: x9 :: x10 :: x11 :: x12 :: x13 :: x14 :: x15 :: x16 :: x17 :: x18 :: some (.int (zI x)) :: l) st A Q := by
  refine wv_s hf rfl (fun h => ?_) hn
  show some (pc + 3, gSt _ 19 (.int (zI x + Int32.ofInt n)), st, h) = _
  rw [show zI x + Int32.ofInt n = zI (x + n) from zI_add x n]
  rfl
theorem wv_st20 {x0 x1 x2 x3 x4 x5 x6 x7 x8 x9 x10 x11 x12 x13 x14 x15 x16 x17 x18 x19 x20 : Option Value} {l : gL} (hf : gFetch m pc = some q) (hk : gSmp q.1 = true) (hs : ∀ ls h, gStep sc q pc ls (v :: st) h = some (pc', gSt ls 20 v, st, h)) (hn : Wv sc d m pc' (x0 :: x1 :: x2 :: x3 :: x4 :: x5 :: x6 :: x7 :: x8 :: x9 :: x10 :: x11 :: x12 :: x13 :: x14 :: x15 :: x16 :: x17 :: x18 :: x19 :: some v :: l) st A Q) : Wv sc d m pc (x0 :: x1 :: x2 :: x3 :: x4 :: x5 :: x6 :: x7 :: x8 :: x9 :: x10 :: x11 :: x12 :: x13 :: x14 :: x15 :: x16 :: x17 :: x18 :: x19 :: x20 :: l) (v :: st) A Q := wv_s hf hk (hs _) hn
theorem wv_inc20 {x0 x1 x2 x3 x4 x5 x6 x7 x8 x9 x10 x11 x12 x13 x14 x15 x16 x17 x18 x19 : Option Value} {l : gL} {n : Int} (hf : gFetch m pc = some (.iinc 20 n, len, a, b)) (hn : Wv sc d m (pc + 3) (x0 :: x1 :: x2 :: x3 :: x4 :: x5 :: x6 :: x7 :: x8 :: x9 :: x10 :: x11 :: x12 :: x13 :: x14 :: x15 :: x16 :: x17 :: x18 :: x19 :: some (.int (zI (x + n))) :: l) st A Q) : Wv sc d m pc (x0 :: x1 :: x2 :: x3 :: x4 :: x5 :: x6 :: x7 :: x8 :: x9 :: x10 :: x11 :: x12 :: x13 :: x14 :: x15 :: x16 :: x17 :: x18 :: x19 :: some (.int (zI x)) :: l) st A Q := by
  refine wv_s hf rfl (fun h => ?_) hn
  show some (pc + 3, gSt _ 20 (.int (zI x + Int32.ofInt n)), st, h) = _
  rw [show zI x + Int32.ofInt n = zI (x + n) from zI_add x n]
  rfl
end WV
