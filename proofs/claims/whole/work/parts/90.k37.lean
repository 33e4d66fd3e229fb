/-! ===== says, the pair ===== -/
section K37
variable {ω : am_W}
def sayF (n : Int) (C T : Nat → Int) (V : Nat → Nat → Int) (K i : Nat) (w r : Int) : Prop := (w = 0 ∧ r = V i 3) ∨ (w = 1 ∧ r = mx0 (prF n C (V i 0) (V i 1))) ∨ (w = 2 ∧ r = sm (fun o => b01 (o ≠ i ∧ fW (V o) (V i))) K) ∨ (w = 3 ∧ r = sm (fun o => b01 (o < K ∧ o ≠ i ∧ V o 1 = V i 1 ∧ V o 4 ≤ 0)) K) ∨ (w = 4 ∧ r = T (V i 1).toNat - 1) ∨ (w = 5 ∧ r = sm (fun o => if o = i then 0 else 99 - V o 3) K)
theorem say_u {n : Int} {C T : Nat → Int} {V : Nat → Nat → Int} {K i : Nat} {w r r' : Int} (h : sayF n C T V K i w r) (h' : sayF n C T V K i w r') : r = r' := by
  unfold sayF at h h'
  rcases h with h | h | h | h | h | h <;> rcases h' with g | g | g | g | g | g <;> first | omega | exact h.2.trans g.2.symm
theorem fW_sy {u w : Nat → Int} : fW u w ↔ fW w u := by
  unfold fW
  constructor
  · rintro ⟨a, b, c, d⟩; exact ⟨b, a, c.symm, d.symm⟩
  · rintro ⟨a, b, c, d⟩; exact ⟨b, a, c.symm, d.symm⟩
theorem c_saying (h : Inv ω) {K i : Nat} (hK : ck ω 1 = (K : Int)) (hi : i < K) {w : Int} (hw : 0 ≤ w ∧ w ≤ 5) : ∃ r, sayF (cn ω 1) (cC ω 1) (cT ω 1) (cV ω 1) K i w r ∧ am_run (132, 0) 0 ([some (.inr (.inr 0)), some (.inl ((i : Int))), some (.inl w), none], [], ω) = some (some (.inl r), ω) := by
  have h0 := h.1
  obtain ⟨e1, e2, e3, e4⟩ := inv_k h
  have hK1 : am_get ω 1 3 = (K : Int) := hK
  have K6 : K ≤ 6 := by omega
  have i6 : i < 6 := by omega
  have eV : am_get ω 4 i = 1 + 4 + (i : Int) := w_V h0 W1 i6
  have iS : am_ina ω 4 (i : Int) = true := ina_S h0 W1 (by omega) (by omega)
  have iV := is_V h0 W1 i6
  have O := inv_O h (i := i) (by omega)
  have O' : ∀ o, o < K → 0 ≤ cV ω 1 o 3 ∧ cV ω 1 o 3 ≤ 99 := fun o ho => by
    have := (inv_O h (i := o) (by omega)).2.2.2.1
    rw [← V_at] at this
    exact this
  obtain ⟨o0, o1, o2, o3, o4⟩ := O
  have cv : ∀ f, am_get ω (5 + i) f = cV ω 1 i f := fun f => by unfold cV; rw [V_at]
  have q := pX6_saying_0 0 i w ω (i_0 h0) (by simp only [Int.toNat_zero, f_0_0 h0]; exact i_1 h0)
  simp only [am_bi_s, am_bl_s, am_ba_s, am_bv_s, Int.toNat_zero, Int.reduceToNat, Int.toNat_natCast, if_true, if_false, not_true, not_false_eq_true, Int.reduceEq, Int.reduceLT, Int.reduceLE, i_0 h0, i_1 h0, f_0_0 h0, f_0_3 h0, f_0_4 h0, f_1_1 h0, f_1_2 h0, f_1_4 h0, eV, iS, iV, V_at, hK1] at q
  have : w = 0 ∨ w = 1 ∨ w = 2 ∨ w = 3 ∨ w = 4 ∨ w = 5 := by omega
  rcases this with rfl | rfl | rfl | rfl | rfl | rfl
  · simp only [am_bi_s, am_bl_s, am_ba_s, am_bv_s, Int.toNat_zero, Int.reduceToNat, Int.toNat_natCast, if_true, if_false, not_true, not_false_eq_true, Int.reduceEq, Int.reduceLT, Int.reduceLE] at q
    exact ⟨_, Or.inl ⟨rfl, rfl⟩, by rw [q, cv]⟩
  · have a := c_price h0 W1 e4 (inv_Cok h) iV (c := am_get ω (5 + i) 1) (d := 1) (by omega) (Or.inl rfl)
    rw [V_at, show low (am_get ω (5 + i) 1) 1 = am_get ω (5 + i) 1 from if_pos rfl] at a
    simp only [am_bi_s, am_bl_s, am_ba_s, am_bv_s, Int.toNat_zero, Int.reduceToNat, Int.toNat_natCast, if_true, if_false, not_true, not_false_eq_true, Int.reduceEq, Int.reduceLT, Int.reduceLE, a, j_max0] at q
    exact ⟨_, Or.inr (Or.inl ⟨rfl, rfl⟩), by rw [q, cv, cv]⟩
  · simp only [am_bi_s, am_bl_s, am_ba_s, am_bv_s, Int.toNat_zero, Int.reduceToNat, Int.toNat_natCast, if_true, if_false, not_true, not_false_eq_true, Int.reduceEq, Int.reduceLT, Int.reduceLE, c_countMet h0 W1 hK K6 hi] at q
    exact ⟨_, Or.inr (Or.inr (Or.inl ⟨rfl, rfl⟩)), q⟩
  · simp only [am_bi_s, am_bl_s, am_ba_s, am_bv_s, Int.toNat_zero, Int.reduceToNat, Int.toNat_natCast, if_true, if_false, not_true, not_false_eq_true, Int.reduceEq, Int.reduceLT, Int.reduceLE, c_idleOn h0 W1 hK K6, j_bitCount, bc_id K6 i6] at q
    refine ⟨_, Or.inr (Or.inr (Or.inr (Or.inl ⟨rfl, rfl⟩))), ?_⟩
    rw [q, cv, sm_ext (p := fun o => o < K ∧ o ≠ i ∧ cV ω 1 o 1 = cV ω 1 i 1 ∧ cV ω 1 o 4 ≤ 0) K6 (fun o ho z => by omega)]
  · have tt := inv_Tok h (am_get ω (5 + i) 1).toNat (by omega)
    simp only [am_bi_s, am_bl_s, am_ba_s, am_bv_s, Int.toNat_zero, Int.reduceToNat, Int.toNat_natCast, if_true, if_false, not_true, not_false_eq_true, Int.reduceEq, Int.reduceLT, Int.reduceLE, c_timeOf h0 W1 o1.1 o1.2 e4.2] at q
    rw [am_w_s (by omega) (by omega)] at q
    exact ⟨_, Or.inr (Or.inr (Or.inr (Or.inr (Or.inl ⟨rfl, rfl⟩)))), by rw [q, cv]⟩
  · obtain ⟨s1, s2, s3⟩ := sumD_sm (V := cV ω 1) K K6 O'
    simp only [am_bi_s, am_bl_s, am_ba_s, am_bv_s, Int.toNat_zero, Int.reduceToNat, Int.toNat_natCast, if_true, if_false, not_true, not_false_eq_true, Int.reduceEq, Int.reduceLT, Int.reduceLE, c_allDrops h0 W1 hK K6, iV] at q
    have v3 := O' i hi
    rw [cv 3, s1, am_w_s (z := (K : Int) - 1) (by omega) (by omega), am_w_s (z := ((K : Int) - 1) * 99) (by omega) (by omega), am_w_s (z := sm (fun o => cV ω 1 o 3) K - cV ω 1 i 3) (by omega) (by omega), am_w_s (by omega) (by omega)] at q
    refine ⟨_, Or.inr (Or.inr (Or.inr (Or.inr (Or.inr ⟨rfl, rfl⟩)))), ?_⟩
    rw [q, sm_wo (f := fun o => cV ω 1 o 3), if_pos hi]
    congr 4
    omega
theorem m_saying (h : Inv ω) {K i : Nat} (hK : ck ω 1 = (K : Int)) (hi : i < K) (s : Int) {w : Int} (hw : 0 ≤ w ∧ w ≤ 5) (o4 o5 : Option am_V) : ∃ r, sayF (cn ω 1) (cC ω 1) (cT ω 1) (cV ω 1) K i w r ∧ am_run (163, 0) 68 ([some (.inr (.inr 53)), some (.inl s), some (.inl w), some (.inl ((i : Int))), o4, o5], [], ω) = some (some (.inl r), ω) := by
  have h0 := h.1
  obtain ⟨e1, e2, e3, e4⟩ := inv_k h
  have hK2 : am_get ω 53 6 = (K : Int) := e1.trans hK
  have hN2 : am_get ω 53 3 = cn ω 1 := e2
  have K6 : K ≤ 6 := by omega
  have i6 : i < 6 := by omega
  have mv : ∀ o, o < K → ∀ f, f < 5 → mV ω o f = cV ω 1 o f := fun o ho f hf => inv_V h (by omega) hf
  have O : O_ship (cn ω 1) (cT ω 1) (cV ω 1 i) := by
    have := inv_O h (i := i) (by omega)
    rw [← V_at] at this
    exact this
  have O' : ∀ o, o < K → 0 ≤ cV ω 1 o 3 ∧ cV ω 1 o 3 ≤ 99 ∧ 0 ≤ cV ω 1 o 4 := fun o ho => by
    have := inv_O h (i := o) (by omega)
    rw [← V_at] at this
    exact ⟨this.2.2.2.1.1, this.2.2.2.1.2, this.2.2.2.2.1⟩
  obtain ⟨o0, o1, o2, o3, o4'⟩ := O
  have x1 : am_get ω 60 i = cV ω 1 i 1 := mv i hi 1 (by omega)
  have x3 : am_get ω 62 i = cV ω 1 i 3 := mv i hi 3 (by omega)
  have xT : am_get ω 57 (cV ω 1 i 1).toNat = cT ω 1 (cV ω 1 i 1).toNat := inv_T h (by omega)
  have q := pX7_says_68 53 s w i o4 o5 ω (i_53 h0)
  simp only [am_bi_s, am_bl_s, am_ba_s, am_bv_s, Int.toNat_zero, Int.reduceToNat, Int.toNat_natCast, if_true, if_false, not_true, not_false_eq_true, Int.reduceEq, Int.reduceLT, Int.reduceLE, i_53 h0, f_53_0 h0, f_53_1 h0, f_53_2 h0, f_53_4 h0, f_53_5 h0, f_53_7 h0, f_53_8 h0, f_53_9 h0, f_53_10 h0, f_53_11 h0, n_59 h0 (i := (i : Int)) (by omega) (by omega), n_60 h0 (i := (i : Int)) (by omega) (by omega), n_61 h0 (i := (i : Int)) (by omega) (by omega), n_62 h0 (i := (i : Int)) (by omega) (by omega), n_63 h0 (i := (i : Int)) (by omega) (by omega), if_pos (show (0 : Int) ≤ (i : Int) by omega), x1, x3, hN2, n_57 h0 o1.1 (show cV ω 1 i 1 < 6 by omega), xT] at q
  have : w = 0 ∨ w = 1 ∨ w = 2 ∨ w = 3 ∨ w = 4 ∨ w = 5 := by omega
  rcases this with rfl | rfl | rfl | rfl | rfl | rfl
  · simp only [am_bi_s, am_bl_s, am_ba_s, am_bv_s, Int.toNat_zero, Int.reduceToNat, Int.toNat_natCast, if_true, if_false, not_true, not_false_eq_true, Int.reduceEq, Int.reduceLT, Int.reduceLE] at q
    exact ⟨_, Or.inl ⟨rfl, rfl⟩, q⟩
  · rw [am_w_s (by omega) (by omega)] at q
    simp only [am_bi_s, am_bl_s, am_ba_s, am_bv_s, Int.toNat_zero, Int.reduceToNat, Int.toNat_natCast, if_true, if_false, not_true, not_false_eq_true, Int.reduceEq, Int.reduceLT, Int.reduceLE] at q
    refine ⟨_, Or.inr (Or.inl ⟨rfl, rfl⟩), ?_⟩
    by_cases g : cV ω 1 i 1 = cn ω 1 - 1
    · rw [q, if_neg (fun z => z g), prF_no (by omega), mx0_n (by omega)]
    · have a := m_price h0 (inv_mCok h) i6 (l := cV ω 1 i 1) o1.1 (by omega)
      obtain ⟨pe, p2, p3⟩ := prF_ok e4.2 (inv_Cok h) (k := cV ω 1 i 0) (l := cV ω 1 i 1) (by omega)
      rw [← inv_EC h _ (by omega), mv i hi 0 (by omega), ← pe] at a
      rw [q, if_pos g, bi_v a, mx0_p (by omega)]
  · simp only [am_bi_s, am_bl_s, am_ba_s, am_bv_s, Int.toNat_zero, Int.reduceToNat, Int.toNat_natCast, if_true, if_false, not_true, not_false_eq_true, Int.reduceEq, Int.reduceLT, Int.reduceLE] at q
    refine ⟨_, Or.inr (Or.inr (Or.inl ⟨rfl, rfl⟩)), q.trans ?_⟩
    have lp : ∀ d j : Nat, j + d = K → am_run (163, 0) 157 ([some (.inr (.inr 53)), some (.inl s), some (.inl 2), some (.inl ((i : Int))), some (.inl (sm (fun o => b01 (o ≠ i ∧ fW (cV ω 1 o) (cV ω 1 i))) j)), some (.inl ((j : Int)))], [], ω) = some (some (.inl (sm (fun o => b01 (o ≠ i ∧ fW (cV ω 1 o) (cV ω 1 i))) K)), ω) := by
      intro d
      induction d with
      | zero =>
        intro j hj
        obtain rfl : j = K := by omega
        rw [pX7_says_157 _ _ _ _ _ _ _ (i_53 h0)]
        simp only [am_bi_s, am_bl_s, am_ba_s, am_bv_s, Int.toNat_zero, Int.reduceToNat, Int.toNat_natCast, if_true, if_false, not_true, not_false_eq_true, Int.reduceEq, Int.reduceLT, Int.reduceLE, hK2]
        rw [if_pos (by omega)]
      | succ d ih =>
        intro j hj
        have sb := sm_b (p := fun o => o ≠ i ∧ fW (cV ω 1 o) (cV ω 1 i)) (m := j)
        have fe : fW (mV ω i) (mV ω j) ↔ fW (cV ω 1 j) (cV ω 1 i) := by
          rw [fW_sy]
          exact fW_c (fun f hf => mv j (by omega) f hf) (fun f hf => mv i hi f hf)
        rw [pX7_says_157 _ _ _ _ _ _ _ (i_53 h0)]
        simp only [am_bi_s, am_bl_s, am_ba_s, am_bv_s, Int.toNat_zero, Int.reduceToNat, Int.toNat_natCast, if_true, if_false, not_true, not_false_eq_true, Int.reduceEq, Int.reduceLT, Int.reduceLE, hK2, if_neg (show ¬ (K : Int) ≤ (j : Int) by omega), m_meet h0 (i := i) (j := j) (by omega) (by omega), am_w_s (z := (j : Int) + 1) (by omega) (by omega), am_w_s (z := sm (fun o => b01 (o ≠ i ∧ fW (cV ω 1 o) (cV ω 1 i))) j + 1) (by omega) (by omega)]
        rw [show (j : Int) + 1 = ((j + 1 : Nat) : Int) by omega, ← ih (j + 1) (by omega), sm_s, b01_c fe]
        by_cases g : (j : Int) = (i : Int)
        · rw [if_pos g, b01_neg (show ¬ (j ≠ i ∧ fW (cV ω 1 j) (cV ω 1 i)) from fun z => z.1 (by omega)), Int.add_zero]
        · rw [if_neg g]
          by_cases g2 : fW (cV ω 1 j) (cV ω 1 i)
          · rw [b01_pos g2, if_neg (by omega), b01_pos (show j ≠ i ∧ fW (cV ω 1 j) (cV ω 1 i) from ⟨by omega, g2⟩)]
          · rw [b01_neg g2, if_pos rfl, b01_neg (show ¬ (j ≠ i ∧ fW (cV ω 1 j) (cV ω 1 i)) from fun z => g2 z.2), Int.add_zero]
    exact lp K 0 (by omega)
  · simp only [am_bi_s, am_bl_s, am_ba_s, am_bv_s, Int.toNat_zero, Int.reduceToNat, Int.toNat_natCast, if_true, if_false, not_true, not_false_eq_true, Int.reduceEq, Int.reduceLT, Int.reduceLE] at q
    refine ⟨_, Or.inr (Or.inr (Or.inr (Or.inl ⟨rfl, rfl⟩))), q.trans ?_⟩
    have lp : ∀ d j : Nat, j + d = K → am_run (163, 0) 197 ([some (.inr (.inr 53)), some (.inl s), some (.inl 3), some (.inl ((i : Int))), some (.inl (sm (fun o => b01 (o < K ∧ o ≠ i ∧ cV ω 1 o 1 = cV ω 1 i 1 ∧ cV ω 1 o 4 ≤ 0)) j)), some (.inl ((j : Int)))], [], ω) = some (some (.inl (sm (fun o => b01 (o < K ∧ o ≠ i ∧ cV ω 1 o 1 = cV ω 1 i 1 ∧ cV ω 1 o 4 ≤ 0)) K)), ω) := by
      intro d
      induction d with
      | zero =>
        intro j hj
        obtain rfl : j = K := by omega
        rw [pX7_says_197 _ _ _ _ _ _ _ (i_53 h0)]
        simp only [am_bi_s, am_bl_s, am_ba_s, am_bv_s, Int.toNat_zero, Int.reduceToNat, Int.toNat_natCast, if_true, if_false, not_true, not_false_eq_true, Int.reduceEq, Int.reduceLT, Int.reduceLE, hK2]
        rw [if_pos (by omega)]
      | succ d ih =>
        intro j hj
        have jK : j < K := by omega
        have sb := sm_b (p := fun o => o < K ∧ o ≠ i ∧ cV ω 1 o 1 = cV ω 1 i 1 ∧ cV ω 1 o 4 ≤ 0) (m := j)
        have y1 : am_get ω 60 j = cV ω 1 j 1 := mv j jK 1 (by omega)
        have y4 : am_get ω 63 j = cV ω 1 j 4 := mv j jK 4 (by omega)
        have o4j := (O' j jK).2.2
        rw [pX7_says_197 _ _ _ _ _ _ _ (i_53 h0)]
        simp only [am_bi_s, am_bl_s, am_ba_s, am_bv_s, Int.toNat_zero, Int.reduceToNat, Int.toNat_natCast, if_true, if_false, not_true, not_false_eq_true, Int.reduceEq, Int.reduceLT, Int.reduceLE, i_53 h0, f_53_0 h0, f_53_1 h0, f_53_2 h0, f_53_4 h0, f_53_5 h0, f_53_7 h0, f_53_8 h0, f_53_9 h0, f_53_10 h0, f_53_11 h0, hK2, if_neg (show ¬ (K : Int) ≤ (j : Int) by omega), n_59 h0 (i := (i : Int)) (by omega) (by omega), n_60 h0 (i := (i : Int)) (by omega) (by omega), n_61 h0 (i := (i : Int)) (by omega) (by omega), n_62 h0 (i := (i : Int)) (by omega) (by omega), n_63 h0 (i := (i : Int)) (by omega) (by omega), n_59 h0 (i := (j : Int)) (by omega) (by omega), n_60 h0 (i := (j : Int)) (by omega) (by omega), n_61 h0 (i := (j : Int)) (by omega) (by omega), n_62 h0 (i := (j : Int)) (by omega) (by omega), n_63 h0 (i := (j : Int)) (by omega) (by omega), x1, y1, y4, am_w_s (z := (j : Int) + 1) (by omega) (by omega), am_w_s (z := sm (fun o => b01 (o < K ∧ o ≠ i ∧ cV ω 1 o 1 = cV ω 1 i 1 ∧ cV ω 1 o 4 ≤ 0)) j + 1) (by omega) (by omega)]
        rw [show (j : Int) + 1 = ((j + 1 : Nat) : Int) by omega, ← ih (j + 1) (by omega), sm_s]
        by_cases g : (j : Int) = (i : Int)
        · rw [if_pos g, b01_neg (show ¬ (j < K ∧ j ≠ i ∧ cV ω 1 j 1 = cV ω 1 i 1 ∧ cV ω 1 j 4 ≤ 0) by omega), Int.add_zero]
        · rw [if_neg g]
          by_cases g2 : cV ω 1 j 1 = cV ω 1 i 1
          · rw [if_neg (fun z => z g2)]
            by_cases g3 : cV ω 1 j 4 = 0
            · rw [if_neg (fun z => z g3), b01_pos (show j < K ∧ j ≠ i ∧ cV ω 1 j 1 = cV ω 1 i 1 ∧ cV ω 1 j 4 ≤ 0 by omega)]
            · rw [if_pos g3, b01_neg (show ¬ (j < K ∧ j ≠ i ∧ cV ω 1 j 1 = cV ω 1 i 1 ∧ cV ω 1 j 4 ≤ 0) by omega), Int.add_zero]
          · rw [if_pos g2, b01_neg (show ¬ (j < K ∧ j ≠ i ∧ cV ω 1 j 1 = cV ω 1 i 1 ∧ cV ω 1 j 4 ≤ 0) by omega), Int.add_zero]
    exact lp K 0 (by omega)
  · have tt := inv_Tok h (cV ω 1 i 1).toNat (by omega)
    simp only [am_bi_s, am_bl_s, am_ba_s, am_bv_s, Int.toNat_zero, Int.reduceToNat, Int.toNat_natCast, if_true, if_false, not_true, not_false_eq_true, Int.reduceEq, Int.reduceLT, Int.reduceLE] at q
    rw [am_w_s (by omega) (by omega)] at q
    exact ⟨_, Or.inr (Or.inr (Or.inr (Or.inr (Or.inl ⟨rfl, rfl⟩)))), q⟩
  · simp only [am_bi_s, am_bl_s, am_ba_s, am_bv_s, Int.toNat_zero, Int.reduceToNat, Int.toNat_natCast, if_true, if_false, not_true, not_false_eq_true, Int.reduceEq, Int.reduceLT, Int.reduceLE] at q
    refine ⟨_, Or.inr (Or.inr (Or.inr (Or.inr (Or.inr ⟨rfl, rfl⟩)))), q.trans ?_⟩
    have bd : ∀ j, j ≤ K → 0 ≤ sm (fun o => if o = i then 0 else 99 - cV ω 1 o 3) j ∧ sm (fun o => if o = i then 0 else 99 - cV ω 1 o 3) j ≤ 99 * (j : Int) := by
      intro j
      induction j with
      | zero => intro _; exact ⟨Int.le_refl 0, Int.le_refl 0⟩
      | succ j ih =>
        intro hj
        have a := ih (by omega)
        have v := O' j (by omega)
        rw [sm_s]
        by_cases g : j = i
        · rw [if_pos g]; omega
        · rw [if_neg g]; omega
    have lp : ∀ d j : Nat, j + d = K → am_run (163, 0) 267 ([some (.inr (.inr 53)), some (.inl s), some (.inl 5), some (.inl ((i : Int))), some (.inl (sm (fun o => if o = i then 0 else 99 - cV ω 1 o 3) j)), some (.inl ((j : Int)))], [], ω) = some (some (.inl (sm (fun o => if o = i then 0 else 99 - cV ω 1 o 3) K)), ω) := by
      intro d
      induction d with
      | zero =>
        intro j hj
        obtain rfl : j = K := by omega
        rw [pX7_says_267 _ _ _ _ _ _ _ (i_53 h0)]
        simp only [am_bi_s, am_bl_s, am_ba_s, am_bv_s, Int.toNat_zero, Int.reduceToNat, Int.toNat_natCast, if_true, if_false, not_true, not_false_eq_true, Int.reduceEq, Int.reduceLT, Int.reduceLE, hK2]
        rw [if_pos (by omega)]
      | succ d ih =>
        intro j hj
        have jK : j < K := by omega
        have b1 := bd j (by omega)
        have v := O' j jK
        have y3 : am_get ω 62 j = cV ω 1 j 3 := mv j jK 3 (by omega)
        rw [pX7_says_267 _ _ _ _ _ _ _ (i_53 h0)]
        simp only [am_bi_s, am_bl_s, am_ba_s, am_bv_s, Int.toNat_zero, Int.reduceToNat, Int.toNat_natCast, if_true, if_false, not_true, not_false_eq_true, Int.reduceEq, Int.reduceLT, Int.reduceLE, i_53 h0, f_53_0 h0, f_53_1 h0, f_53_2 h0, f_53_4 h0, f_53_5 h0, f_53_7 h0, f_53_8 h0, f_53_9 h0, f_53_10 h0, f_53_11 h0, hK2, if_neg (show ¬ (K : Int) ≤ (j : Int) by omega), n_59 h0 (i := (j : Int)) (by omega) (by omega), n_60 h0 (i := (j : Int)) (by omega) (by omega), n_61 h0 (i := (j : Int)) (by omega) (by omega), n_62 h0 (i := (j : Int)) (by omega) (by omega), n_63 h0 (i := (j : Int)) (by omega) (by omega), y3, am_w_s (z := (j : Int) + 1) (by omega) (by omega), am_w_s (z := 99 - cV ω 1 j 3) (by omega) (by omega), am_w_s (z := sm (fun o => if o = i then 0 else 99 - cV ω 1 o 3) j + (99 - cV ω 1 j 3)) (by omega) (by omega)]
        rw [show (j : Int) + 1 = ((j + 1 : Nat) : Int) by omega, ← ih (j + 1) (by omega), sm_s]
        by_cases g : j = i
        · rw [if_pos (by omega), if_pos g, Int.add_zero]
        · rw [if_neg (by omega), if_neg g]
    exact lp K 0 (by omega)
theorem k_says (h : Inv ω) (s w : Int) : Pair 90 163 [some (.inr (.inr 0)), some (.inl s), some (.inl w), none, none, none] [some (.inr (.inr 53)), some (.inl s), some (.inl w), none, none, none] ω := by
  have h0 := h.1
  obtain ⟨e1, e2, e3, e4⟩ := inv_k h
  have b := fun k => rfz_bs (k := k) h0
  have p1 := pX6_says_0 0 s w ω
  have p2 := fun ω' => pX7_says_0 53 s w ω'
  simp only [am_bi_s, am_bl_s, am_ba_s, am_bv_s, Int.toNat_zero, Int.reduceToNat, Int.toNat_natCast, if_true, if_false, not_true, not_false_eq_true, Int.reduceEq, Int.reduceLT, Int.reduceLE, c_shelf1, c_kind, i_0 h0, c_r2 h0] at p1
  by_cases hs : 0 ≤ s ∧ s ≤ 7
  · by_cases hw : 0 ≤ w ∧ w ≤ 5
    · obtain ⟨t, rfl⟩ : ∃ t : Nat, s = t := ⟨s.toNat, by omega⟩
      have ht : t < 8 := by omega
      obtain ⟨K, hK⟩ : ∃ K : Nat, ck ω 1 = K := ⟨(ck ω 1).toNat, by omega⟩
      obtain ⟨q1, q2, q3⟩ := h.2.2.2.2.1 t ht
      have q1' : am_get ω 54 t = am_get ω (37 + 2 * t) 0 := q1
      have hK1 : ω.2.1 1 3 = (K : Int) := hK
      rw [hK1] at q3
      have eS := g_shelf h0 ht
      have iS := is_shelf h0 ht
      have aS := ina_33 h0 (i := (t : Int)) (by omega) (by omega)
      simp only [b01_pos hs, b01_pos hw, am_bi_s, am_bl_s, am_ba_s, am_bv_s, Int.toNat_zero, Int.reduceToNat, Int.toNat_natCast, if_true, if_false, not_true, not_false_eq_true, Int.reduceEq, Int.reduceLT, Int.reduceLE, i_0 h0, i_1 h0, f_0_0 h0, f_0_3 h0, f_0_4 h0, f_1_1 h0, f_1_2 h0, f_1_4 h0, eS, iS, aS, pX2_shipNumber_0 _ _ iS, pX2_isShip_0 _ _ iS, c_isRow iS] at p1
      have q3' : am_get ω (37 + 2 * t) 0 = -1 ∨ (0 ≤ am_get ω (37 + 2 * t) 0 ∧ am_get ω (37 + 2 * t) 0 ≤ 4) ∨ (10 ≤ am_get ω (37 + 2 * t) 0 ∧ am_get ω (37 + 2 * t) 0 < 10 + (K : Int)) := by
        unfold am_get
        rcases q3 with q | q | q
        · exact Or.inl q
        · exact Or.inr (Or.inl ⟨q.1, q.2.1⟩)
        · exact Or.inr (Or.inr q)
      have r54 : ∀ k, am_get (rfz ω k) 54 t = am_get ω (37 + 2 * t) 0 := fun k => (rfz_get (by omega)).trans q1'
      rcases q3' with q | q | q
      · rw [if_pos (by omega)] at p1
        simp only [am_bi_s, am_bl_s, am_ba_s, am_bv_s, Int.toNat_zero, Int.reduceToNat, Int.toNat_natCast, if_true, if_false, not_true, not_false_eq_true, Int.reduceEq, Int.reduceLT, Int.reduceLE, i_0 h0, i_1 h0, f_0_0 h0, f_0_3 h0, f_0_4 h0, f_1_1 h0, f_1_2 h0, f_1_4 h0, iS, c_hasShip h0 W1, b01_neg (show ¬ ((0 : Int) ≤ -1 ∧ (-1 : Int) < ck ω 1) by omega), b01_neg (show ¬ (False ∧ (-1 : Int) < ck ω 1) from fun z => z.1), c_isRow iS, b01_neg (show ¬ (0 ≤ am_get ω (37 + 2 * t) 0 ∧ am_get ω (37 + 2 * t) 0 ≤ 4) by omega), c_r4 h0] at p1
        refine pair_ref h 2 (by omega) p1 ?_
        rw [p2]
        simp only [m_in1, b01_pos hs, b01_pos hw, am_bi_s, am_bl_s, am_ba_s, am_bv_s, Int.toNat_zero, Int.reduceToNat, Int.toNat_natCast, if_true, if_false, not_true, not_false_eq_true, Int.reduceEq, Int.reduceLT, Int.reduceLE, i_53 (b 2), f_53_0 (b 2), f_53_1 (b 2), f_53_2 (b 2), f_53_4 (b 2), f_53_5 (b 2), f_53_7 (b 2), f_53_8 (b 2), f_53_9 (b 2), f_53_10 (b 2), f_53_11 (b 2), n_54 (b 2) (i := (t : Int)) (by omega) (by omega), m_isRow (b 2) ht, r54, b01_neg (show ¬ (0 ≤ am_get ω (37 + 2 * t) 0 ∧ am_get ω (37 + 2 * t) 0 ≤ 4) by omega), am_w_s (z := am_get ω (37 + 2 * t) 0 - 10) (by omega) (by omega), if_pos (show am_get ω (37 + 2 * t) 0 - 10 < 0 by omega)]
        rw [pX7_says_68 _ _ _ _ _ _ _ (i_53 (b 2)), if_neg (by omega), bi_v (m_r4 (b 2))]
      · rw [if_pos (by omega)] at p1
        simp only [am_bi_s, am_bl_s, am_ba_s, am_bv_s, Int.toNat_zero, Int.reduceToNat, Int.toNat_natCast, if_true, if_false, not_true, not_false_eq_true, Int.reduceEq, Int.reduceLT, Int.reduceLE, i_0 h0, i_1 h0, f_0_0 h0, f_0_3 h0, f_0_4 h0, f_1_1 h0, f_1_2 h0, f_1_4 h0, iS, c_hasShip h0 W1, b01_neg (show ¬ ((0 : Int) ≤ -1 ∧ (-1 : Int) < ck ω 1) by omega), b01_neg (show ¬ (False ∧ (-1 : Int) < ck ω 1) from fun z => z.1), c_isRow iS, b01_pos q, c_r3 h0] at p1
        refine pair_ref h 1 (by omega) p1 ?_
        rw [p2]
        simp only [m_in1, b01_pos hs, b01_pos hw, am_bi_s, am_bl_s, am_ba_s, am_bv_s, Int.toNat_zero, Int.reduceToNat, Int.toNat_natCast, if_true, if_false, not_true, not_false_eq_true, Int.reduceEq, Int.reduceLT, Int.reduceLE, i_53 (b 1), f_53_0 (b 1), f_53_1 (b 1), f_53_2 (b 1), f_53_4 (b 1), f_53_5 (b 1), f_53_7 (b 1), f_53_8 (b 1), f_53_9 (b 1), f_53_10 (b 1), f_53_11 (b 1), n_54 (b 1) (i := (t : Int)) (by omega) (by omega), m_isRow (b 1) ht, r54, b01_pos q, m_r3 (b 1)]
      · obtain ⟨i, hi⟩ : ∃ i : Nat, am_get ω (37 + 2 * t) 0 = 10 + (i : Int) := ⟨(am_get ω (37 + 2 * t) 0 - 10).toNat, by omega⟩
        have iK : i < K := by omega
        have i6 : i < 6 := by omega
        have eV : am_get ω 4 i = 1 + 4 + (i : Int) := w_V h0 W1 i6
        have iS' : am_ina ω 4 (i : Int) = true := ina_S h0 W1 (by omega) (by omega)
        have iV := is_V h0 W1 i6
        have o0 := (inv_O h (i := i) (by omega)).1
        have cn10 : am_w (am_get ω (37 + 2 * t) 0 - 10) = (i : Int) := (am_w_s (by omega) (by omega)).trans (by omega)
        rw [if_neg (by omega)] at p1
        simp only [am_bi_s, am_bl_s, am_ba_s, am_bv_s, Int.toNat_zero, Int.reduceToNat, Int.toNat_natCast, if_true, if_false, not_true, not_false_eq_true, Int.reduceEq, Int.reduceLT, Int.reduceLE, i_0 h0, i_1 h0, f_0_0 h0, f_0_3 h0, f_0_4 h0, f_1_1 h0, f_1_2 h0, f_1_4 h0, iS, cn10, c_hasShip h0 W1, b01_pos (show (0 : Int) ≤ (i : Int) ∧ (i : Int) < ck ω 1 by omega), c_isRow iS, b01_neg (show ¬ (0 ≤ am_get ω (37 + 2 * t) 0 ∧ am_get ω (37 + 2 * t) 0 ≤ 4) by omega), eV, iS', iV, c_isOf iV hw, V_at] at p1
        have x0 : am_get ω 59 i = am_get ω (5 + i) 0 := (inv_E5 h i6 0 (by omega)).symm
        by_cases g : ofF (am_get ω (5 + i) 0) w
        · obtain ⟨r, hr, cr⟩ := c_saying h hK iK hw
          obtain ⟨r', hr', mr⟩ := m_saying h hK iK (t : Int) hw none none
          rw [say_u hr' hr] at mr
          rw [b01_pos g] at p1
          simp only [am_bi_s, am_bl_s, am_ba_s, am_bv_s, Int.toNat_zero, Int.reduceToNat, Int.toNat_natCast, if_true, if_false, not_true, not_false_eq_true, Int.reduceEq, Int.reduceLT, Int.reduceLE, i_0 h0, i_1 h0, f_0_0 h0, f_0_3 h0, f_0_4 h0, f_1_1 h0, f_1_2 h0, f_1_4 h0, cr] at p1
          refine pair_same h p1 ?_
          rw [p2]
          simp only [m_in1, b01_pos hs, b01_pos hw, am_bi_s, am_bl_s, am_ba_s, am_bv_s, Int.toNat_zero, Int.reduceToNat, Int.toNat_natCast, if_true, if_false, not_true, not_false_eq_true, Int.reduceEq, Int.reduceLT, Int.reduceLE, i_53 h0, f_53_0 h0, f_53_1 h0, f_53_2 h0, f_53_4 h0, f_53_5 h0, f_53_7 h0, f_53_8 h0, f_53_9 h0, f_53_10 h0, f_53_11 h0, n_54 h0 (i := (t : Int)) (by omega) (by omega), m_isRow h0 ht, q1', b01_neg (show ¬ (0 ≤ am_get ω (37 + 2 * t) 0 ∧ am_get ω (37 + 2 * t) 0 ≤ 4) by omega), cn10, if_neg (show ¬ (i : Int) < 0 by omega), n_59 h0 (i := (i : Int)) (by omega) (by omega), n_60 h0 (i := (i : Int)) (by omega) (by omega), n_61 h0 (i := (i : Int)) (by omega) (by omega), n_62 h0 (i := (i : Int)) (by omega) (by omega), n_63 h0 (i := (i : Int)) (by omega) (by omega), x0, m_isUnder hw o0, b01_pos g]
          exact mr
        · rw [b01_neg g] at p1
          simp only [am_bi_s, am_bl_s, am_ba_s, am_bv_s, Int.toNat_zero, Int.reduceToNat, Int.toNat_natCast, if_true, if_false, not_true, not_false_eq_true, Int.reduceEq, Int.reduceLT, Int.reduceLE, i_0 h0, i_1 h0, f_0_0 h0, f_0_3 h0, f_0_4 h0, f_1_1 h0, f_1_2 h0, f_1_4 h0, c_r3 h0] at p1
          refine pair_ref h 1 (by omega) p1 ?_
          have y0 : am_get (rfz ω 1) 59 i = am_get ω (5 + i) 0 := (rfz_get (by omega)).trans x0
          rw [p2]
          simp only [m_in1, b01_pos hs, b01_pos hw, am_bi_s, am_bl_s, am_ba_s, am_bv_s, Int.toNat_zero, Int.reduceToNat, Int.toNat_natCast, if_true, if_false, not_true, not_false_eq_true, Int.reduceEq, Int.reduceLT, Int.reduceLE, i_53 (b 1), f_53_0 (b 1), f_53_1 (b 1), f_53_2 (b 1), f_53_4 (b 1), f_53_5 (b 1), f_53_7 (b 1), f_53_8 (b 1), f_53_9 (b 1), f_53_10 (b 1), f_53_11 (b 1), n_54 (b 1) (i := (t : Int)) (by omega) (by omega), m_isRow (b 1) ht, r54, b01_neg (show ¬ (0 ≤ am_get ω (37 + 2 * t) 0 ∧ am_get ω (37 + 2 * t) 0 ≤ 4) by omega), cn10, if_neg (show ¬ (i : Int) < 0 by omega), n_59 (b 1) (i := (i : Int)) (by omega) (by omega), n_60 (b 1) (i := (i : Int)) (by omega) (by omega), n_61 (b 1) (i := (i : Int)) (by omega) (by omega), n_62 (b 1) (i := (i : Int)) (by omega) (by omega), n_63 (b 1) (i := (i : Int)) (by omega) (by omega), y0, m_isUnder hw o0, b01_neg g, m_r3 (b 1)]
    · simp only [b01_pos hs, b01_neg hw, am_bi_s, am_bl_s, am_ba_s, am_bv_s, Int.toNat_zero, Int.reduceToNat, Int.toNat_natCast, if_true, if_false, not_true, not_false_eq_true, Int.reduceEq, Int.reduceLT, Int.reduceLE, i_0 h0, c_r2 h0] at p1
      refine pair_ref h 0 (by omega) p1 ?_
      rw [p2]
      simp only [m_in1, b01_pos hs, b01_neg hw, am_bi_s, am_bl_s, am_ba_s, am_bv_s, Int.toNat_zero, Int.reduceToNat, Int.toNat_natCast, if_true, if_false, not_true, not_false_eq_true, Int.reduceEq, Int.reduceLT, Int.reduceLE, i_53 (b 0), m_r2 (b 0)]
  · simp only [b01_neg hs, am_bi_s, am_bl_s, am_ba_s, am_bv_s, Int.toNat_zero, Int.reduceToNat, Int.toNat_natCast, if_true, if_false, not_true, not_false_eq_true, Int.reduceEq, Int.reduceLT, Int.reduceLE] at p1
    refine pair_ref h 0 (by omega) p1 ?_
    rw [p2]
    simp only [m_in1, b01_neg hs, am_bi_s, am_bl_s, am_ba_s, am_bv_s, Int.toNat_zero, Int.reduceToNat, Int.toNat_natCast, if_true, if_false, not_true, not_false_eq_true, Int.reduceEq, Int.reduceLT, Int.reduceLE, i_53 (b 0), m_r2 (b 0)]
end K37
