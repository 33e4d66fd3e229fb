/-! ===== can ===== -/
section K11
variable {ω : am_W}
theorem prF_ok {n : Int} {C : Nat → Int} (hn : n ≤ 6) (hC : ∀ j, j < 5 → 1 ≤ C j ∧ C j ≤ 9) {k l : Int} (h : 0 ≤ l ∧ l < n - 1) : prF n C k l = fP k (C l.toNat) ∧ 1 ≤ prF n C k l ∧ prF n C k l ≤ 9 := by
  have hj := hC l.toNat (by omega)
  unfold prF
  rw [if_pos h]
  refine ⟨rfl, ?_⟩
  unfold fP
  by_cases g : k = 1 ∨ k = 5
  · rw [if_pos g]; omega
  · rw [if_neg g]; omega
theorem prF_no {n : Int} {C : Nat → Int} {k l : Int} (h : ¬ (0 ≤ l ∧ l < n - 1)) : prF n C k l = -1 := if_neg h
def wayF (n : Int) (v : Nat → Int) (d : Int) : Prop := (v 0 = 0 ∨ v 0 = 1 ∨ v 0 = 5) ∧ v 4 = 0 ∧ 0 ≤ low (v 1) d ∧ low (v 1) d < n - 1
theorem m_isWay (h : Bs ω) (hn : 2 ≤ mn ω ∧ mn ω ≤ 6) {i : Nat} (hi : i < 6) (hk : 0 ≤ mV ω i 0 ∧ mV ω i 0 ≤ 5) (hc : 0 ≤ mV ω i 1 ∧ mV ω i 1 < mn ω) {d : Int} (hd : d = 1 ∨ d = 2) : am_run (187, 0) 0 ([some (.inr (.inr 53)), some (.inl (i : Int)), some (.inl d)], [], ω) = some (some (.inl (b01 (wayF (mn ω) (mV ω i) d))), ω) := by
  have e0 : am_get ω 59 i = mV ω i 0 := rfl
  have e1 : am_get ω 60 i = mV ω i 1 := rfl
  have e4 : am_get ω 63 i = mV ω i 4 := rfl
  have en : am_get ω 53 3 = mn ω := rfl
  rw [pX7_isWay_0 _ _ _ _ (i_53 h)]
  simp only [Int.reduceToNat, f_53_7 h, f_53_8 h, f_53_11 h, n_59 h (i := (i : Int)) (by omega) (by omega), n_60 h (i := (i : Int)) (by omega) (by omega), n_63 h (i := (i : Int)) (by omega) (by omega), if_true, Int.toNat_natCast, e0, e1, e4, en, am_w_s (z := mn ω - 1) (by omega) (by omega)]
  by_cases g2 : mV ω i 0 = 2
  · rw [if_pos g2, b01_neg (fun q => by have := q.1; omega)]
  rw [if_neg g2]
  by_cases g3 : mV ω i 0 = 3
  · rw [if_pos g3, b01_neg (fun q => by have := q.1; omega)]
  rw [if_neg g3]
  by_cases g4 : mV ω i 0 = 4
  · rw [if_pos g4, b01_neg (fun q => by have := q.1; omega)]
  rw [if_neg g4]
  by_cases g5 : mV ω i 4 = 0
  · rw [if_neg (fun z => z g5)]
    unfold wayF low
    rcases hd with rfl | rfl
    · rw [if_neg (fun z => z rfl), if_pos rfl]
      by_cases g6 : mn ω - 1 ≤ mV ω i 1
      · rw [if_pos g6, b01_neg (by omega)]
      · rw [if_neg g6, b01_pos (by omega)]
    · rw [if_pos (show ¬ (2 : Int) = 1 by omega), if_neg (show ¬ (2 : Int) = 1 by omega)]
      by_cases g6 : mV ω i 1 ≤ 0
      · rw [if_pos g6, b01_neg (by omega)]
      · rw [if_neg g6, b01_pos (by omega)]
  · rw [if_pos g5, b01_neg (fun q => g5 q.2.1)]
theorem m_isCode (h : Bs ω) (hn : 2 ≤ mn ω ∧ mn ω ≤ 6) (hC : ∀ j, j < 5 → 1 ≤ mC ω j ∧ mC ω j ≤ 9) {i : Nat} (hi : i < 6) (hk : 0 ≤ mV ω i 0 ∧ mV ω i 0 ≤ 5) (hc : 0 ≤ mV ω i 1 ∧ mV ω i 1 < mn ω) (hb : 0 ≤ mV ω i 4) {d : Int} (hd : d = 1 ∨ d = 2) : am_run (189, 0) 0 ([some (.inr (.inr 53)), some (.inl (i : Int)), some (.inl d)], [], ω) = some (some (.inl (b01 (canF (mn ω) (mC ω) (mV ω i) d))), ω) := by
  have e3 : am_get ω 62 i = mV ω i 3 := rfl
  rw [pX7_isCode_0, if_neg (by omega), bi_v m_in1, b01_pos (by omega), if_neg (show ¬ (1 : Int) = 0 by omega), if_pos (i_53 h), bi_v (m_isWay h hn hi hk hc hd)]
  by_cases g : wayF (mn ω) (mV ω i) d
  · obtain ⟨p1, p2, p3⟩ := prF_ok hn.2 hC (k := mV ω i 0) g.2.2
    rw [b01_pos g, if_neg (show ¬ (1 : Int) = 0 by omega), if_pos (i_53 h)]
    simp only [Int.reduceToNat, f_53_10 h, n_62 h (i := (i : Int)) (by omega) (by omega), if_true, m_priceOf h hn hC hi g.2.2, am_bi_s, Int.toNat_natCast, e3]
    by_cases q : mV ω i 3 < prF (mn ω) (mC ω) (mV ω i 0) (low (mV ω i 1) d)
    · rw [if_pos q, b01_neg (fun z => by have := z.2.2.2; omega)]
    · rw [if_neg q, b01_pos ⟨by have := g.2.1; omega, g.1, by omega, by omega⟩]
  · rw [b01_neg g, if_pos rfl, b01_neg (fun z => g ⟨z.2.1, by have := z.1; omega, by
      by_cases y : 0 ≤ low (mV ω i 1) d ∧ low (mV ω i 1) d < mn ω - 1
      · exact y
      · exact absurd (prF_no y) z.2.2.1⟩)]
theorem c_change {v : Int} : am_run (142, 0) 0 ([some (.inl v)], [], ω) = some (some (.inl (b01 (1 ≤ v ∧ v ≤ 2))), ω) := by
  rw [pX6_isChange_0]
  by_cases h1 : v = 1
  · rw [if_pos h1, b01_pos (by omega)]
  · rw [if_neg h1]
    by_cases h2 : v = 2
    · rw [if_neg (fun z => z h2), b01_pos (by omega)]
    · rw [if_pos h2, b01_neg (by omega)]
theorem prF_c {n : Int} {C C' : Nat → Int} {k l : Int} (hn : n ≤ 6) (h : ∀ j, j < 5 → C j = C' j) : prF n C k l = prF n C' k l := by
  unfold prF
  by_cases g : 0 ≤ l ∧ l < n - 1
  · rw [if_pos g, if_pos g, h _ (by omega)]
  · rw [if_neg g, if_neg g]
theorem k_can (h : Inv ω) (s d : Int) : Pair 101 192 [some (.inr (.inr 0)), some (.inl s), some (.inl d), none] [some (.inr (.inr 53)), some (.inl s), some (.inl d)] ω := by
  have h0 := h.1
  obtain ⟨e1, e2, e3, e4⟩ := inv_k h
  have b := fun k => rfz_bs (k := k) h0
  have p1 := pX6_can_0 0 s d ω (i_0 h0) (by simp only [Int.toNat_zero, f_0_0 h0]; exact i_1 h0)
  simp only [Int.toNat_zero, f_0_0 h0, c_hasShip h0 W1, c_change, am_bi_s, Int.reduceToNat, i_0 h0, i_1 h0, if_true, f_1_4 h0, c_r2 h0] at p1
  by_cases hs : 0 ≤ s ∧ s < ck ω 1
  · rw [b01_pos hs] at p1
    simp only [show ¬ (1 : Int) = 0 by omega, if_false] at p1
    by_cases hd : 1 ≤ d ∧ d ≤ 2
    · have hd' : d = 1 ∨ d = 2 := by omega
      obtain ⟨i, rfl⟩ : ∃ i : Nat, s = i := ⟨s.toNat, by omega⟩
      have hi : i < 6 := by omega
      have eV : am_get ω 4 i = 1 + 4 + (i : Int) := w_V h0 W1 hi
      have iS : am_ina ω 4 (i : Int) = true := ina_S h0 W1 (by omega) (by omega)
      have iV := is_V h0 W1 hi
      have hC : ∀ j, j < 5 → 1 ≤ cC ω 1 j ∧ cC ω 1 j ≤ 9 := fun j hj => h.2.2.1.2.2.2.1 j hj
      have hC' : ∀ j, j < 5 → 1 ≤ mC ω j ∧ mC ω j ≤ 9 := fun j hj => by rw [inv_C h hj]; exact hC j hj
      have O : O_ship (cn ω 1) (cT ω 1) (cV ω 1 i) := by
        have q := h.2.2.1.2.2.2.2.1 i hs.2
        have : cV ω 1 i = ω.2.1 (1 + 4 + i) := by funext f; unfold cV; rw [show ((1 : Int) + 4 + (i : Int)).toNat = 1 + 4 + i by omega]; rfl
        rw [this]
        exact q
      obtain ⟨o0, o1, o2, o3, o4⟩ := O
      have o1' : 0 ≤ am_get ω (1 + 4 + (i : Int)).toNat 1 ∧ am_get ω (1 + 4 + (i : Int)).toNat 1 ≤ 20 := by have : cV ω 1 i 1 = am_get ω (1 + 4 + (i : Int)).toNat 1 := rfl; omega
      have a1 := c_isAble h0 W1 e4 hC iV o1' hd'
      have a2 := c_price h0 W1 e4 hC iV o1' hd'
      rw [b01_pos hd] at p1
      simp only [show ¬ (1 : Int) = 0 by omega, not_false_eq_true, if_true, Int.toNat_natCast, eV, iS, iV, a1, a2, am_bi_s, Int.toNat_zero, f_0_0 h0, i_0 h0, i_1 h0] at p1
      have g0 := inv_V h (f := 0) hi (by omega)
      have g1 := inv_V h (f := 1) hi (by omega)
      have g3 := inv_V h (f := 3) hi (by omega)
      have g4 := inv_V h (f := 4) hi (by omega)
      have m1 := m_isCode h0 (by rw [e2]; exact e4) hC' hi (by rw [g0]; exact o0) (by rw [g1, e2]; exact o1) (by rw [g4]; exact o4.1) hd'
      have eP : prF (mn ω) (mC ω) (mV ω i 0) (low (mV ω i 1) d) = prF (cn ω 1) (cC ω 1) (cV ω 1 i 0) (low (cV ω 1 i 1) d) := by
        rw [e2, g0, g1]
        exact prF_c e4.2 (fun j hj => inv_C h hj)
      have eC : canF (mn ω) (mC ω) (mV ω i) d ↔ canF (cn ω 1) (cC ω 1) (cV ω 1 i) d := by
        unfold canF
        rw [eP, g0, g3, g4]
      have p2 := pX7_can_0 53 i d ω (i_53 h0)
      simp only [m_isShip h0 (by rw [e1]; exact e3), am_bi_s, e1, b01_pos hs, show ¬ (1 : Int) = 0 by omega, if_false, m_in1, b01_pos hd, not_false_eq_true, if_true, i_53 h0, m1] at p2
      by_cases q : canF (cn ω 1) (cC ω 1) (cV ω 1 i) d
      · have q1 : canF (cn ω 1) (cC ω 1) (am_get ω (1 + 4 + (i : Int)).toNat) d := q
        rw [b01_pos q1, if_neg (show ¬ (1 : Int) = 0 by omega)] at p1
        rw [b01_pos (eC.mpr q), if_neg (show ¬ (1 : Int) = 0 by omega), bi_v (m_priceOf h0 (by rw [e2]; exact e4) hC' hi (by
          by_cases y : 0 ≤ low (mV ω i 1) d ∧ low (mV ω i 1) d < mn ω - 1
          · exact y
          · exact absurd (prF_no y) (eC.mpr q).2.2.1)), eP] at p2
        exact pair_same h p1 p2
      · have q1 : ¬ canF (cn ω 1) (cC ω 1) (am_get ω (1 + 4 + (i : Int)).toNat) d := q
        rw [b01_neg q1, if_pos rfl] at p1
        rw [b01_neg (fun z => q (eC.mp z)), if_pos rfl] at p2
        exact pair_same h p1 p2
    · rw [b01_neg hd] at p1
      simp only [not_true, if_false] at p1
      refine pair_ref h 0 (by omega) p1 ?_
      rw [pX7_can_0 _ _ _ _ (i_53 (b 0))]
      simp only [m_isShip (b 0) (by rw [mk_rfz]; omega), am_bi_s, mk_rfz, e1, b01_pos hs, show ¬ (1 : Int) = 0 by omega, if_false, m_in1, b01_neg hd, not_true, i_53 (b 0), if_true, m_r2 (b 0)]
  · rw [b01_neg hs] at p1
    simp only [if_true] at p1
    refine pair_ref h 0 (by omega) p1 ?_
    rw [pX7_can_0 _ _ _ _ (i_53 (b 0))]
    simp only [m_isShip (b 0) (by rw [mk_rfz]; omega), am_bi_s, mk_rfz, e1, b01_neg hs, i_53 (b 0), if_true, m_r2 (b 0)]
end K11
