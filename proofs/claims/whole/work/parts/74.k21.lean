/-! ===== hurl ===== -/
section K21
variable {ω ω' : am_W} {W : Int}
def hurF (n : Int) (u w : Nat → Int) (d : Int) : Prop := (w 0 = 2 ∨ w 0 = 3) ∧ ¬ (u 0 = 2 ∨ u 0 = 3) ∧ fW u w ∧ 1 ≤ u 3 ∧ (0 ≤ nxt (w 1) d ∧ nxt (w 1) d < n)
theorem c_parcel {v : Int} (hv : am_is ω v (4, 5) = true) : am_run (49, 0) 0 ([some (.inr (.inr v)), some (.inl 2)], [], ω) = some (some (.inl (b01 (am_get ω v.toNat 0 = 2 ∨ am_get ω v.toNat 0 = 3))), ω) := by
  rw [pX4_isOf_0 _ _ _ hv, if_neg (show ¬ (2 : Int) = 0 by omega), if_neg (show ¬ (2 : Int) = 1 by omega), if_pos rfl]
  by_cases g1 : am_get ω v.toNat 0 = 2
  · rw [if_pos g1, b01_pos (Or.inl g1)]
  · rw [if_neg g1]
    by_cases g2 : am_get ω v.toNat 0 = 3
    · rw [if_neg (fun z => z g2), b01_pos (Or.inr g2)]
    · rw [if_pos g2, b01_neg (by omega)]
theorem c_hasNext (h : Bs ω) (hw : isW W) {c d : Int} (hc : 0 ≤ c ∧ c ≤ 20) : am_run (56, 0) 0 ([some (.inr (.inr W)), some (.inl c), some (.inl d)], [], ω) = some (some (.inl (b01 (0 ≤ nxt c d ∧ nxt c d < cn ω W))), ω) := by
  rw [pX5_hasCircleNext_0 _ _ _ _ (w_is h hw), bi_v (c_next hc), if_pos (w_is h hw), bi_v (c_hasCircle h hw), if_pos b01_nar]
theorem m_hurl_run (h : Bs ω) (hn : 2 ≤ mn ω ∧ mn ω ≤ 6) (hT : Tok (mT ω)) (hk : 0 ≤ mk ω ∧ mk ω ≤ 6) {i j : Nat} (hi : (i : Int) < mk ω) (hj : (j : Int) < mk ω) (hij : i ≠ j) {d : Int} (hd : 1 ≤ d ∧ d ≤ 2) (O : O_ship (mn ω) (mT ω) (mV ω i)) (P : O_ship (mn ω) (mT ω) (mV ω j)) : (¬ hurF (mn ω) (mV ω i) (mV ω j) d → am_run (225, 0) 0 ([some (.inr (.inr 53)), some (.inl ((i : Int))), some (.inl ((j : Int))), some (.inl d), none, none], [], ω) = some (some (.inl (-5)), noz ω 3)) ∧ (hurF (mn ω) (mV ω i) (mV ω j) d → am_run (225, 0) 0 ([some (.inr (.inr 53)), some (.inl ((i : Int))), some (.inl ((j : Int))), some (.inl d), none, none], [], ω) = some (some (.inl (mT ω (mV ω j 1).toNat / 2)), setM (setM ω i (up (mV ω i) 3 (mV ω i 3 - 1))) j (sendF (mT ω) (mV ω j) d))) := by
  have e0 : am_get ω 59 i = mV ω i 0 := rfl
  have f0 : am_get ω 59 j = mV ω j 0 := rfl
  have f1 : am_get ω 60 j = mV ω j 1 := rfl
  have e3 : am_get ω 62 i = mV ω i 3 := rfl
  have o1 := P.2.1
  have o3 := O.2.2.2.1
  have hp : ((0 : Int) ≤ (i : Int) ∧ (i : Int) < mk ω) ∧ (0 ≤ (j : Int) ∧ (j : Int) < mk ω) ∧ (i : Int) ≠ (j : Int) := by omega
  have hd' : d = 1 ∨ d = 2 := by omega
  have q0 := pX7_hurl_0 53 i j d ω (i_53 h)
  have q50 := fun s0 => pX7_hurl_50 53 i j d s0 none none ω (i_53 h)
  have q77 := fun l4 s0 => pX7_hurl_77 53 i j d l4 s0 none ω (i_53 h)
  have q132 := fun l4 l5 s1 => pX7_hurl_132 53 i j d l4 l5 53 s1 ω (i_53 h)
  have D := setM_dc h (i := i) (u := up (mV ω i) 3 (mV ω i 3 - 1))
  have B := h.dc D
  obtain ⟨M1, M2, M3, M4⟩ := setM_m (ω := ω) (i := i) (u := up (mV ω i) 3 (mV ω i 3 - 1))
  have Mj : mV (setM ω i (up (mV ω i) 3 (mV ω i 3 - 1))) j = mV ω j := funext fun f => setM_Vo (fun z => hij z.symm)
  have pe : am_put ω 62 i (mV ω i 3 - 1) = setM ω i (up (mV ω i) 3 (mV ω i 3 - 1)) := put_setM (f := 3) (by omega)
  have key : ∀ l4 l5, am_run (225, 0) 132 ([some (.inr (.inr 53)), some (.inl ((i : Int))), some (.inl ((j : Int))), some (.inl d), some (.inl l4), some (.inl l5)], [(.inl (nxt (mV ω j 1) d)), (.inr (.inr 53))], ω) = (if 0 ≤ nxt (mV ω j 1) d ∧ nxt (mV ω j 1) d < mn ω then some (some (.inl (mT ω (mV ω j 1).toNat / 2)), setM (setM ω i (up (mV ω i) 3 (mV ω i 3 - 1))) j (sendF (mT ω) (mV ω j) d)) else some (some (.inl (-5)), noz ω 3)) := fun l4 l5 => by
    rw [q132]
    by_cases g : 0 ≤ nxt (mV ω j 1) d ∧ nxt (mV ω j 1) d < mn ω
    · have s1 := m_movesM B (by rw [M1]; exact hn.2) (by rw [M3]; exact hT) (i := j) (d := d) (by omega) (by rw [M1, M3, Mj]; exact P) (by rw [M1, Mj]; exact g)
      rw [M3, Mj] at s1
      have B2 := B.dc (setM_dc B (i := j) (u := sendF (mT ω) (mV ω j) d))
      simp only [m_isCircle h hn, b01_pos g, am_bi_s, am_bl_s, am_ba_s, am_bv_s, Int.toNat_zero, Int.reduceToNat, Int.toNat_natCast, if_true, if_false, not_true, not_false_eq_true, Int.reduceEq, Int.reduceLT, Int.reduceLE, i_53 h, f_53_0 h, f_53_1 h, f_53_2 h, f_53_4 h, f_53_5 h, f_53_7 h, f_53_8 h, f_53_9 h, f_53_10 h, f_53_11 h, n_59 h (i := (i : Int)) (by omega) (by omega), n_60 h (i := (i : Int)) (by omega) (by omega), n_61 h (i := (i : Int)) (by omega) (by omega), n_62 h (i := (i : Int)) (by omega) (by omega), n_63 h (i := (i : Int)) (by omega) (by omega), e3, am_w_s (z := mV ω i 3 - 1) (by omega) (by omega), pe, s1, i_53 B2, f_53_11 B2, n_63 B2 (i := (j : Int)) (by omega) (by omega)]
      rw [show am_get (setM (setM ω i (up (mV ω i) 3 (mV ω i 3 - 1))) j (sendF (mT ω) (mV ω j) d)) 63 j = sendF (mT ω) (mV ω j) d 4 from setM_V (f := 4) (by omega), if_pos g]
      rfl
    · rw [if_neg g]
      simp only [m_isCircle h hn, b01_neg g, am_bi_s, am_bl_s, am_ba_s, am_bv_s, Int.toNat_zero, Int.reduceToNat, Int.toNat_natCast, if_true, if_false, not_true, not_false_eq_true, Int.reduceEq, Int.reduceLT, Int.reduceLE, i_53 h, m_r5 h]
  have key2 : ∀ l4 l5, (if ¬ d = 1 then am_run (225, 0) 132 ([some (.inr (.inr 53)), some (.inl ((i : Int))), some (.inl ((j : Int))), some (.inl d), some (.inl l4), some (.inl l5)], [(.inl (am_w (mV ω j 1 - 1))), (.inr (.inr 53))], ω) else am_run (225, 0) 132 ([some (.inr (.inr 53)), some (.inl ((i : Int))), some (.inl ((j : Int))), some (.inl d), some (.inl l4), some (.inl l5)], [(.inl (am_w (mV ω j 1 + 1))), (.inr (.inr 53))], ω)) = (if 0 ≤ nxt (mV ω j 1) d ∧ nxt (mV ω j 1) d < mn ω then some (some (.inl (mT ω (mV ω j 1).toNat / 2)), setM (setM ω i (up (mV ω i) 3 (mV ω i 3 - 1))) j (sendF (mT ω) (mV ω j) d)) else some (some (.inl (-5)), noz ω 3)) := fun l4 l5 => by
    rw [← key l4 l5]
    unfold nxt
    by_cases g : d = 1
    · rw [if_neg (fun z => z g), if_pos g, am_w_s (by omega) (by omega)]
    · rw [if_pos g, if_neg g, am_w_s (by omega) (by omega)]
  simp only [m_areTwo h hk, b01_pos hp, m_in1, b01_pos hd, am_bi_s, am_bl_s, am_ba_s, am_bv_s, Int.toNat_zero, Int.reduceToNat, Int.toNat_natCast, if_true, if_false, not_true, not_false_eq_true, Int.reduceEq, Int.reduceLT, Int.reduceLE, i_53 h, f_53_0 h, f_53_1 h, f_53_2 h, f_53_4 h, f_53_5 h, f_53_7 h, f_53_8 h, f_53_9 h, f_53_10 h, f_53_11 h, n_59 h (i := (i : Int)) (by omega) (by omega), n_60 h (i := (i : Int)) (by omega) (by omega), n_61 h (i := (i : Int)) (by omega) (by omega), n_62 h (i := (i : Int)) (by omega) (by omega), n_63 h (i := (i : Int)) (by omega) (by omega), n_59 h (i := (j : Int)) (by omega) (by omega), n_60 h (i := (j : Int)) (by omega) (by omega), n_61 h (i := (j : Int)) (by omega) (by omega), n_62 h (i := (j : Int)) (by omega) (by omega), n_63 h (i := (j : Int)) (by omega) (by omega), e0, f0, f1, e3, m_r5 h, m_meet h (i := i) (j := j) (by omega) (by omega), pX7_hurl_45, pX7_hurl_76] at q0 q50 q77
  simp only [key2] at q77
  rw [q0]
  simp only [q50, pX7_hurl_45, pX7_hurl_76, q77]
  constructor
  · intro q
    by_cases g1 : mV ω j 0 = 2 ∨ mV ω j 0 = 3
    · by_cases g2 : mV ω i 0 = 2 ∨ mV ω i 0 = 3
      · rcases g1 with g1 | g1 <;> rcases g2 with g2 | g2 <;> simp [g1, g2]
      · by_cases g3 : fW (mV ω i) (mV ω j)
        · by_cases g4 : mV ω i 3 = 0
          · rcases g1 with g1 | g1 <;> simp [g1, g4, b01_pos g3, not_or.mp g2]
          · have : ¬ (0 ≤ nxt (mV ω j 1) d ∧ nxt (mV ω j 1) d < mn ω) := fun z => q ⟨g1, g2, g3, by omega, z⟩
            rcases g1 with g1 | g1 <;> simp [g1, g4, b01_pos g3, not_or.mp g2, this]
        · rcases g1 with g1 | g1 <;> simp [g1, b01_neg g3, not_or.mp g2]
    · by_cases g2 : mV ω i 0 = 2 ∨ mV ω i 0 = 3
      · rcases g2 with g2 | g2 <;> simp [not_or.mp g1, g2]
      · simp [not_or.mp g1, not_or.mp g2]
  · intro q
    obtain ⟨g1, g2, g3, g4, g5⟩ := q
    have g4' : ¬ mV ω i 3 = 0 := by omega
    rcases g1 with g1 | g1 <;> simp [g1, g4', b01_pos g3, not_or.mp g2, g5]
theorem c_hurl_run (h : Bs ω) (hn : 2 ≤ cn ω 1 ∧ cn ω 1 ≤ 6) (hT : Tok (cT ω 1)) {i j : Nat} (hk : 0 ≤ ck ω 1 ∧ ck ω 1 ≤ 6) (hi : (i : Int) < ck ω 1) (hj : (j : Int) < ck ω 1) (hij : i ≠ j) {d : Int} (hd : 1 ≤ d ∧ d ≤ 2) (O : O_ship (cn ω 1) (cT ω 1) (am_get ω (5 + i))) (P : O_ship (cn ω 1) (cT ω 1) (am_get ω (5 + j))) : (¬ hurF (cn ω 1) (am_get ω (5 + i)) (am_get ω (5 + j)) d → am_run (122, 0) 0 ([some (.inr (.inr 0)), some (.inl ((i : Int))), some (.inl ((j : Int))), some (.inl d), none, none, none], [], ω) = some (some (.inl (-5)), rfz ω 3)) ∧ (hurF (cn ω 1) (am_get ω (5 + i)) (am_get ω (5 + j)) d → am_run (122, 0) 0 ([some (.inr (.inr 0)), some (.inl ((i : Int))), some (.inl ((j : Int))), some (.inl d), none, none, none], [], ω) = some (some (.inl (cT ω 1 (am_get ω (5 + j) 1).toNat / 2)), setV (setV ω (5 + i) (up (am_get ω (5 + i)) 3 (am_get ω (5 + i) 3 - 1))) (5 + j) (sendF (cT ω 1) (am_get ω (5 + j)) d))) := by
  have hi6 : i < 6 := by omega
  have hj6 : j < 6 := by omega
  have eV : am_get ω 4 i = 1 + 4 + (i : Int) := w_V h W1 hi6
  have iS : am_ina ω 4 (i : Int) = true := ina_S h W1 (by omega) (by omega)
  have iV := is_V h W1 hi6
  have eU : am_get ω 4 j = 1 + 4 + (j : Int) := w_V h W1 hj6
  have jS : am_ina ω 4 (j : Int) = true := ina_S h W1 (by omega) (by omega)
  have jV := is_V h W1 hj6
  have o3 := O.2.2.2.1
  have o1 := P.2.1
  have hp : ((0 : Int) ≤ (i : Int) ∧ (i : Int) < ck ω 1) ∧ (0 ≤ (j : Int) ∧ (j : Int) < ck ω 1) ∧ (i : Int) ≠ (j : Int) := by omega
  have dA := setV_dc iV (u := up (am_get ω (5 + i)) 3 (am_get ω (5 + i) 3 - 1))
  rw [V_at] at dA
  have bA := h.dc dA
  have kA := setV_W h W1 iV (u := up (am_get ω (5 + i)) 3 (am_get ω (5 + i) 3 - 1))
  rw [V_at] at kA
  have q81 := fun s0 => pX6_hurl_81 0 i j d (1 + 4 + (i : Int)) (1 + 4 + (j : Int)) s0 none ω (i_0 h) iV jV (by simp only [Int.toNat_zero, f_0_0 h]; exact i_1 h)
  have q0 := pX6_hurl_0 0 i j d ω (i_0 h) (by simp only [Int.toNat_zero, f_0_0 h]; exact i_1 h)
  simp only [am_bi_s, am_bl_s, am_ba_s, am_bv_s, Int.toNat_zero, Int.reduceToNat, Int.toNat_natCast, if_true, if_false, not_true, not_false_eq_true, Int.reduceEq, Int.reduceLT, Int.reduceLE, i_0 h, i_1 h, f_0_0 h, f_0_3 h, f_0_4 h, f_1_1 h, f_1_2 h, f_1_4 h, V_at, c_r5 h, c_hasNext h W1 (c := am_get ω (5 + j) 1) (d := d) (by omega), put_setV, am_w_s (z := am_get ω (5 + i) 3 - 1) (by omega) (by omega), iV, jV] at q81
  simp only [am_bi_s, am_bl_s, am_ba_s, am_bv_s, Int.toNat_zero, Int.reduceToNat, Int.toNat_natCast, if_true, if_false, not_true, not_false_eq_true, Int.reduceEq, Int.reduceLT, Int.reduceLE, i_0 bA, i_1 bA, f_0_0 bA, f_0_3 bA, f_0_4 bA, f_1_1 bA, f_1_2 bA, f_1_4 bA, jV, setV_is, i_0 h, i_1 h] at q81
  simp only [am_bi_s, am_bl_s, am_ba_s, am_bv_s, Int.toNat_zero, Int.reduceToNat, Int.toNat_natCast, if_true, if_false, not_true, not_false_eq_true, Int.reduceEq, Int.reduceLT, Int.reduceLE, i_0 h, i_1 h, f_0_0 h, f_0_3 h, f_0_4 h, f_1_1 h, f_1_2 h, f_1_4 h, c_hasPair h W1, c_change, b01_pos hp, b01_pos hd, eV, eU, iS, jS, iV, jV, V_at, c_parcel iV, c_parcel jV, c_isWith iV jV, pX6_hurl_80] at q0
  rw [q0]
  simp only [q81]
  constructor
  · intro q
    by_cases g1 : am_get ω (5 + j) 0 = 2 ∨ am_get ω (5 + j) 0 = 3
    · rw [b01_pos g1, if_neg (by omega)]
      by_cases g2 : am_get ω (5 + i) 0 = 2 ∨ am_get ω (5 + i) 0 = 3
      · rw [b01_pos g2, if_pos (by omega), if_pos trivial]
      · rw [b01_neg g2, if_neg (by omega)]
        by_cases g3 : fW (am_get ω (5 + i)) (am_get ω (5 + j))
        · rw [b01_pos g3, if_neg (by omega), if_neg (by omega)]
          by_cases g4 : am_get ω (5 + i) 3 < 1
          · rw [if_pos g4]
          · rw [if_neg g4, b01_neg (fun z => q ⟨g1, g2, g3, by omega, z⟩), if_neg (by omega)]
        · rw [b01_neg g3, if_pos rfl, if_pos trivial]
    · rw [b01_neg g1, if_pos rfl, if_pos trivial]
  · intro q
    obtain ⟨g1, g2, g3, g4, g5⟩ := q
    have s1 := c_sendV bA W1 (by rw [kA.1]; exact hn.2) (by rw [kA.2.2.1]; exact hT) (v := 1 + 4 + (j : Int)) (d := d) jV (by rw [kA.1, kA.2.2.1, V_at, setV_o (by omega)]; exact P) (by rw [kA.1, V_at, setV_o (by omega)]; exact g5)
    rw [V_at, setV_o (by omega), kA.2.2.1] at s1
    rw [b01_pos g1, if_neg (by omega), b01_neg g2, if_neg (by omega), b01_pos g3, if_neg (by omega), if_neg (by omega), if_neg (by omega), b01_pos g5, if_pos (by omega), bv_v s1]
    rw [if_pos (show am_is (setV (setV ω (5 + i) _) (5 + j) _) (1 + 4 + (j : Int)) (4, 5) = true from jV), setV_get]
    rfl
theorem k_hurl (h : Inv ω) (s o d : Int) : Pair 122 225 [some (.inr (.inr 0)), some (.inl s), some (.inl o), some (.inl d), none, none, none] [some (.inr (.inr 53)), some (.inl s), some (.inl o), some (.inl d), none, none] ω := by
  have h0 := h.1
  obtain ⟨e1, e2, e3, e4⟩ := inv_k h
  have b := fun k => rfz_bs (k := k) h0
  by_cases hp : (0 ≤ s ∧ s < ck ω 1) ∧ (0 ≤ o ∧ o < ck ω 1) ∧ s ≠ o
  · by_cases hd : 1 ≤ d ∧ d ≤ 2
    · obtain ⟨i, rfl⟩ : ∃ i : Nat, s = i := ⟨s.toNat, by omega⟩
      obtain ⟨j, rfl⟩ : ∃ j : Nat, o = j := ⟨o.toNat, by omega⟩
      have hi : i < 6 := by omega
      have hj : j < 6 := by omega
      have hij : i ≠ j := by omega
      have O := inv_O h hp.1.2
      have P := inv_O h hp.2.1.2
      have o3 := O.2.2.2.1
      have mO := inv_mO h hp.1.2
      have mP := inv_mO h hp.2.1.2
      have iV := is_V h0 W1 hi
      have jV := is_V h0 W1 hj
      obtain ⟨c1, c2⟩ := c_hurl_run h0 e4 (inv_Tok h) e3 hp.1.2 hp.2.1.2 hij hd O P
      have eH : hurF (cn ω 1) (am_get ω (5 + i)) (am_get ω (5 + j)) d ↔ hurF (mn ω) (mV ω i) (mV ω j) d := by
        unfold hurF
        rw [fW_c (inv_E5 h hi) (inv_E5 h hj), inv_E5 h hi 0 (by omega), inv_E5 h hi 3 (by omega), inv_E5 h hj 0 (by omega), inv_E5 h hj 1 (by omega), e2]
      by_cases q : hurF (cn ω 1) (am_get ω (5 + i)) (am_get ω (5 + j)) d
      · have dA := fun u => setV_dc iV (u := u)
        rw [V_at] at dA
        have bA := fun u => h0.dc (dA u)
        have dB := fun u w => setV_dc (ω := setV ω (5 + i) u) (v := 1 + 4 + (j : Int)) jV (u := w)
        rw [V_at] at dB
        have B := (bA (up (am_get ω (5 + i)) 3 (am_get ω (5 + i) 3 - 1))).dc (dB _ (sendF (cT ω 1) (am_get ω (5 + j)) d))
        have M1 := fun u => setV_m (ω := ω) (b := 5 + i) (by omega) (w := u)
        have M2 := fun u w => setV_m (ω := setV ω (5 + i) u) (b := 5 + j) (by omega) (w := w)
        obtain ⟨-, m2⟩ := m_hurl_run B (i := i) (j := j) (d := d) (by rw [(M2 _ _).1, (M1 _).1, e2]; exact e4) (by rw [(M2 _ _).2.2.1, (M1 _).2.2.1]; exact inv_mTok h) (by rw [(M2 _ _).2.1, (M1 _).2.1, e1]; exact e3) (by rw [(M2 _ _).2.1, (M1 _).2.1, e1]; exact hp.1.2) (by rw [(M2 _ _).2.1, (M1 _).2.1, e1]; exact hp.2.1.2) hij hd (by rw [(M2 _ _).1, (M1 _).1, (M2 _ _).2.2.1, (M1 _).2.2.1, (M2 _ _).2.2.2.2, (M1 _).2.2.2.2]; exact mO) (by rw [(M2 _ _).1, (M1 _).1, (M2 _ _).2.2.1, (M1 _).2.2.1, (M2 _ _).2.2.2.2, (M1 _).2.2.2.2]; exact mP)
        rw [(M2 _ _).1, (M1 _).1, (M2 _ _).2.2.1, (M1 _).2.2.1, (M2 _ _).2.2.2.2, (M1 _).2.2.2.2] at m2
        have p2 := m2 (eH.mp q)
        have o1 := P.2.1
        have ez : mT ω (mV ω j 1).toNat / 2 = cT ω 1 (am_get ω (5 + j) 1).toNat / 2 := by
          rw [← inv_E5 h hj 1 (by omega), inv_E6 h _ (by omega)]
        rw [ez] at p2
        refine ⟨_, _, _, c2 q, B, rfl, p2, rfl, ?_⟩
        refine inv_two h hi hj ((inv_E5 h hi).up (by rw [inv_E5 h hi 3 (by omega)])) (send_c e4.2 P q.2.2.2.2 (inv_E5 h hj) (inv_E6 h)) ?_ (send_O e4.2 (inv_Tok h) P q.2.2.2.2)
        have := q.2.2.2.1
        exact ⟨O.1, O.2.1, O.2.2.1, by show 0 ≤ am_get ω (5 + i) 3 - 1 ∧ am_get ω (5 + i) 3 - 1 ≤ 99; omega, O.2.2.2.2⟩
      · refine pair_ref h 3 (by omega) (c1 q) ?_
        refine (m_hurl_run (b 3) (by rw [mn_rfz, e2]; exact e4) (by rw [mT_rfz]; exact inv_mTok h) (by rw [mk_rfz, e1]; exact e3) (by rw [mk_rfz, e1]; exact hp.1.2) (by rw [mk_rfz, e1]; exact hp.2.1.2) hij hd (by rw [mn_rfz, mT_rfz, mV_rfz]; exact mO) (by rw [mn_rfz, mT_rfz, mV_rfz]; exact mP)).1 ?_
        rw [mn_rfz, mV_rfz]
        exact fun z => q (eH.mpr z)
    · have p1 := pX6_hurl_0 0 s o d ω (i_0 h0) (by simp only [Int.toNat_zero, f_0_0 h0]; exact i_1 h0)
      simp only [am_bi_s, am_bl_s, am_ba_s, am_bv_s, Int.toNat_zero, Int.reduceToNat, Int.toNat_natCast, if_true, if_false, not_true, not_false_eq_true, Int.reduceEq, Int.reduceLT, Int.reduceLE, i_0 h0, i_1 h0, f_0_0 h0, f_0_3 h0, f_0_4 h0, f_1_1 h0, f_1_2 h0, f_1_4 h0, c_hasPair h0 W1, c_change, c_r2 h0, b01_pos hp, b01_neg hd] at p1
      refine pair_ref h 0 (by omega) p1 ?_
      rw [pX7_hurl_0 _ _ _ _ _ (i_53 (b 0))]
      simp only [m_areTwo (b 0) (by rw [mk_rfz, e1]; exact e3), mk_rfz, e1, b01_pos hp, am_bi_s, am_bl_s, am_ba_s, am_bv_s, Int.toNat_zero, Int.reduceToNat, Int.toNat_natCast, if_true, if_false, not_true, not_false_eq_true, Int.reduceEq, Int.reduceLT, Int.reduceLE, m_in1, b01_neg hd, i_53 (b 0), m_r2 (b 0)]
  · have p1 := pX6_hurl_0 0 s o d ω (i_0 h0) (by simp only [Int.toNat_zero, f_0_0 h0]; exact i_1 h0)
    simp only [am_bi_s, am_bl_s, am_ba_s, am_bv_s, Int.toNat_zero, Int.reduceToNat, Int.toNat_natCast, if_true, if_false, not_true, not_false_eq_true, Int.reduceEq, Int.reduceLT, Int.reduceLE, i_0 h0, i_1 h0, f_0_0 h0, f_0_3 h0, f_0_4 h0, f_1_1 h0, f_1_2 h0, f_1_4 h0, c_hasPair h0 W1, c_r2 h0, b01_neg hp] at p1
    refine pair_ref h 0 (by omega) p1 ?_
    rw [pX7_hurl_0 _ _ _ _ _ (i_53 (b 0))]
    simp only [m_areTwo (b 0) (by rw [mk_rfz, e1]; exact e3), mk_rfz, e1, b01_neg hp, am_bi_s, am_bl_s, am_ba_s, am_bv_s, Int.toNat_zero, Int.reduceToNat, Int.toNat_natCast, if_true, if_false, not_true, not_false_eq_true, Int.reduceEq, Int.reduceLT, Int.reduceLE, i_53 (b 0), m_r2 (b 0)]
end K21
