/-! ===== hand, hurl ===== -/
section K20
variable {ω ω' : am_W} {W : Int}
theorem fW_c {u u' w w' : Nat → Int} (hu : E5 u u') (hw : E5 w w') : fW u w ↔ fW u' w' := by
  unfold fW
  rw [← hu 4 (by omega), ← hu 1 (by omega), ← hu 2 (by omega), ← hw 4 (by omega), ← hw 1 (by omega), ← hw 2 (by omega)]
def hndF (u w : Nat → Int) (n : Int) : Prop := u 0 = 5 ∧ fW u w ∧ n ≤ u 3 ∧ w 3 + n ≤ 99
theorem m_hand_n (h : Bs ω) (hk : 0 ≤ mk ω ∧ mk ω ≤ 6) {i j : Nat} (hi : (i : Int) < mk ω) (hj : (j : Int) < mk ω) (hij : i ≠ j) {n : Int} (hn : 1 ≤ n ∧ n ≤ 99) (o3 : 0 ≤ mV ω j 3 ∧ mV ω j 3 ≤ 99) (q : ¬ hndF (mV ω i) (mV ω j) n) : am_run (224, 0) 0 ([some (.inr (.inr 53)), some (.inl ((i : Int))), some (.inl ((j : Int))), some (.inl n)], [], ω) = some (some (.inl (-5)), noz ω 3) := by
  have e0 : am_get ω 59 i = mV ω i 0 := rfl
  have e3 : am_get ω 62 i = mV ω i 3 := rfl
  have f3 : am_get ω 62 j = mV ω j 3 := rfl
  have hp : ((0 : Int) ≤ (i : Int) ∧ (i : Int) < mk ω) ∧ (0 ≤ (j : Int) ∧ (j : Int) < mk ω) ∧ (i : Int) ≠ (j : Int) := by omega
  rw [pX7_hand_0 _ _ _ _ _ (i_53 h)]
  simp only [m_areTwo h hk, b01_pos hp, m_in1, b01_pos hn, am_bi_s, am_bl_s, am_ba_s, am_bv_s, Int.toNat_zero, Int.reduceToNat, Int.toNat_natCast, if_true, if_false, not_true, not_false_eq_true, Int.reduceEq, Int.reduceLT, Int.reduceLE, i_53 h, f_53_0 h, f_53_1 h, f_53_2 h, f_53_4 h, f_53_5 h, f_53_7 h, f_53_8 h, f_53_9 h, f_53_10 h, f_53_11 h, n_59 h (i := (i : Int)) (by omega) (by omega), n_60 h (i := (i : Int)) (by omega) (by omega), n_61 h (i := (i : Int)) (by omega) (by omega), n_62 h (i := (i : Int)) (by omega) (by omega), n_63 h (i := (i : Int)) (by omega) (by omega), n_59 h (i := (j : Int)) (by omega) (by omega), n_60 h (i := (j : Int)) (by omega) (by omega), n_61 h (i := (j : Int)) (by omega) (by omega), n_62 h (i := (j : Int)) (by omega) (by omega), n_63 h (i := (j : Int)) (by omega) (by omega), m_meet h (i := i) (j := j) (by omega) (by omega), m_r5 h, e0, e3, f3, am_w_s (z := mV ω j 3 + n) (by omega) (by omega)]
  unfold hndF at q
  by_cases g0 : mV ω i 0 = 5
  · rw [if_neg (fun z => z g0)]
    by_cases g1 : fW (mV ω i) (mV ω j)
    · rw [b01_pos g1, if_neg (by omega)]
      by_cases g2 : mV ω i 3 < n
      · rw [if_pos g2]
      · rw [if_neg g2, if_neg (fun z => q ⟨g0, g1, by omega, z⟩)]
    · rw [b01_neg g1, if_pos rfl]
  · rw [if_pos g0]
theorem m_hand_y (h : Bs ω) (hk : 0 ≤ mk ω ∧ mk ω ≤ 6) {i j : Nat} (hi : (i : Int) < mk ω) (hj : (j : Int) < mk ω) (hij : i ≠ j) {n : Int} (hn : 1 ≤ n ∧ n ≤ 99) (o3 : 0 ≤ mV ω j 3 ∧ mV ω j 3 ≤ 99) (p3 : 0 ≤ mV ω i 3 ∧ mV ω i 3 ≤ 99) (q : hndF (mV ω i) (mV ω j) n) : am_run (224, 0) 0 ([some (.inr (.inr 53)), some (.inl ((i : Int))), some (.inl ((j : Int))), some (.inl n)], [], ω) = some (some (.inl (mV ω j 3 + n)), setM (setM ω i (up (mV ω i) 3 (mV ω i 3 - n))) j (up (mV ω j) 3 (mV ω j 3 + n))) := by
  have e0 : am_get ω 59 i = mV ω i 0 := rfl
  have e3 : am_get ω 62 i = mV ω i 3 := rfl
  have f3 : am_get ω 62 j = mV ω j 3 := rfl
  have hp : ((0 : Int) ≤ (i : Int) ∧ (i : Int) < mk ω) ∧ (0 ≤ (j : Int) ∧ (j : Int) < mk ω) ∧ (i : Int) ≠ (j : Int) := by omega
  obtain ⟨g0, g1, g2, g3⟩ := q
  have d1 : ∀ z, Dc ω (am_put ω 62 i z) := fun z => Dc.put (am_rp_at (bs_sh h (a := 62) rfl))
  have b1 := fun z => h.dc (d1 z)
  have k1 : ∀ z, am_get (am_put ω 62 i z) 62 j = mV ω j 3 := fun z => gp_place (by omega)
  have d2 : ∀ z y, Dc (am_put ω 62 i z) (am_put (am_put ω 62 i z) 62 j y) := fun z y => Dc.put (am_rp_at (bs_sh (b1 z) (a := 62) rfl))
  have b2 := fun z y => (b1 z).dc (d2 z y)
  rw [pX7_hand_0 _ _ _ _ _ (i_53 h)]
  simp only [m_areTwo h hk, b01_pos hp, m_in1, b01_pos hn, am_bi_s, am_bl_s, am_ba_s, am_bv_s, Int.toNat_zero, Int.reduceToNat, Int.toNat_natCast, if_true, if_false, not_true, not_false_eq_true, Int.reduceEq, Int.reduceLT, Int.reduceLE, i_53 h, f_53_0 h, f_53_1 h, f_53_2 h, f_53_4 h, f_53_5 h, f_53_7 h, f_53_8 h, f_53_9 h, f_53_10 h, f_53_11 h, n_59 h (i := (i : Int)) (by omega) (by omega), n_60 h (i := (i : Int)) (by omega) (by omega), n_61 h (i := (i : Int)) (by omega) (by omega), n_62 h (i := (i : Int)) (by omega) (by omega), n_63 h (i := (i : Int)) (by omega) (by omega), n_59 h (i := (j : Int)) (by omega) (by omega), n_60 h (i := (j : Int)) (by omega) (by omega), n_61 h (i := (j : Int)) (by omega) (by omega), n_62 h (i := (j : Int)) (by omega) (by omega), n_63 h (i := (j : Int)) (by omega) (by omega), m_meet h (i := i) (j := j) (by omega) (by omega), e0, e3, f3, am_w_s (z := mV ω j 3 + n) (by omega) (by omega), g0, b01_pos g1, if_neg (show ¬ mV ω i 3 < n by omega), if_pos g3, f_53_10 (b1 _), f_53_10 (b2 _ _), n_62 (b1 _) (i := (j : Int)) (by omega) (by omega), n_62 (b2 _ _) (i := (j : Int)) (by omega) (by omega), k1, gp_same, am_w_s (z := mV ω i 3 - n) (by omega) (by omega)]
  rw [show am_put ω 62 i (mV ω i 3 - n) = setM ω i (up (mV ω i) 3 (mV ω i 3 - n)) from put_setM (f := 3) (by omega), show am_put (setM ω i (up (mV ω i) 3 (mV ω i 3 - n))) 62 j (mV ω j 3 + n) = setM (setM ω i (up (mV ω i) 3 (mV ω i 3 - n))) j (up (mV (setM ω i (up (mV ω i) 3 (mV ω i 3 - n))) j) 3 (mV ω j 3 + n)) from put_setM (f := 3) (by omega)]
  rw [show mV (setM ω i (up (mV ω i) 3 (mV ω i 3 - n))) j = mV ω j from funext fun f => setM_Vo (fun z => hij z.symm)]
/-- two ships have changed alike -/
theorem inv_two (h : Inv ω) {i j : Nat} (hi : i < 6) (hj : j < 6) {u u' w w' : Nat → Int} (hu : E5 u u') (hw : E5 w w') (hO : O_ship (cn ω 1) (cT ω 1) u) (hP : O_ship (cn ω 1) (cT ω 1) w) : Inv (setM (setM (setV (setV ω (5 + i) u) (5 + j) w) i u') j w') := by
  have h1 := inv_one h hi hu hO
  obtain ⟨a1, a2, a3⟩ := one_c (ω := ω) hi (u := u) (u' := u')
  have h2 := inv_one h1 hj hw (by rw [a1, a3]; exact hP)
  rw [setVM (i := i) (b := 5 + j) (by omega)]
  exact h2
theorem k_hand (h : Inv ω) (s o n : Int) : Pair 121 224 [some (.inr (.inr 0)), some (.inl s), some (.inl o), some (.inl n), none, none, none] [some (.inr (.inr 53)), some (.inl s), some (.inl o), some (.inl n)] ω := by
  have h0 := h.1
  obtain ⟨e1, e2, e3, e4⟩ := inv_k h
  have b := fun k => rfz_bs (k := k) h0
  have p1 := pX6_hand_0 0 s o n ω (i_0 h0) (by simp only [Int.toNat_zero, f_0_0 h0]; exact i_1 h0)
  simp only [am_bi_s, am_bl_s, am_ba_s, am_bv_s, Int.toNat_zero, Int.reduceToNat, Int.toNat_natCast, if_true, if_false, not_true, not_false_eq_true, Int.reduceEq, Int.reduceLT, Int.reduceLE, i_0 h0, i_1 h0, f_0_0 h0, f_0_3 h0, f_0_4 h0, f_1_1 h0, f_1_2 h0, f_1_4 h0, c_hasPair h0 W1, c_r2 h0] at p1
  by_cases hp : (0 ≤ s ∧ s < ck ω 1) ∧ (0 ≤ o ∧ o < ck ω 1) ∧ s ≠ o
  · by_cases hn : 1 ≤ n ∧ n ≤ 99
    · obtain ⟨i, rfl⟩ : ∃ i : Nat, s = i := ⟨s.toNat, by omega⟩
      obtain ⟨j, rfl⟩ : ∃ j : Nat, o = j := ⟨o.toNat, by omega⟩
      have hi : i < 6 := by omega
      have hj : j < 6 := by omega
      have hij : i ≠ j := by omega
      have eV : am_get ω 4 i = 1 + 4 + (i : Int) := w_V h0 W1 hi
      have iS : am_ina ω 4 (i : Int) = true := ina_S h0 W1 (by omega) (by omega)
      have iV := is_V h0 W1 hi
      have eU : am_get ω 4 j = 1 + 4 + (j : Int) := w_V h0 W1 hj
      have jS : am_ina ω 4 (j : Int) = true := ina_S h0 W1 (by omega) (by omega)
      have jV := is_V h0 W1 hj
      have O := inv_O h hp.1.2
      have P := inv_O h hp.2.1.2
      have o3 := O.2.2.2.1
      have p3 := P.2.2.2.1
      have mo := (inv_mO h hp.1.2).2.2.2.1
      have mp := (inv_mO h hp.2.1.2).2.2.2.1
      have r76 := fun s0 => pX6_hand_76 0 i j n (1 + 4 + (i : Int)) (1 + 4 + (j : Int)) s0 none ω (i_0 h0) iV jV
      simp only [am_bi_s, am_bl_s, am_ba_s, am_bv_s, Int.toNat_zero, Int.reduceToNat, Int.toNat_natCast, if_true, if_false, not_true, not_false_eq_true, Int.reduceEq, Int.reduceLT, Int.reduceLE, V_at, c_r5 h0] at r76
      simp only [b01_pos hp, am_bi_s, am_bl_s, am_ba_s, am_bv_s, Int.toNat_zero, Int.reduceToNat, Int.toNat_natCast, if_true, if_false, not_true, not_false_eq_true, Int.reduceEq, Int.reduceLT, Int.reduceLE, if_neg (show ¬ n < 1 by omega), if_pos hn.2, eV, eU, iS, jS, iV, jV, V_at, c_isWith iV jV, pX6_hand_75, r76] at p1
      rw [am_w_s (z := am_get ω (5 + j) 3 + n) (by omega) (by omega)] at p1
      have eH : hndF (am_get ω (5 + i)) (am_get ω (5 + j)) n ↔ hndF (mV ω i) (mV ω j) n := by
        unfold hndF
        rw [fW_c (inv_E5 h hi) (inv_E5 h hj), inv_E5 h hi 0 (by omega), inv_E5 h hi 3 (by omega), inv_E5 h hj 3 (by omega)]
      by_cases q : hndF (am_get ω (5 + i)) (am_get ω (5 + j)) n
      · obtain ⟨q0, q1, q2, q3⟩ := id q
        rw [if_neg (fun z => z q0), b01_pos q1, if_neg (by omega), if_neg (by omega), if_pos q3] at p1
        have k1 : ∀ z, am_get (am_put ω (5 + i) 3 z) (5 + j) 3 = am_get ω (5 + j) 3 := fun z => gp_cell (by omega)
        simp only [k1, gp_same] at p1
        rw [am_w_s (z := am_get ω (5 + j) 3 + n) (by omega) (by omega), am_w_s (z := am_get ω (5 + i) 3 - n) (by omega) (by omega), put_setV, put_setV, setV_o (by omega)] at p1
        have dA := fun u => setV_dc iV (u := u)
        rw [V_at] at dA
        have bA := fun u => h0.dc (dA u)
        have dB := fun u w => setV_dc (ω := setV ω (5 + i) u) (v := 1 + 4 + (j : Int)) jV (u := w)
        rw [V_at] at dB
        have bB := fun u w => (bA u).dc (dB u w)
        have B := bB (up (am_get ω (5 + i)) 3 (am_get ω (5 + i) 3 - n)) (up (am_get ω (5 + j)) 3 (am_get ω (5 + j) 3 + n))
        have M1 := fun u => setV_m (ω := ω) (b := 5 + i) (by omega) (w := u)
        have M2 := fun u w => setV_m (ω := setV ω (5 + i) u) (b := 5 + j) (by omega) (w := w)
        have p2 := m_hand_y B (by rw [(M2 _ _).2.1, (M1 _).2.1, e1]; exact e3) (i := i) (j := j) (by rw [(M2 _ _).2.1, (M1 _).2.1, e1]; exact hp.1.2) (by rw [(M2 _ _).2.1, (M1 _).2.1, e1]; exact hp.2.1.2) hij hn (by rw [(M2 _ _).2.2.2.2, (M1 _).2.2.2.2]; exact mp) (by rw [(M2 _ _).2.2.2.2, (M1 _).2.2.2.2]; exact mo) (by rw [(M2 _ _).2.2.2.2, (M1 _).2.2.2.2]; exact eH.mp q)
        rw [(M2 _ _).2.2.2.2, (M1 _).2.2.2.2] at p2
        rw [← inv_E5 h hj 3 (by omega)] at p2
        refine ⟨_, _, _, p1, B, rfl, p2, rfl, ?_⟩
        refine inv_two h hi hj ((inv_E5 h hi).up (by rw [inv_E5 h hi 3 (by omega)])) ((inv_E5 h hj).up rfl) ?_ ?_
        · exact ⟨O.1, O.2.1, O.2.2.1, by show 0 ≤ am_get ω (5 + i) 3 - n ∧ am_get ω (5 + i) 3 - n ≤ 99; omega, O.2.2.2.2⟩
        · exact ⟨P.1, P.2.1, P.2.2.1, by show 0 ≤ am_get ω (5 + j) 3 + n ∧ am_get ω (5 + j) 3 + n ≤ 99; omega, P.2.2.2.2⟩
      · have p1' : am_run (121, 0) 0 ([some (.inr (.inr 0)), some (.inl ((i : Int))), some (.inl ((j : Int))), some (.inl n), none, none, none], [], ω) = some (some (.inl (-5)), rfz ω 3) := by
          rw [p1]
          by_cases g0 : am_get ω (5 + i) 0 = 5
          · rw [if_neg (fun z => z g0)]
            by_cases g1 : fW (am_get ω (5 + i)) (am_get ω (5 + j))
            · rw [b01_pos g1, if_neg (by omega)]
              by_cases g2 : am_get ω (5 + i) 3 < n
              · rw [if_pos g2]
              · rw [if_neg g2, if_neg (fun z => q ⟨g0, g1, by omega, z⟩)]
            · rw [b01_neg g1, if_pos rfl]
          · rw [if_pos g0]
        refine pair_ref h 3 (by omega) p1' ?_
        exact m_hand_n (b 3) (by rw [mk_rfz, e1]; exact e3) (by rw [mk_rfz, e1]; exact hp.1.2) (by rw [mk_rfz, e1]; exact hp.2.1.2) hij hn (by rw [mV_rfz]; exact mp) (by rw [mV_rfz]; exact fun z => q (eH.mpr z))
    · have p1' : am_run (121, 0) 0 ([some (.inr (.inr 0)), some (.inl s), some (.inl o), some (.inl n), none, none, none], [], ω) = some (some (.inl (-2)), rfz ω 0) := by
        rw [p1, b01_pos hp, if_neg (by omega)]
        by_cases g : n < 1
        · rw [if_pos g]
        · rw [if_neg g, if_neg (by omega)]
      refine pair_ref h 0 (by omega) p1' ?_
      rw [pX7_hand_0 _ _ _ _ _ (i_53 (b 0))]
      simp only [m_areTwo (b 0) (by rw [mk_rfz, e1]; exact e3), mk_rfz, e1, b01_pos hp, am_bi_s, am_bl_s, am_ba_s, am_bv_s, Int.toNat_zero, Int.reduceToNat, Int.toNat_natCast, if_true, if_false, not_true, not_false_eq_true, Int.reduceEq, Int.reduceLT, Int.reduceLE, m_in1, b01_neg hn, i_53 (b 0), m_r2 (b 0)]
  · rw [b01_neg hp] at p1
    simp only [if_true] at p1
    refine pair_ref h 0 (by omega) p1 ?_
    rw [pX7_hand_0 _ _ _ _ _ (i_53 (b 0))]
    simp only [m_areTwo (b 0) (by rw [mk_rfz, e1]; exact e3), mk_rfz, e1, b01_neg hp, am_bi_s, am_bl_s, am_ba_s, am_bv_s, Int.toNat_zero, Int.reduceToNat, Int.toNat_natCast, if_true, if_false, not_true, not_false_eq_true, Int.reduceEq, Int.reduceLT, Int.reduceLE, i_53 (b 0), m_r2 (b 0)]
end K20
