/-! ===== places behind steps: behind, pass ===== -/
section K30
variable {ω : am_W} {W : Int}
def mx0 (x : Int) : Int := if 0 < x then x else 0
theorem mx0_p {x : Int} (h : 0 < x) : mx0 x = x := if_pos h
theorem mx0_n {x : Int} (h : ¬ 0 < x) : mx0 x = 0 := if_neg h
theorem mx0_b {x : Int} {m : Int} (h : x ≤ m) (hm : 0 ≤ m) : 0 ≤ mx0 x ∧ mx0 x ≤ m := by
  by_cases g : 0 < x
  · rw [mx0_p g]; omega
  · rw [mx0_n g]; omega
theorem j_max0 {x : Int} : am_run (236, 0) 0 ([some (.inl 0), some (.inl x)], [], ω) = some (some (.inl (mx0 x)), ω) := by
  rw [pJ9_max_7cf53_0]
  by_cases g : 0 < x
  · rw [if_pos g, mx0_p g]
  · rw [if_neg g, mx0_n g]
def plF (T u : Nat → Int) (t : Int) : Int := (u 2 + mx0 (t - u 4)) % T (u 1).toNat
def paF (T u : Nat → Int) (t : Int) : Int := if t < u 4 then -1 else plF T u t
def spF (T u : Nat → Int) (t : Int) : Int := if t < u 4 then -1 else u 1 * 20 + plF T u t
section PURE
variable {n : Int} {T T' u u' : Nat → Int} {t : Int}
theorem pl_ok (hn : n ≤ 6) (hT : Tok T) (O : O_ship n T u) : 0 ≤ plF T u t ∧ plF T u t < T (u 1).toNat := by
  have o1 := O.2.1
  have := hT (u 1).toNat (by omega)
  exact ⟨Int.emod_nonneg _ (by omega), Int.emod_lt_of_pos _ (by omega)⟩
theorem pl_c (hn : n ≤ 6) (O : O_ship n T u) (hu : E5 u u') (hT : E6 T T') : plF T u t = plF T' u' t := by
  have o1 := O.2.1
  unfold plF
  rw [← hu 1 (by omega), ← hu 2 (by omega), ← hu 4 (by omega), hT _ (by omega)]
theorem pa_c (hn : n ≤ 6) (O : O_ship n T u) (hu : E5 u u') (hT : E6 T T') : paF T u t = paF T' u' t := by
  unfold paF
  rw [pl_c hn O hu hT, hu 4 (by omega)]
theorem sp_c (hn : n ≤ 6) (O : O_ship n T u) (hu : E5 u u') (hT : E6 T T') : spF T u t = spF T' u' t := by
  unfold spF
  rw [pl_c hn O hu hT, hu 4 (by omega), hu 1 (by omega)]
end PURE
theorem c_placeBehind (h : Bs ω) (hw : isW W) (h6 : cn ω W ≤ 6) (hT : Tok (cT ω W)) {v : Int} (hv : am_is ω v (4, 5) = true) (O : O_ship (cn ω W) (cT ω W) (am_get ω v.toNat)) {t : Int} (ht : 0 ≤ t ∧ t ≤ 1000) : am_run (75, 0) 0 ([some (.inr (.inr W)), some (.inr (.inr v)), some (.inl t)], [], ω) = some (some (.inl (plF (cT ω W) (am_get ω v.toNat) t)), ω) := by
  obtain ⟨o0, o1, o2, o3, o4⟩ := O
  have tt := hT (am_get ω v.toNat 1).toNat (by omega)
  have mb := mx0_b (x := t - am_get ω v.toNat 4) (m := 1000) (by omega) (by omega)
  rw [pX5_placeBehind_0 _ _ _ _ hv, am_w_s (by omega) (by omega), bi_v j_max0, if_pos hv, if_pos (w_is h hw), bi_v (c_timeOf h hw o1.1 o1.2 h6), am_w_s (by omega) (by omega), bi_v (c_modulo (by omega) tt.1)]
  rfl
theorem c_busyBehind {v : Int} (hv : am_is ω v (4, 5) = true) (o4 : 0 ≤ am_get ω v.toNat 4 ∧ am_get ω v.toNat 4 ≤ 10) {t : Int} (ht : 0 ≤ t ∧ t ≤ 1000) : am_run (51, 0) 0 ([some (.inr (.inr v)), some (.inl t)], [], ω) = some (some (.inl (mx0 (am_get ω v.toNat 4 - t))), ω) := by
  rw [pX4_busyBehind_0 _ _ _ hv, am_w_s (by omega) (by omega), bi_v j_max0]
theorem c_spotBehind (h : Bs ω) (hw : isW W) (h6 : cn ω W ≤ 6) (hT : Tok (cT ω W)) {v : Int} (hv : am_is ω v (4, 5) = true) (O : O_ship (cn ω W) (cT ω W) (am_get ω v.toNat)) {t : Int} (ht : 0 ≤ t ∧ t ≤ 1000) : am_run (81, 0) 0 ([some (.inr (.inr W)), some (.inr (.inr v)), some (.inl t)], [], ω) = some (some (.inl (spF (cT ω W) (am_get ω v.toNat) t)), ω) := by
  have pl := pl_ok (t := t) h6 hT O
  have tt := hT (am_get ω v.toNat 1).toNat (by have := O.2.1; omega)
  have o1 := O.2.1
  rw [pX5_spotBehind_0 _ _ _ _ hv, bi_v (c_busyBehind hv O.2.2.2.2 ht)]
  unfold spF
  by_cases g : t < am_get ω v.toNat 4
  · rw [if_pos g, mx0_p (by omega), if_neg (by omega)]
  · rw [if_neg g, mx0_n (by omega), if_pos (by omega), if_pos hv, if_pos (w_is h hw), bi_v (c_placeBehind h hw h6 hT hv O ht), am_w_s (z := am_get ω v.toNat 1 * 20) (by omega) (by omega), am_w_s (by omega) (by omega)]
theorem m_placeAt (h : Bs ω) (h6 : mn ω ≤ 6) (hT : Tok (mT ω)) {i : Nat} (hi : i < 6) (O : O_ship (mn ω) (mT ω) (mV ω i)) {t : Int} (ht : 0 ≤ t ∧ t ≤ 1000) : am_run (204, 0) 0 ([some (.inr (.inr 53)), some (.inl ((i : Int))), some (.inl t)], [], ω) = some (some (.inl (paF (mT ω) (mV ω i) t)), ω) := by
  obtain ⟨o0, o1, o2, o3, o4⟩ := O
  have tt := hT (mV ω i 1).toNat (by omega)
  have e1 : am_get ω 60 i = mV ω i 1 := rfl
  have e2 : am_get ω 61 i = mV ω i 2 := rfl
  have e4 : am_get ω 63 i = mV ω i 4 := rfl
  have eT : am_get ω 57 (mV ω i 1).toNat = mT ω (mV ω i 1).toNat := rfl
  rw [pX7_placeAt_0 _ _ _ _ (i_53 h)]
  simp only [am_bi_s, am_bl_s, am_ba_s, am_bv_s, Int.toNat_zero, Int.reduceToNat, Int.toNat_natCast, if_true, if_false, not_true, not_false_eq_true, Int.reduceEq, Int.reduceLT, Int.reduceLE, i_53 h, f_53_0 h, f_53_1 h, f_53_2 h, f_53_4 h, f_53_5 h, f_53_7 h, f_53_8 h, f_53_9 h, f_53_10 h, f_53_11 h, n_59 h (i := (i : Int)) (by omega) (by omega), n_60 h (i := (i : Int)) (by omega) (by omega), n_61 h (i := (i : Int)) (by omega) (by omega), n_62 h (i := (i : Int)) (by omega) (by omega), n_63 h (i := (i : Int)) (by omega) (by omega), e1, e2, e4, eT, n_57 h o1.1 (show mV ω i 1 < 6 by omega), if_neg (show ¬ mT ω (mV ω i 1).toNat = 0 by omega), am_w_s (z := mV ω i 2 + t) (by omega) (by omega), am_w_s (z := mV ω i 2 + t - mV ω i 4) (by omega) (by omega)]
  unfold paF
  by_cases g : t < mV ω i 4
  · rw [if_pos g, if_neg (by omega)]
  · rw [if_neg g, if_pos (by omega), Int.tmod_eq_emod_of_nonneg (by omega)]
    unfold plF
    by_cases g2 : 0 < t - mV ω i 4
    · rw [mx0_p g2, show mV ω i 2 + t - mV ω i 4 = mV ω i 2 + (t - mV ω i 4) by omega]
    · rw [mx0_n g2, show mV ω i 2 + t - mV ω i 4 = mV ω i 2 + 0 by omega]
theorem k_behind (h : Inv ω) (s t w : Int) : Pair 102 193 [some (.inr (.inr 0)), some (.inl s), some (.inl t), some (.inl w), none] [some (.inr (.inr 53)), some (.inl s), some (.inl t), some (.inl w), none, none] ω := by
  have h0 := h.1
  obtain ⟨e1, e2, e3, e4⟩ := inv_k h
  have b := fun k => rfz_bs (k := k) h0
  have p1 := pX6_behind_0 0 s t w ω (i_0 h0) (by simp only [Int.toNat_zero, f_0_0 h0]; exact i_1 h0)
  simp only [am_bi_s, am_bl_s, am_ba_s, am_bv_s, Int.toNat_zero, Int.reduceToNat, Int.toNat_natCast, if_true, if_false, not_true, not_false_eq_true, Int.reduceEq, Int.reduceLT, Int.reduceLE, i_0 h0, i_1 h0, f_0_0 h0, f_0_3 h0, f_0_4 h0, f_1_1 h0, f_1_2 h0, f_1_4 h0, c_hasShip h0 W1, c_r2 h0] at p1
  by_cases hs : 0 ≤ s ∧ s < ck ω 1
  · by_cases ht : 0 ≤ t ∧ t ≤ 400
    · obtain ⟨i, rfl⟩ : ∃ i : Nat, s = i := ⟨s.toNat, by omega⟩
      have hi : i < 6 := by omega
      have eV : am_get ω 4 i = 1 + 4 + (i : Int) := w_V h0 W1 hi
      have iS : am_ina ω 4 (i : Int) = true := ina_S h0 W1 (by omega) (by omega)
      have iV := is_V h0 W1 hi
      have O := inv_O h hs.2
      have a1 := c_placeBehind h0 W1 e4.2 (inv_Tok h) iV (by rw [V_at]; exact O) (t := t) (by omega)
      have a2 := c_busyBehind iV (by rw [V_at]; exact O.2.2.2.2) (t := t) (by omega)
      rw [V_at] at a1 a2
      simp only [b01_pos hs, am_bi_s, am_bl_s, am_ba_s, am_bv_s, Int.toNat_zero, Int.reduceToNat, Int.toNat_natCast, if_true, if_false, not_true, not_false_eq_true, Int.reduceEq, Int.reduceLT, Int.reduceLE, if_neg (show ¬ t < 0 by omega), if_pos ht.2, eV, iS, iV, V_at, a1, a2] at p1
      by_cases hw : 0 ≤ w ∧ w ≤ 2
      · have mO := inv_mO h hs.2
        obtain ⟨o0, o1, o2, o3, o4⟩ := mO
        have tt := inv_mTok h (mV ω i 1).toNat (by omega)
        have g1 : am_get ω 60 i = mV ω i 1 := rfl
        have g2 : am_get ω 61 i = mV ω i 2 := rfl
        have g4 : am_get ω 63 i = mV ω i 4 := rfl
        have gT : am_get ω 57 (mV ω i 1).toNat = mT ω (mV ω i 1).toNat := rfl
        have mb := mx0_b (x := t - mV ω i 4) (m := 1000) (by omega) (by omega)
        have p2 := pX7_behind_0 53 i t w ω (i_53 h0)
        simp only [m_isShip h0 (by rw [e1]; exact e3), e1, b01_pos hs, m_in1, b01_pos ht, b01_pos hw, am_bi_s, am_bl_s, am_ba_s, am_bv_s, Int.toNat_zero, Int.reduceToNat, Int.toNat_natCast, if_true, if_false, not_true, not_false_eq_true, Int.reduceEq, Int.reduceLT, Int.reduceLE, i_53 h0, f_53_0 h0, f_53_1 h0, f_53_2 h0, f_53_4 h0, f_53_5 h0, f_53_7 h0, f_53_8 h0, f_53_9 h0, f_53_10 h0, f_53_11 h0, n_59 h0 (i := (i : Int)) (by omega) (by omega), n_60 h0 (i := (i : Int)) (by omega) (by omega), n_61 h0 (i := (i : Int)) (by omega) (by omega), n_62 h0 (i := (i : Int)) (by omega) (by omega), n_63 h0 (i := (i : Int)) (by omega) (by omega), g1, g2, g4, gT, am_w_s (z := mV ω i 4 - t) (by omega) (by omega), am_w_s (z := t - mV ω i 4) (by omega) (by omega), j_max0, n_57 h0 o1.1 (show mV ω i 1 < 6 by omega), if_neg (show ¬ mT ω (mV ω i 1).toNat = 0 by omega), am_w_s (z := mV ω i 2 + mx0 (t - mV ω i 4)) (by omega) (by omega), Int.tmod_eq_emod_of_nonneg (show 0 ≤ mV ω i 2 + mx0 (t - mV ω i 4) by omega)] at p2
        have r1 : (mV ω i 2 + mx0 (t - mV ω i 4)) % mT ω (mV ω i 1).toNat = plF (cT ω 1) (am_get ω (5 + i)) t := (pl_c e4.2 O (inv_E5 h hi) (inv_E6 h)).symm
        rw [r1, ← inv_E5 h hi 1 (by omega), ← inv_E5 h hi 4 (by omega)] at p2
        have : w = 0 ∨ w = 1 ∨ w = 2 := by omega
        rcases this with rfl | rfl | rfl
        · simp only [am_bi_s, am_bl_s, am_ba_s, am_bv_s, Int.toNat_zero, Int.reduceToNat, Int.toNat_natCast, if_true, if_false, not_true, not_false_eq_true, Int.reduceEq, Int.reduceLT, Int.reduceLE] at p1 p2
          exact pair_same h p1 p2
        · simp only [am_bi_s, am_bl_s, am_ba_s, am_bv_s, Int.toNat_zero, Int.reduceToNat, Int.toNat_natCast, if_true, if_false, not_true, not_false_eq_true, Int.reduceEq, Int.reduceLT, Int.reduceLE] at p1 p2
          exact pair_same h p1 p2
        · simp only [am_bi_s, am_bl_s, am_ba_s, am_bv_s, Int.toNat_zero, Int.reduceToNat, Int.toNat_natCast, if_true, if_false, not_true, not_false_eq_true, Int.reduceEq, Int.reduceLT, Int.reduceLE] at p1 p2
          exact pair_same h p1 p2
      · rw [if_neg (by omega), if_neg (by omega), if_neg (by omega)] at p1
        refine pair_ref h 0 (by omega) p1 ?_
        rw [pX7_behind_0 _ _ _ _ _ (i_53 (b 0))]
        simp only [m_isShip (b 0) (by rw [mk_rfz, e1]; exact e3), mk_rfz, e1, b01_pos hs, m_in1, b01_pos ht, b01_neg hw, am_bi_s, am_bl_s, am_ba_s, am_bv_s, Int.toNat_zero, Int.reduceToNat, Int.toNat_natCast, if_true, if_false, not_true, not_false_eq_true, Int.reduceEq, Int.reduceLT, Int.reduceLE, i_53 (b 0), m_r2 (b 0)]
    · have p1' : am_run (102, 0) 0 ([some (.inr (.inr 0)), some (.inl s), some (.inl t), some (.inl w), none], [], ω) = some (some (.inl (-2)), rfz ω 0) := by
        rw [p1, b01_pos hs, if_neg (by omega)]
        by_cases g : t < 0
        · rw [if_pos g]
        · rw [if_neg g, if_neg (by omega)]
      refine pair_ref h 0 (by omega) p1' ?_
      rw [pX7_behind_0 _ _ _ _ _ (i_53 (b 0))]
      simp only [m_isShip (b 0) (by rw [mk_rfz, e1]; exact e3), mk_rfz, e1, b01_pos hs, m_in1, b01_neg ht, am_bi_s, am_bl_s, am_ba_s, am_bv_s, Int.toNat_zero, Int.reduceToNat, Int.toNat_natCast, if_true, if_false, not_true, not_false_eq_true, Int.reduceEq, Int.reduceLT, Int.reduceLE, i_53 (b 0), m_r2 (b 0)]
  · rw [b01_neg hs] at p1
    simp only [if_true] at p1
    refine pair_ref h 0 (by omega) p1 ?_
    rw [pX7_behind_0 _ _ _ _ _ (i_53 (b 0))]
    simp only [m_isShip (b 0) (by rw [mk_rfz, e1]; exact e3), mk_rfz, e1, b01_neg hs, am_bi_s, am_bl_s, am_ba_s, am_bv_s, Int.toNat_zero, Int.reduceToNat, Int.toNat_natCast, if_true, if_false, not_true, not_false_eq_true, Int.reduceEq, Int.reduceLT, Int.reduceLE, i_53 (b 0), m_r2 (b 0)]
/-- the first of d numbers from t on of which p holds -/
noncomputable def ff (p : Nat → Prop) : Nat → Nat → Int
  | _, 0 => -1
  | t, d + 1 => @ite _ (p t) (Classical.propDecidable _) (t : Int) (ff p (t + 1) d)
theorem ff_y {p : Nat → Prop} {t d : Nat} (h : p t) : ff p t (d + 1) = (t : Int) := @if_pos _ (Classical.propDecidable _) h _ _ _
theorem ff_n {p : Nat → Prop} {t d : Nat} (h : ¬ p t) : ff p t (d + 1) = ff p (t + 1) d := @if_neg _ (Classical.propDecidable _) h _ _ _
theorem ff_c {p q : Nat → Prop} : ∀ (d t : Nat), (∀ x, t ≤ x → x < t + d → (p x ↔ q x)) → ff p t d = ff q t d := by
  intro d
  induction d with
  | zero => intro t _; rfl
  | succ d ih =>
    intro t h
    by_cases g : p t
    · rw [ff_y g, ff_y ((h t (by omega) (by omega)).mp g)]
    · rw [ff_n g, ff_n (fun z => g ((h t (by omega) (by omega)).mpr z)), ih (t + 1) (fun x h1 h2 => h x (by omega) (by omega))]
theorem mul_b2 {a b : Int} (h1 : 0 ≤ a ∧ a ≤ 20) (h2 : 0 ≤ b ∧ b ≤ 20) : 0 ≤ a * b ∧ a * b ≤ 400 := by
  refine ⟨Int.mul_nonneg h1.1 h2.1, ?_⟩
  have := Int.mul_le_mul h1.2 h2.2 h2.1 (by omega : (0 : Int) ≤ 20)
  omega
def passF (T u w : Nat → Int) (t : Nat) : Prop := plF T u (t : Int) * T (w 1).toNat = plF T w (t : Int) * T (u 1).toNat
theorem k_pass (h : Inv ω) (s o : Int) : Pair 113 214 [some (.inr (.inr 0)), some (.inl s), some (.inl o), none, none, none, none, none] [some (.inr (.inr 53)), some (.inl s), some (.inl o), none, none, none, none, none] ω := by
  have h0 := h.1
  obtain ⟨e1, e2, e3, e4⟩ := inv_k h
  have b := fun k => rfz_bs (k := k) h0
  have p1 := pX6_pass_0 0 s o ω (i_0 h0) (by simp only [Int.toNat_zero, f_0_0 h0]; exact i_1 h0)
  simp only [am_bi_s, am_bl_s, am_ba_s, am_bv_s, Int.toNat_zero, Int.reduceToNat, Int.toNat_natCast, if_true, if_false, not_true, not_false_eq_true, Int.reduceEq, Int.reduceLT, Int.reduceLE, i_0 h0, i_1 h0, f_0_0 h0, f_0_3 h0, f_0_4 h0, f_1_1 h0, f_1_2 h0, f_1_4 h0, c_hasPair h0 W1, c_r2 h0] at p1
  by_cases hp : (0 ≤ s ∧ s < ck ω 1) ∧ (0 ≤ o ∧ o < ck ω 1) ∧ s ≠ o
  · obtain ⟨i, rfl⟩ : ∃ i : Nat, s = i := ⟨s.toNat, by omega⟩
    obtain ⟨j, rfl⟩ : ∃ j : Nat, o = j := ⟨o.toNat, by omega⟩
    have hi : i < 6 := by omega
    have hj : j < 6 := by omega
    have eV : am_get ω 4 i = 1 + 4 + (i : Int) := w_V h0 W1 hi
    have iS : am_ina ω 4 (i : Int) = true := ina_S h0 W1 (by omega) (by omega)
    have iV := is_V h0 W1 hi
    have eU : am_get ω 4 j = 1 + 4 + (j : Int) := w_V h0 W1 hj
    have jS : am_ina ω 4 (j : Int) = true := ina_S h0 W1 (by omega) (by omega)
    have jV := is_V h0 W1 hj
    have O := inv_O h hp.1.2
    have P := inv_O h hp.2.1.2
    have o1 := O.2.1
    have r1 := P.2.1
    have tu := inv_Tok h (am_get ω (5 + i) 1).toNat (by omega)
    have tw := inv_Tok h (am_get ω (5 + j) 1).toNat (by omega)
    have a1 := c_timeOf h0 W1 (c := am_get ω (5 + i) 1) o1.1 o1.2 e4.2
    have a2 := c_timeOf h0 W1 (c := am_get ω (5 + j) 1) r1.1 r1.2 e4.2
    simp only [b01_pos hp, am_bi_s, am_bl_s, am_ba_s, am_bv_s, Int.toNat_zero, Int.reduceToNat, Int.toNat_natCast, if_true, if_false, not_true, not_false_eq_true, Int.reduceEq, Int.reduceLT, Int.reduceLE, i_0 h0, i_1 h0, f_0_0 h0, f_0_3 h0, f_0_4 h0, f_1_1 h0, f_1_2 h0, f_1_4 h0, eV, eU, iS, jS, iV, jV, V_at, a1, a2] at p1
    have m4 := mul_b2 (a := cT ω 1 (am_get ω (5 + i) 1).toNat) (b := cT ω 1 (am_get ω (5 + j) 1).toNat) (by omega) (by omega)
    obtain ⟨M, hM⟩ : ∃ M : Nat, cT ω 1 (am_get ω (5 + i) 1).toNat * cT ω 1 (am_get ω (5 + j) 1).toNat = (M : Int) := ⟨_, (Int.toNat_of_nonneg m4.1).symm⟩
    have cl : ∀ d t : Nat, t + d = M → am_run (113, 0) 70 ([some (.inr (.inr 0)), some (.inl ((i : Int))), some (.inl ((j : Int))), some (.inr (.inr (1 + 4 + (i : Int)))), some (.inr (.inr (1 + 4 + (j : Int)))), some (.inl (cT ω 1 (am_get ω (5 + i) 1).toNat)), some (.inl (cT ω 1 (am_get ω (5 + j) 1).toNat)), some (.inl ((t : Int)))], [], ω) = some (some (.inl (ff (passF (cT ω 1) (am_get ω (5 + i)) (am_get ω (5 + j))) t d)), ω) := by
      intro d
      induction d with
      | zero =>
        intro t ht
        rw [pX6_pass_70 _ _ _ _ _ _ _ _ _ (i_0 h0) (by simp only [Int.toNat_zero, f_0_0 h0]; exact i_1 h0), hM, am_w_s (by omega) (by omega), if_pos (by omega)]
        rfl
      | succ d ih =>
        intro t ht
        have z1 := c_placeBehind h0 W1 e4.2 (inv_Tok h) iV (by rw [V_at]; exact O) (t := (t : Int)) (by omega)
        have z2 := c_placeBehind h0 W1 e4.2 (inv_Tok h) jV (by rw [V_at]; exact P) (t := (t : Int)) (by omega)
        rw [V_at] at z1 z2
        have y1 := pl_ok (t := (t : Int)) e4.2 (inv_Tok h) O
        have y2 := pl_ok (t := (t : Int)) e4.2 (inv_Tok h) P
        have w1 := mul_b2 (a := plF (cT ω 1) (am_get ω (5 + i)) (t : Int)) (b := cT ω 1 (am_get ω (5 + j) 1).toNat) (by omega) (by omega)
        have w2 := mul_b2 (a := plF (cT ω 1) (am_get ω (5 + j)) (t : Int)) (b := cT ω 1 (am_get ω (5 + i) 1).toNat) (by omega) (by omega)
        rw [pX6_pass_70 _ _ _ _ _ _ _ _ _ (i_0 h0) (by simp only [Int.toNat_zero, f_0_0 h0]; exact i_1 h0), hM, am_w_s (by omega) (by omega), if_neg (by omega)]
        simp only [am_bi_s, am_bl_s, am_ba_s, am_bv_s, Int.toNat_zero, Int.reduceToNat, Int.toNat_natCast, if_true, if_false, not_true, not_false_eq_true, Int.reduceEq, Int.reduceLT, Int.reduceLE, i_0 h0, i_1 h0, f_0_0 h0, f_0_3 h0, f_0_4 h0, f_1_1 h0, f_1_2 h0, f_1_4 h0, z1, z2, am_w_s (z := plF (cT ω 1) (am_get ω (5 + i)) (t : Int) * cT ω 1 (am_get ω (5 + j) 1).toNat) (by omega) (by omega), am_w_s (z := plF (cT ω 1) (am_get ω (5 + j)) (t : Int) * cT ω 1 (am_get ω (5 + i) 1).toNat) (by omega) (by omega), am_w_s (z := (t : Int) + 1) (by omega) (by omega)]
        by_cases g : passF (cT ω 1) (am_get ω (5 + i)) (am_get ω (5 + j)) t
        · rw [if_neg (fun z => z g), ff_y g]
        · refine (if_pos g).trans ?_
          rw [ff_n g, ← ih (t + 1) (by omega)]
          rfl
    have mO := inv_mO h hp.1.2
    have mP := inv_mO h hp.2.1.2
    have x1 : mV ω i 1 = am_get ω (5 + i) 1 := (inv_E5 h hi 1 (by omega)).symm
    have x2 : mV ω j 1 = am_get ω (5 + j) 1 := (inv_E5 h hj 1 (by omega)).symm
    have g1 : am_get ω 60 i = am_get ω (5 + i) 1 := x1
    have g2 : am_get ω 61 i = mV ω i 2 := rfl
    have g4 : am_get ω 63 i = mV ω i 4 := rfl
    have f1 : am_get ω 60 j = am_get ω (5 + j) 1 := x2
    have f2 : am_get ω 61 j = mV ω j 2 := rfl
    have f4 : am_get ω 63 j = mV ω j 4 := rfl
    have gT : am_get ω 57 (am_get ω (5 + i) 1).toNat = cT ω 1 (am_get ω (5 + i) 1).toNat := inv_T h (by omega)
    have fT : am_get ω 57 (am_get ω (5 + j) 1).toNat = cT ω 1 (am_get ω (5 + j) 1).toNat := inv_T h (by omega)
    have n4 := mO.2.2.2.2
    have n2 := mO.2.2.1
    have k4 := mP.2.2.2.2
    have k2 := mP.2.2.1
    have tmu := inv_mTok h (mV ω i 1).toNat (by omega)
    have tmw := inv_mTok h (mV ω j 1).toNat (by omega)
    have ml : ∀ d t : Nat, t + d = M → ∀ o6 o7 : Option am_V, am_run (214, 0) 44 ([some (.inr (.inr 53)), some (.inl ((i : Int))), some (.inl ((j : Int))), some (.inl (cT ω 1 (am_get ω (5 + i) 1).toNat)), some (.inl (cT ω 1 (am_get ω (5 + j) 1).toNat)), some (.inl ((t : Int))), o6, o7], [], ω) = some (some (.inl (ff (passF (cT ω 1) (am_get ω (5 + i)) (am_get ω (5 + j))) t d)), ω) := by
      intro d
      induction d with
      | zero =>
        intro t ht o6 o7
        rw [pX7_pass_44 _ _ _ _ _ _ _ _ _ (i_53 h0), hM, am_w_s (by omega) (by omega), if_pos (by omega)]
        rfl
      | succ d ih =>
        intro t ht o6 o7
        have q1 : (mV ω i 2 + mx0 ((t : Int) - mV ω i 4)) % cT ω 1 (am_get ω (5 + i) 1).toNat = plF (cT ω 1) (am_get ω (5 + i)) (t : Int) := by
          rw [← inv_E5 h hi 2 (by omega), ← inv_E5 h hi 4 (by omega)]; rfl
        have q2 : (mV ω j 2 + mx0 ((t : Int) - mV ω j 4)) % cT ω 1 (am_get ω (5 + j) 1).toNat = plF (cT ω 1) (am_get ω (5 + j)) (t : Int) := by
          rw [← inv_E5 h hj 2 (by omega), ← inv_E5 h hj 4 (by omega)]; rfl
        have y1 := pl_ok (t := (t : Int)) e4.2 (inv_Tok h) O
        have y2 := pl_ok (t := (t : Int)) e4.2 (inv_Tok h) P
        have w1 := mul_b2 (a := plF (cT ω 1) (am_get ω (5 + i)) (t : Int)) (b := cT ω 1 (am_get ω (5 + j) 1).toNat) (by omega) (by omega)
        have w2 := mul_b2 (a := plF (cT ω 1) (am_get ω (5 + j)) (t : Int)) (b := cT ω 1 (am_get ω (5 + i) 1).toNat) (by omega) (by omega)
        have b1 := mx0_b (x := (t : Int) - mV ω i 4) (m := 1000) (by omega) (by omega)
        have b2 := mx0_b (x := (t : Int) - mV ω j 4) (m := 1000) (by omega) (by omega)
        rw [pX7_pass_44 _ _ _ _ _ _ _ _ _ (i_53 h0), hM, am_w_s (by omega) (by omega), if_neg (by omega)]
        simp only [am_bi_s, am_bl_s, am_ba_s, am_bv_s, Int.toNat_zero, Int.reduceToNat, Int.toNat_natCast, if_true, if_false, not_true, not_false_eq_true, Int.reduceEq, Int.reduceLT, Int.reduceLE, i_53 h0, f_53_0 h0, f_53_1 h0, f_53_2 h0, f_53_4 h0, f_53_5 h0, f_53_7 h0, f_53_8 h0, f_53_9 h0, f_53_10 h0, f_53_11 h0, n_59 h0 (i := (i : Int)) (by omega) (by omega), n_60 h0 (i := (i : Int)) (by omega) (by omega), n_61 h0 (i := (i : Int)) (by omega) (by omega), n_62 h0 (i := (i : Int)) (by omega) (by omega), n_63 h0 (i := (i : Int)) (by omega) (by omega), n_59 h0 (i := (j : Int)) (by omega) (by omega), n_60 h0 (i := (j : Int)) (by omega) (by omega), n_61 h0 (i := (j : Int)) (by omega) (by omega), n_62 h0 (i := (j : Int)) (by omega) (by omega), n_63 h0 (i := (j : Int)) (by omega) (by omega), g2, g4, f2, f4, am_w_s (z := (t : Int) - mV ω i 4) (by omega) (by omega), am_w_s (z := (t : Int) - mV ω j 4) (by omega) (by omega), j_max0, if_neg (show ¬ cT ω 1 (am_get ω (5 + i) 1).toNat = 0 by omega), if_neg (show ¬ cT ω 1 (am_get ω (5 + j) 1).toNat = 0 by omega), am_w_s (z := mV ω i 2 + mx0 ((t : Int) - mV ω i 4)) (by omega) (by omega), am_w_s (z := mV ω j 2 + mx0 ((t : Int) - mV ω j 4)) (by omega) (by omega), Int.tmod_eq_emod_of_nonneg (show 0 ≤ mV ω i 2 + mx0 ((t : Int) - mV ω i 4) by omega), Int.tmod_eq_emod_of_nonneg (show 0 ≤ mV ω j 2 + mx0 ((t : Int) - mV ω j 4) by omega), q1, q2, am_w_s (z := plF (cT ω 1) (am_get ω (5 + i)) (t : Int) * cT ω 1 (am_get ω (5 + j) 1).toNat) (by omega) (by omega), am_w_s (z := plF (cT ω 1) (am_get ω (5 + j)) (t : Int) * cT ω 1 (am_get ω (5 + i) 1).toNat) (by omega) (by omega), am_w_s (z := (t : Int) + 1) (by omega) (by omega)]
        by_cases g : passF (cT ω 1) (am_get ω (5 + i)) (am_get ω (5 + j)) t
        · rw [if_neg (fun z => z g), ff_y g]
        · refine (if_pos g).trans ?_
          rw [ff_n g, ← ih (t + 1) (by omega) (some (.inl (plF (cT ω 1) (am_get ω (5 + i)) (t : Int)))) (some (.inl (plF (cT ω 1) (am_get ω (5 + j)) (t : Int))))]
          rfl
    have p2 := pX7_pass_0 53 i j ω (i_53 h0)
    simp only [m_areTwo h0 (by rw [e1]; exact e3), e1, b01_pos hp, am_bi_s, am_bl_s, am_ba_s, am_bv_s, Int.toNat_zero, Int.reduceToNat, Int.toNat_natCast, if_true, if_false, not_true, not_false_eq_true, Int.reduceEq, Int.reduceLT, Int.reduceLE, i_53 h0, f_53_0 h0, f_53_1 h0, f_53_2 h0, f_53_4 h0, f_53_5 h0, f_53_7 h0, f_53_8 h0, f_53_9 h0, f_53_10 h0, f_53_11 h0, n_59 h0 (i := (i : Int)) (by omega) (by omega), n_60 h0 (i := (i : Int)) (by omega) (by omega), n_61 h0 (i := (i : Int)) (by omega) (by omega), n_62 h0 (i := (i : Int)) (by omega) (by omega), n_63 h0 (i := (i : Int)) (by omega) (by omega), n_59 h0 (i := (j : Int)) (by omega) (by omega), n_60 h0 (i := (j : Int)) (by omega) (by omega), n_61 h0 (i := (j : Int)) (by omega) (by omega), n_62 h0 (i := (j : Int)) (by omega) (by omega), n_63 h0 (i := (j : Int)) (by omega) (by omega), g1, f1, gT, fT, n_57 h0 o1.1 (show am_get ω (5 + i) 1 < 6 by omega), n_57 h0 r1.1 (show am_get ω (5 + j) 1 < 6 by omega)] at p2
    have c0 := cl M 0 (by omega)
    have m0 := ml M 0 (by omega) none none
    rw [show (some (.inl ((0 : Nat) : Int)) : Option am_V) = some (.inl 0) from rfl] at c0 m0
    exact pair_same h (p1.trans c0) (p2.trans m0)
  · rw [b01_neg hp] at p1
    simp only [am_bi_s, am_bl_s, am_ba_s, am_bv_s, Int.toNat_zero, Int.reduceToNat, Int.toNat_natCast, if_true, if_false, not_true, not_false_eq_true, Int.reduceEq, Int.reduceLT, Int.reduceLE] at p1
    refine pair_ref h 0 (by omega) p1 ?_
    rw [pX7_pass_0 _ _ _ _ (i_53 (b 0))]
    simp only [m_areTwo (b 0) (by rw [mk_rfz, e1]; exact e3), mk_rfz, e1, b01_neg hp, am_bi_s, am_bl_s, am_ba_s, am_bv_s, Int.toNat_zero, Int.reduceToNat, Int.toNat_natCast, if_true, if_false, not_true, not_false_eq_true, Int.reduceEq, Int.reduceLT, Int.reduceLE, i_53 (b 0), m_r2 (b 0)]
end K30
