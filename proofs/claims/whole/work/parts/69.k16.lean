/-! ===== drift ===== -/
section K16
variable {ω : am_W} {W : Int}
theorem c_drift_b (h : Bs ω) (hw : isW W) {v : Int} (hv : am_is ω v (4, 5) = true) (hb : 0 < am_get ω v.toNat 4 ∧ am_get ω v.toNat 4 ≤ 10) : am_run (74, 0) 0 ([some (.inr (.inr W)), some (.inr (.inr v))], [], ω) = some (none, am_put ω v.toNat 4 (am_get ω v.toNat 4 - 1)) := by
  rw [pX5_drift_0 _ _ _ hv (w_is h hw), if_neg (by omega), am_w_s (by omega) (by omega)]
theorem c_drift_p (h : Bs ω) (hw : isW W) (h6 : cn ω W ≤ 6) (hT : ∀ j, j < 6 → 2 ≤ cT ω W j ∧ cT ω W j ≤ 20) {v : Int} (hv : am_is ω v (4, 5) = true) (hc : 0 ≤ am_get ω v.toNat 1 ∧ am_get ω v.toNat 1 < cn ω W) (hp : 0 ≤ am_get ω v.toNat 2 ∧ am_get ω v.toNat 2 ≤ 20) (hb : am_get ω v.toNat 4 ≤ 0) : am_run (74, 0) 0 ([some (.inr (.inr W)), some (.inr (.inr v))], [], ω) = some (none, am_put ω v.toNat 2 ((am_get ω v.toNat 2 + 1) % cT ω W (am_get ω v.toNat 1).toNat)) := by
  rw [pX5_drift_0 _ _ _ hv (w_is h hw), if_pos hb, bi_v (c_timeOf h hw hc.1 hc.2 h6), am_w_s (by omega) (by omega), bi_v (c_modulo (by omega) (hT _ (by omega)).1), if_pos hv]
theorem m_drift_b (h : Bs ω) {i : Nat} (hi : i < 6) (hb : 0 < mV ω i 4 ∧ mV ω i 4 ≤ 10) : am_run (182, 0) 0 ([some (.inr (.inr 53)), some (.inl (i : Int))], [], ω) = some (none, am_put ω 63 i (mV ω i 4 - 1)) := by
  have e4 : am_get ω 63 i = mV ω i 4 := rfl
  rw [pX7_drift_0 _ _ _ (i_53 h)]
  simp only [Int.reduceToNat, f_53_11 h, n_63 h (i := (i : Int)) (by omega) (by omega), if_true, Int.toNat_natCast, e4]
  rw [if_neg (by omega), am_w_s (by omega) (by omega)]
theorem m_drift_p (h : Bs ω) (h6 : mn ω ≤ 6) (hT : ∀ j, j < 6 → 2 ≤ mT ω j ∧ mT ω j ≤ 20) {i : Nat} (hi : i < 6) (hc : 0 ≤ mV ω i 1 ∧ mV ω i 1 < mn ω) (hp : 0 ≤ mV ω i 2 ∧ mV ω i 2 ≤ 20) (hb : mV ω i 4 ≤ 0) : am_run (182, 0) 0 ([some (.inr (.inr 53)), some (.inl (i : Int))], [], ω) = some (none, am_put ω 61 i ((mV ω i 2 + 1) % mT ω (mV ω i 1).toNat)) := by
  have e4 : am_get ω 63 i = mV ω i 4 := rfl
  have e1 : am_get ω 60 i = mV ω i 1 := rfl
  have e2 : am_get ω 61 i = mV ω i 2 := rfl
  have eT : am_get ω 57 (mV ω i 1).toNat = mT ω (mV ω i 1).toNat := rfl
  have hj := hT (mV ω i 1).toNat (by omega)
  rw [pX7_drift_0 _ _ _ (i_53 h)]
  simp only [Int.reduceToNat, f_53_11 h, f_53_9 h, f_53_8 h, f_53_4 h, n_63 h (i := (i : Int)) (by omega) (by omega), n_61 h (i := (i : Int)) (by omega) (by omega), n_60 h (i := (i : Int)) (by omega) (by omega), if_true, Int.toNat_natCast, e4, e1, e2, n_57 h hc.1 (show mV ω i 1 < 6 by omega), eT]
  rw [if_pos hb, if_neg (by omega), am_w_s (by omega) (by omega), Int.tmod_eq_emod_of_nonneg (by omega)]
end K16
