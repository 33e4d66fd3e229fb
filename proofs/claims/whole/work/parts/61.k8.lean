/-! ===== feed ===== -/
section K8
variable {ω : am_W}
theorem k_feed (h : Inv ω) (v : Int) : Pair 96 171 [some (.inr (.inr 0)), some (.inl v)] [some (.inr (.inr 53)), some (.inl v)] ω := by
  have h0 := h.1
  have b := fun k => rfz_bs (k := k) h0
  obtain ⟨t1, t2, t3⟩ := h.2.2.2.1
  have t1' : am_get ω 53 15 = am_get ω 21 1 := t1
  have t2' : 0 ≤ am_get ω 21 1 ∧ am_get ω 21 1 ≤ 250 := t2
  have p1 := pX6_feed_0 0 v ω (i_0 h0) (by simp only [Int.toNat_zero, f_0_3 h0]; exact i_21 h0)
  simp only [Int.toNat_zero, f_0_3 h0, Int.reduceToNat, f_21_0 h0, c_r2 h0, c_r6 h0, am_bi_s] at p1
  by_cases hv : 0 ≤ v ∧ v ≤ 255
  · rw [if_neg (show ¬ v < 0 by omega), if_pos hv.2] at p1
    by_cases hz : am_get ω 21 1 < 250
    · obtain ⟨n, hn⟩ : ∃ n : Nat, am_get ω 21 1 = n := ⟨(am_get ω 21 1).toNat, by omega⟩
      rw [hn] at hz t2' t1'
      have b1 : Bs (am_put ω 22 n v) := h0.put (a := 22) rfl rfl
      have b2 : Bs (am_put (am_put ω 22 n v) 21 1 ((n : Int) + 1)) := b1.put (a := 21) (kd := 3) (n := 7) rfl rfl
      have e1 : am_get (am_put ω 22 n v) 21 1 = (n : Int) := (gp_cell (by omega)).trans hn
      have e2 : am_get (am_put (am_put ω 22 n v) 21 1 ((n : Int) + 1)) 21 1 = (n : Int) + 1 := gp_same
      have e3 : am_get (am_put (am_put ω 22 n v) 21 1 ((n : Int) + 1)) 53 15 = (n : Int) := (gp_cell (by omega)).trans ((gp_cell (by omega)).trans t1')
      simp only [hn, hz, if_true, n_22 h0 (i := (n : Int)) (by omega) (by omega), Int.toNat_natCast, f_0_3 b1, i_21 b1, Int.reduceToNat, e1, am_w_s (z := (n : Int) + 1) (by omega) (by omega), f_0_3 b2, i_21 b2, e2] at p1
      have c2 := pX7_feed_0 53 v (am_put (am_put ω 22 n v) 21 1 ((n : Int) + 1))
      have b3 : Bs (am_put (am_put (am_put ω 22 n v) 21 1 ((n : Int) + 1)) 53 15 ((n : Int) + 1)) := b2.put (a := 53) (kd := 7) (n := 30) rfl rfl
      have e4 : am_get (am_put (am_put (am_put (am_put ω 22 n v) 21 1 ((n : Int) + 1)) 53 15 ((n : Int) + 1)) 64 n v) 53 15 = (n : Int) + 1 := (gp_cell (by omega)).trans gp_same
      simp only [m_in1, am_bi_s, b01_pos hv, show ¬ (1 : Int) = 0 by omega, not_false_eq_true, if_true, i_53 b2, Int.reduceToNat, e3, am_w_s (z := (n : Int) + 1) (by omega) (by omega), f_53_16 b2, show ¬ (n : Int) = 250 by omega, n_64 b3 (i := (n : Int)) (by omega) (by omega), Int.toNat_natCast, e4] at c2
      have d1 : Dc ω (am_put ω 22 n v) := Dc.put (am_rp_at (bs_sh h0 (a := 22) rfl))
      have d2 := d1.tr (Dc.put (v := (n : Int) + 1) (k := 1) (am_rp_at (bs_sh b1 (a := 21) rfl)))
      have d3 := d2.tr (Dc.put (v := (n : Int) + 1) (k := 15) (am_rp_at (bs_sh b2 (a := 53) rfl)))
      have d4 := d3.tr (Dc.put (v := v) (k := n) (am_rp_at (bs_sh b3 (a := 64) rfl)))
      have e : ∀ a k, ¬ ((a = 22 ∧ k = n) ∨ (a = 21 ∧ k = 1) ∨ (a = 53 ∧ k = 15) ∨ (a = 64 ∧ k = n)) → (am_put (am_put (am_put (am_put ω 22 n v) 21 1 ((n : Int) + 1)) 53 15 ((n : Int) + 1)) 64 n v).2.1 a k = ω.2.1 a k := fun a k g => (if_neg (by omega)).trans ((if_neg (by omega)).trans ((if_neg (by omega)).trans (if_neg (by omega))))
      refine ⟨_, _, _, p1, b2, rfl, c2, rfl, inv_kp _ h d4 e (Or.inl (fun a k s b => by unfold S_sky at s; omega)) (Or.inl (fun a k s b => by unfold S_osky at s; omega)) (Or.inr ?_) (Or.inl (fun a k s b => by unfold S_shelf at s; omega)) (Or.inl (fun a k s b => by unfold S_ref at s; omega)) (Or.inl (fun a k s b => by unfold S_img at s; omega))⟩
      have e5 : am_get (am_put (am_put (am_put (am_put ω 22 n v) 21 1 ((n : Int) + 1)) 53 15 ((n : Int) + 1)) 64 n v) 21 1 = (n : Int) + 1 := (gp_cell (by omega)).trans ((gp_cell (by omega)).trans gp_same)
      have e6 : am_get (am_put (am_put (am_put (am_put ω 22 n v) 21 1 ((n : Int) + 1)) 53 15 ((n : Int) + 1)) 64 n v) 22 n = v := (gp_cell (by omega)).trans ((gp_cell (by omega)).trans ((gp_cell (by omega)).trans gp_same))
      have e7 : am_get (am_put (am_put (am_put (am_put ω 22 n v) 21 1 ((n : Int) + 1)) 53 15 ((n : Int) + 1)) 64 n v) 64 n = v := gp_same
      unfold am_get at e4 e5 e6 e7
      unfold I_tape
      rw [e4, e5]
      refine ⟨rfl, ⟨by omega, by omega⟩, fun j hj => ?_⟩
      by_cases g : j = n
      · subst g
        rw [e6, e7]
      · rw [e _ _ (by omega), e _ _ (by omega)]
        exact t3 j hj
    · rw [if_neg hz] at p1
      refine pair_ref h 4 (by omega) p1 ?_
      have e3 : am_get (rfz ω 4) 53 15 = 250 := (rfz_get (by omega)).trans (by omega)
      rw [pX7_feed_0]
      simp only [m_in1, am_bi_s, b01_pos hv, show ¬ (1 : Int) = 0 by omega, not_false_eq_true, if_true, i_53 (b 4), Int.reduceToNat, e3, not_true, if_false, m_r6 (b 4)]
  · have p1' : am_run (96, 0) 0 ([some (Sum.inr (Sum.inr 0)), some (Sum.inl v)], [], ω) = some (some (Sum.inl (-2)), rfz ω 0) := by
      rw [p1]
      by_cases z : v < 0
      · rw [if_pos z]
      · rw [if_neg z, if_neg (show ¬ v ≤ 255 by omega)]
    refine pair_ref h 0 (by omega) p1' ?_
    rw [pX7_feed_0]
    simp only [m_in1, am_bi_s, b01_neg hv, not_true, if_false, i_53 (b 0), if_true, m_r2 (b 0)]
end K8
