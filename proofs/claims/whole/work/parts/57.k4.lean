/-! ===== time, cost, feed, element ===== -/
section K4
variable {ω : am_W}
theorem k_time (h : Inv ω) (c v : Int) : Pair 92 166 [some (.inr (.inr 0)), some (.inl c), some (.inl v), none] [some (.inr (.inr 53)), some (.inl c), some (.inl v), none] ω := by
  have h0 := h.1
  obtain ⟨e1, e2, e3, e4⟩ := inv_k h
  have b := fun k => rfz_bs (k := k) h0
  have p1 := pX6_time_0 0 c v ω (i_0 h0) (by simp only [Int.toNat_zero, f_0_0 h0]; exact i_1 h0)
  simp only [Int.toNat_zero, f_0_0 h0, c_hasCircle h0 W1, am_bi_s, Int.reduceToNat, i_0 h0, i_1 h0, if_true, f_1_1 h0, c_shipsOn h0 W1 e3, c_r2 h0, c_r5 h0] at p1
  by_cases hc : 0 ≤ c ∧ c < cn ω 1
  · rw [b01_pos hc] at p1
    simp only [show ¬ (1 : Int) = 0 by omega, if_false] at p1
    by_cases hv : 2 ≤ v ∧ v ≤ 20
    · rw [if_neg (by omega), if_pos (by omega)] at p1
      by_cases hz : fOn (cV ω 1) c (ck ω 1).toNat = 0
      · obtain ⟨j, rfl⟩ : ∃ j : Nat, c = j := ⟨c.toNat, by omega⟩
        have hj : j < 6 := by omega
        simp only [hz, if_true, n_2 h0 (i := (j : Int)) (by omega) (by omega), Int.toNat_natCast] at p1
        have b1 : Bs (am_put ω 2 j v) := h0.put (kd := 100) (n := 6) rfl rfl
        have k1 : mk (am_put ω 2 j v) = mk ω := gp_cell (by omega)
        have k2 : mn (am_put ω 2 j v) = mn ω := gp_cell (by omega)
        have k3 : mV (am_put ω 2 j v) = mV ω := funext fun i => funext fun f => gp_cell (by omega)
        have g : am_get (am_put ω 2 j v) 57 j = am_get ω 2 j := (gp_cell (by omega)).trans (h.2.1.2.1 j hj)
        have c2 := pX7_time_0 53 j v (am_put ω 2 j v) (i_53 b1)
        simp only [m_isCircle b1 (by rw [k2, e2]; exact e4), am_bi_s, k2, e2, b01_pos hc, show ¬ (1 : Int) = 0 by omega, if_false, m_in1, b01_pos hv, not_false_eq_true, if_true, i_53 b1, m_those b1 (by rw [k1, e1]; exact e3), k1, k3, inv_on h, hz, Int.reduceToNat, f_53_4 b1, Int.toNat_natCast, n_57 b1 (i := (j : Int)) (by omega) (by omega), g] at c2
        have d : Dc ω (am_put (am_put ω 2 j v) 57 j v) := (Dc.put (am_rp_at (bs_sh h0 (a := 2) rfl))).tr (Dc.put (am_rp_at (bs_sh b1 (a := 57) rfl)))
        have e : ∀ a k, ¬ ((a = 2 ∧ k = j) ∨ (a = 57 ∧ k = j)) → (am_put (am_put ω 2 j v) 57 j v).2.1 a k = ω.2.1 a k := fun a k g => (if_neg (fun q => g (Or.inr q))).trans (if_neg (fun q => g (Or.inl q)))
        have ej : (am_put (am_put ω 2 j v) 57 j v).2.1 2 j = v := (gp_cell (ω := am_put ω 2 j v) (a := 57) (k := j) (v := v) (a' := 2) (k' := j) (by omega)).trans gp_same
        refine ⟨_, _, _, p1, b1, rfl, c2, rfl, inv_kp _ h d e (Or.inr ?_) (Or.inr ?_) (Or.inl (fun a k s b => by unfold S_tape at s; omega)) (Or.inl (fun a k s b => by unfold S_shelf at s; omega)) (Or.inl (fun a k s b => by unfold S_ref at s; omega)) (Or.inl (fun a k s b => by unfold S_img at s; omega))⟩
        · obtain ⟨q1, q2, q3, q4, q5, q6, q7, q8⟩ := h.2.1
          refine ⟨fun i hi f hf => ?_, fun j' hj' => ?_, fun j' hj' => ?_, q4, q5, q6, q7, q8⟩
          · rw [e _ _ (by omega), e _ _ (by omega)]; exact q1 i hi f hf
          · by_cases g : j' = j
            · subst g
              rw [ej]
              exact if_pos ⟨rfl, rfl⟩
            · rw [e _ _ (by omega), e _ _ (by omega)]; exact q2 j' hj'
          · rw [e _ _ (by omega), e _ _ (by omega)]; exact q3 j' hj'
        · obtain ⟨q1, q2, q3, q4, q5, q6⟩ := h.2.2.1
          refine ⟨q1, q2, fun j' hj' => ?_, fun j' hj' => ?_, fun i hi => ?_, q6⟩
          · by_cases g : j' = j
            · subst g
              show 2 ≤ (am_put (am_put ω 2 j' v) 57 j' v).2.1 2 j' ∧ (am_put (am_put ω 2 j' v) 57 j' v).2.1 2 j' ≤ 20
              rw [ej]
              exact hv
            · rw [e _ _ (by omega)]; exact q3 j' hj'
          · rw [e _ _ (by omega)]; exact q4 j' hj'
          · have hi1 : (i : Int) < ck ω 1 := hi
            have hne := fOn_0 (by omega) hz i (by omega)
            have hq := q5 i hi
            have eV : (am_put (am_put ω 2 j v) 57 j v).2.1 (1 + 4 + i) = ω.2.1 (1 + 4 + i) := funext fun k => e _ _ (by omega)
            rw [eV]
            obtain ⟨t1, t2, t3, t4, t5⟩ := hq
            refine ⟨t1, t2, ?_, t4, t5⟩
            rw [e _ _ (by
              intro z
              have z1 : (ω.2.1 (1 + 4 + i) 1).toNat = j := by omega
              apply hne
              have : cV ω 1 i 1 = ω.2.1 (1 + 4 + i) 1 := by unfold cV; rw [show ((1 : Int) + 4 + (i : Int)).toNat = 1 + 4 + i by omega]; rfl
              rw [this]
              omega)]
            exact t3
      · simp only [hz, if_false] at p1
        refine pair_ref h 3 (by omega) p1 ?_
        rw [pX7_time_0 _ _ _ _ (i_53 (b 3))]
        simp only [m_isCircle (b 3) (by rw [mn_rfz]; omega), am_bi_s, mn_rfz, e2, b01_pos hc, show ¬ (1 : Int) = 0 by omega, if_false, m_in1, b01_pos hv, not_false_eq_true, if_true, i_53 (b 3), m_those (b 3) (by rw [mk_rfz]; omega), mk_rfz, mV_rfz, inv_on h, hz, m_r5 (b 3)]
    · have p1' : am_run (92, 0) 0 ([some (Sum.inr (Sum.inr 0)), some (Sum.inl c), some (Sum.inl v), none], [], ω) = some (some (Sum.inl (-2)), rfz ω 0) := by
        rw [p1]
        by_cases h2 : v < 2
        · rw [if_pos h2]
        · rw [if_neg h2, if_neg (by omega)]
      refine pair_ref h 0 (by omega) p1' ?_
      rw [pX7_time_0 _ _ _ _ (i_53 (b 0))]
      simp only [m_isCircle (b 0) (by rw [mn_rfz]; omega), am_bi_s, mn_rfz, e2, b01_pos hc, show ¬ (1 : Int) = 0 by omega, if_false, m_in1, b01_neg hv, not_true, i_53 (b 0), if_true, m_r2 (b 0)]
  · rw [b01_neg hc] at p1
    simp only [if_true] at p1
    refine pair_ref h 0 (by omega) p1 ?_
    rw [pX7_time_0 _ _ _ _ (i_53 (b 0))]
    simp only [m_isCircle (b 0) (by rw [mn_rfz]; omega), am_bi_s, mn_rfz, e2, b01_neg hc, i_53 (b 0), if_true, m_r2 (b 0)]
theorem k_cost (h : Inv ω) (c v : Int) : Pair 93 167 [some (.inr (.inr 0)), some (.inl c), some (.inl v), none] [some (.inr (.inr 53)), some (.inl c), some (.inl v), none] ω := by
  have h0 := h.1
  obtain ⟨e1, e2, e3, e4⟩ := inv_k h
  have b := fun k => rfz_bs (k := k) h0
  have p1 := pX6_cost_0 0 c v ω (i_0 h0) (by simp only [Int.toNat_zero, f_0_0 h0]; exact i_1 h0)
  simp only [Int.toNat_zero, f_0_0 h0, c_hasAbove h0 W1 e4, am_bi_s, Int.reduceToNat, i_0 h0, i_1 h0, if_true, f_1_2 h0, c_r2 h0] at p1
  have en : ∀ ω' : am_W, mn ω' = mn ω → am_w (am_get ω' 53 3 - 2) = cn ω 1 - 2 := fun ω' q => by
    have : am_get ω' 53 3 = cn ω 1 := q.trans e2
    rw [this]
    exact am_w_s (by omega) (by omega)
  by_cases hc : 0 ≤ c ∧ c < cn ω 1 - 1
  · have hc' : 0 ≤ c ∧ c ≤ cn ω 1 - 2 := by omega
    rw [b01_pos hc] at p1
    simp only [show ¬ (1 : Int) = 0 by omega, if_false] at p1
    by_cases hv : 1 ≤ v ∧ v ≤ 9
    · rw [if_neg (by omega), if_pos (by omega)] at p1
      obtain ⟨j, rfl⟩ : ∃ j : Nat, c = j := ⟨c.toNat, by omega⟩
      have hj : j < 5 := by omega
      simp only [if_true, n_3 h0 (i := (j : Int)) (by omega) (by omega), Int.toNat_natCast] at p1
      have b1 : Bs (am_put ω 3 j v) := h0.put (kd := 100) (n := 5) rfl rfl
      have k2 : mn (am_put ω 3 j v) = mn ω := gp_cell (by omega)
      have g : am_get (am_put ω 3 j v) 58 j = am_get ω 3 j := (gp_cell (by omega)).trans (h.2.1.2.2.1 j hj)
      have c2 := pX7_cost_0 53 j v (am_put ω 3 j v) (i_53 b1)
      simp only [m_in1, am_bi_s, Int.reduceToNat, en _ k2, b01_pos hc', show ¬ (1 : Int) = 0 by omega, if_false, b01_pos hv, not_false_eq_true, if_true, i_53 b1, f_53_5 b1, Int.toNat_natCast, n_58 b1 (i := (j : Int)) (by omega) (by omega), g] at c2
      have d : Dc ω (am_put (am_put ω 3 j v) 58 j v) := (Dc.put (am_rp_at (bs_sh h0 (a := 3) rfl))).tr (Dc.put (am_rp_at (bs_sh b1 (a := 58) rfl)))
      have e : ∀ a k, ¬ ((a = 3 ∧ k = j) ∨ (a = 58 ∧ k = j)) → (am_put (am_put ω 3 j v) 58 j v).2.1 a k = ω.2.1 a k := fun a k g => (if_neg (fun q => g (Or.inr q))).trans (if_neg (fun q => g (Or.inl q)))
      have ej : (am_put (am_put ω 3 j v) 58 j v).2.1 3 j = v := (gp_cell (ω := am_put ω 3 j v) (a := 58) (k := j) (v := v) (a' := 3) (k' := j) (by omega)).trans gp_same
      refine ⟨_, _, _, p1, b1, rfl, c2, rfl, inv_kp _ h d e (Or.inr ?_) (Or.inr ?_) (Or.inl (fun a k s b => by unfold S_tape at s; omega)) (Or.inl (fun a k s b => by unfold S_shelf at s; omega)) (Or.inl (fun a k s b => by unfold S_ref at s; omega)) (Or.inl (fun a k s b => by unfold S_img at s; omega))⟩
      · obtain ⟨q1, q2, q3, q4, q5, q6, q7, q8⟩ := h.2.1
        refine ⟨fun i hi f hf => ?_, fun j' hj' => ?_, fun j' hj' => ?_, q4, q5, q6, q7, q8⟩
        · rw [e _ _ (by omega), e _ _ (by omega)]; exact q1 i hi f hf
        · rw [e _ _ (by omega), e _ _ (by omega)]; exact q2 j' hj'
        · by_cases g : j' = j
          · subst g
            rw [ej]
            exact if_pos ⟨rfl, rfl⟩
          · rw [e _ _ (by omega), e _ _ (by omega)]; exact q3 j' hj'
      · obtain ⟨q1, q2, q3, q4, q5, q6⟩ := h.2.2.1
        refine ⟨q1, q2, q3, fun j' hj' => ?_, fun i hi => ?_, q6⟩
        · by_cases g : j' = j
          · subst g
            show 1 ≤ (am_put (am_put ω 3 j' v) 58 j' v).2.1 3 j' ∧ (am_put (am_put ω 3 j' v) 58 j' v).2.1 3 j' ≤ 9
            rw [ej]
            exact hv
          · rw [e _ _ (by omega)]; exact q4 j' hj'
        · have eV : (am_put (am_put ω 3 j v) 58 j v).2.1 (1 + 4 + i) = ω.2.1 (1 + 4 + i) := funext fun k => e _ _ (by have : (i : Int) < ck ω 1 := hi; omega)
          rw [eV]
          exact q5 i hi
    · have p1' : am_run (93, 0) 0 ([some (Sum.inr (Sum.inr 0)), some (Sum.inl c), some (Sum.inl v), none], [], ω) = some (some (Sum.inl (-2)), rfz ω 0) := by
        rw [p1]
        by_cases h2 : v < 1
        · rw [if_pos h2]
        · rw [if_neg h2, if_neg (by omega)]
      refine pair_ref h 0 (by omega) p1' ?_
      rw [pX7_cost_0 _ _ _ _ (i_53 (b 0))]
      simp only [m_in1, am_bi_s, Int.reduceToNat, en _ mn_rfz, b01_pos hc', show ¬ (1 : Int) = 0 by omega, if_false, b01_neg hv, not_true, i_53 (b 0), if_true, m_r2 (b 0)]
  · rw [b01_neg hc] at p1
    simp only [if_true] at p1
    refine pair_ref h 0 (by omega) p1 ?_
    rw [pX7_cost_0 _ _ _ _ (i_53 (b 0))]
    simp only [m_in1, am_bi_s, Int.reduceToNat, en _ mn_rfz, b01_neg (show ¬ (0 ≤ c ∧ c ≤ cn ω 1 - 2) by omega), i_53 (b 0), if_true, m_r2 (b 0)]
end K4
