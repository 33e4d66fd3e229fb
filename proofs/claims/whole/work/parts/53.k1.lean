/-! ===== seed, wipe, holds, circles, element ===== -/
theorem k_seed {ω : am_W} (h : Inv ω) (v : Int) : Pair 124 228 [some (.inr (.inr 0)), some (.inl v), none] [some (.inr (.inr 53)), some (.inl v), none] ω := by
  obtain ⟨h0, h1, h2, h3, h4, h5, h6, h7⟩ := id h
  have c1 := pX6_seed_0 0 v ω (i_0 h0) (by simp only [Int.toNat_zero, f_0_0 h0]; exact i_1 h0)
  simp only [Int.toNat_zero, f_0_0 h0, Int.reduceToNat] at c1
  have b1 : Bs (am_put ω 1 7 v) := h0.put (kd := 5) (n := 8) rfl rfl
  have c2 := pX7_seed_0 53 v (am_put ω 1 7 v) (i_53 b1)
  simp only [Int.reduceToNat] at c2
  rw [gp_cell (by omega)] at c2
  have ez : am_get ω 53 14 = am_get ω 1 7 := h1.2.2.2.2.2.2.2
  rw [ez] at c2
  have d : Dc ω (am_put (am_put ω 1 7 v) 53 14 v) := (Dc.put (am_rp_at (bs_sh h0 (a := 1) rfl))).tr (Dc.put (am_rp_at (bs_sh b1 (a := 53) rfl)))
  have e : ∀ a j, ¬ ((a = 1 ∧ j = 7) ∨ (a = 53 ∧ j = 14)) → (am_put (am_put ω 1 7 v) 53 14 v).2.1 a j = ω.2.1 a j := fun a j g => (if_neg (fun q => g (Or.inr q))).trans (if_neg (fun q => g (Or.inl q)))
  refine ⟨_, _, _, c1, b1, rfl, c2, rfl, inv_kp _ h d e (Or.inr ?_) (Or.inl (fun a k s b => by unfold S_osky at s; omega)) (Or.inl (fun a k s b => by unfold S_tape at s; omega)) (Or.inl (fun a k s b => by unfold S_shelf at s; omega)) (Or.inl (fun a k s b => by unfold S_ref at s; omega)) (Or.inl (fun a k s b => by unfold S_img at s; omega))⟩
  obtain ⟨q1, q2, q3, q4, q5, q6, q7, q8⟩ := h1
  refine ⟨fun i hi f hf => ?_, fun j hj => ?_, fun j hj => ?_, q4, q5, q6, q7, rfl⟩
  · rw [e _ _ (by omega), e _ _ (by omega)]; exact q1 i hi f hf
  · rw [e _ _ (by omega), e _ _ (by omega)]; exact q2 j hj
  · rw [e _ _ (by omega), e _ _ (by omega)]; exact q3 j hj
theorem k_wipe {ω : am_W} (h : Inv ω) : Pair 97 172 [some (.inr (.inr 0)), none] [some (.inr (.inr 53)), none] ω := by
  obtain ⟨h0, h1, h2, h3, h4, h5, h6, h7⟩ := id h
  have c1 := pX6_wipe_0 0 ω (i_0 h0) (by simp only [Int.toNat_zero, f_0_3 h0]; exact i_21 h0)
  simp only [Int.toNat_zero, f_0_3 h0, Int.reduceToNat] at c1
  have b1 : Bs (am_put ω 21 1 0) := h0.put (kd := 3) (n := 7) rfl rfl
  have c2 := pX7_wipe_0 53 (am_put ω 21 1 0) (i_53 b1)
  simp only [Int.reduceToNat] at c2
  rw [gp_cell (by omega)] at c2
  have ez : am_get ω 53 15 = am_get ω 21 1 := h3.1
  rw [ez] at c2
  have d : Dc ω (am_put (am_put ω 21 1 0) 53 15 0) := (Dc.put (am_rp_at (bs_sh h0 (a := 21) rfl))).tr (Dc.put (am_rp_at (bs_sh b1 (a := 53) rfl)))
  have e : ∀ a j, ¬ ((a = 21 ∧ j = 1) ∨ (a = 53 ∧ j = 15)) → (am_put (am_put ω 21 1 0) 53 15 0).2.1 a j = ω.2.1 a j := fun a j g => (if_neg (fun q => g (Or.inr q))).trans (if_neg (fun q => g (Or.inl q)))
  refine ⟨_, _, _, c1, b1, rfl, c2, rfl, inv_kp _ h d e (Or.inl (fun a k s b => by unfold S_sky at s; omega)) (Or.inl (fun a k s b => by unfold S_osky at s; omega)) (Or.inr ?_) (Or.inl (fun a k s b => by unfold S_shelf at s; omega)) (Or.inl (fun a k s b => by unfold S_ref at s; omega)) (Or.inl (fun a k s b => by unfold S_img at s; omega))⟩
  refine ⟨rfl, ⟨Int.le_refl 0, by show (0 : Int) ≤ 250; omega⟩, fun j hj => ?_⟩
  rw [e _ _ (by omega), e _ _ (by omega)]
  exact h3.2.2 j hj
theorem k_holds {ω : am_W} (h : Inv ω) (s : Int) : Pair 88 160 [some (.inr (.inr 0)), some (.inl s)] [some (.inr (.inr 53)), some (.inl s)] ω := by
  obtain ⟨h0, h1, h2, h3, h4, h5, h6, h7⟩ := id h
  by_cases hs : 0 ≤ s ∧ s ≤ 7
  · obtain ⟨n, rfl⟩ : ∃ n : Nat, s = n := ⟨s.toNat, by omega⟩
    have hn : n < 8 := by omega
    refine pair_same h (z := .inl (am_get ω (37 + 2 * n) 0)) ?_ ?_
    · rw [pX6_holds_0, bi_v c_shelf, if_pos hs, if_neg (by omega), if_pos (i_0 h0)]
      simp only [Int.toNat_zero, f_0_4 h0, Int.reduceToNat, Int.toNat_natCast, g_shelf h0 hn]
      rw [if_pos (ina_33 h0 (by omega) (by omega)), if_pos (is_shelf h0 hn)]
    · rw [pX7_holds_0, bi_v m_in, if_pos hs, if_neg (by omega), if_pos (i_53 h0)]
      simp only [f_53_0 h0, Int.reduceToNat, Int.toNat_natCast]
      rw [if_pos (n_54 h0 (by omega) (by omega))]
      have : am_get ω 54 n = am_get ω (37 + 2 * n) 0 := (h4 n hn).1
      rw [this]
  · refine pair_same h (z := .inl (-1)) ?_ ?_
    · rw [pX6_holds_0, bi_v c_shelf, if_neg hs, if_pos rfl]
    · rw [pX7_holds_0, bi_v m_in, if_neg hs, if_pos rfl]
