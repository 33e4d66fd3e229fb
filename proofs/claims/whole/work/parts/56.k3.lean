/-! ===== circles, time, cost, fill ===== -/
section K3
variable {ω : am_W}
theorem am_or_0 {a b : Int} (h : am_or a b = 0) : Int32.ofInt b = 0 := by
  unfold am_or at h
  have h1 : Int32.ofInt a ||| Int32.ofInt b = 0 := Int32.toInt_inj.mp h
  generalize Int32.ofInt a = x at h1
  generalize Int32.ofInt b = y at h1
  apply Int32.toBitVec_inj.mp
  have h2 : (x ||| y).toBitVec = 0 := by rw [h1]; rfl
  rw [Int32.toBitVec_or] at h2
  generalize x.toBitVec = u at h2
  generalize y.toBitVec = w at h2
  apply BitVec.eq_of_getLsbD_eq
  intro i hi
  have := congrArg (fun z => z.getLsbD i) h2
  simp at this
  simp [this]
theorem fOn_0 {V : Nat → Nat → Int} {c : Int} : ∀ {n : Nat}, n ≤ 6 → fOn V c n = 0 → ∀ i, i < n → V i 1 ≠ c := by
  intro n
  induction n with
  | zero => intro _ _ i hi; omega
  | succ n ih =>
    intro hn h i hi
    rw [fOn_s] at h
    by_cases q : V n 1 = c
    · rw [if_pos q] at h
      have h1 := am_or_0 h
      have : ∀ n, n < 6 → ¬ Int32.ofInt (am_shl 1 ((n : Nat) : Int)) = 0 := by decide
      exact absurd h1 (this n (by omega))
    · rw [if_neg q] at h
      by_cases g : i = n
      · rw [g]; exact q
      · exact ih (by omega) h i (by omega)
theorem k_circles (h : Inv ω) (n : Int) : Pair 91 165 [some (.inr (.inr 0)), some (.inl n), none] [some (.inr (.inr 53)), some (.inl n), none] ω := by
  have h0 := h.1
  obtain ⟨e1, e2, e3, e4⟩ := inv_k h
  have p1 := pX6_circles_0 0 n ω (i_0 h0) (by simp only [Int.toNat_zero, f_0_0 h0]; exact i_1 h0)
  simp only [Int.toNat_zero, f_0_0 h0, am_bi_s, Int.reduceToNat, c_r2 h0, c_r5 h0] at p1
  have b := fun k => rfz_bs (k := k) h0
  by_cases hn : 2 ≤ n ∧ n ≤ 6
  · rw [if_neg (by omega), if_pos (by omega)] at p1
    by_cases hk : ck ω 1 ≤ 0
    · have hk' : am_get ω 1 3 ≤ 0 := hk
      rw [if_pos hk'] at p1
      have b1 : Bs (am_put ω 1 0 n) := h0.put (kd := 5) (n := 8) rfl rfl
      have c2 := pX7_circles_0 53 n (am_put ω 1 0 n)
      have g6 : am_get (am_put ω 1 0 n) 53 6 = ck ω 1 := (gp_cell (by omega)).trans e1
      have g3 : am_get (am_put ω 1 0 n) 53 3 = am_get ω 1 0 := (gp_cell (by omega)).trans e2
      simp only [m_in1, am_bi_s, b01_pos hn, show ¬ (1 : Int) = 0 by omega, not_false_eq_true, if_true, i_53 b1, Int.reduceToNat, g6, hk, g3] at c2
      have d : Dc ω (am_put (am_put ω 1 0 n) 53 3 n) := (Dc.put (am_rp_at (bs_sh h0 (a := 1) rfl))).tr (Dc.put (am_rp_at (bs_sh b1 (a := 53) rfl)))
      have e : ∀ a j, ¬ ((a = 1 ∧ j = 0) ∨ (a = 53 ∧ j = 3)) → (am_put (am_put ω 1 0 n) 53 3 n).2.1 a j = ω.2.1 a j := fun a j g => (if_neg (fun q => g (Or.inr q))).trans (if_neg (fun q => g (Or.inl q)))
      refine ⟨_, _, _, p1, b1, rfl, c2, rfl, inv_kp _ h d e (Or.inr ?_) (Or.inr ?_) (Or.inl (fun a k s b => by unfold S_tape at s; omega)) (Or.inl (fun a k s b => by unfold S_shelf at s; omega)) (Or.inl (fun a k s b => by unfold S_ref at s; omega)) (Or.inl (fun a k s b => by unfold S_img at s; omega))⟩
      · obtain ⟨q1, q2, q3, q4, q5, q6, q7, q8⟩ := h.2.1
        refine ⟨fun i hi f hf => ?_, fun j hj => ?_, fun j hj => ?_, rfl, q5, q6, q7, q8⟩
        · rw [e _ _ (by omega), e _ _ (by omega)]; exact q1 i hi f hf
        · rw [e _ _ (by omega), e _ _ (by omega)]; exact q2 j hj
        · rw [e _ _ (by omega), e _ _ (by omega)]; exact q3 j hj
      · obtain ⟨q1, q2, q3, q4, q5, q6⟩ := h.2.2.1
        exact ⟨hn, q2, q3, q4, fun i hi => absurd (show (i : Int) < ck ω 1 from hi) (by omega), q6⟩
    · have hk' : ¬ am_get ω 1 3 ≤ 0 := hk
      rw [if_neg hk'] at p1
      refine pair_ref h 3 (by omega) p1 ?_
      have g6 : am_get (rfz ω 3) 53 6 = ck ω 1 := (gp_cell (by omega)).trans e1
      rw [pX7_circles_0]
      simp only [m_in1, am_bi_s, b01_pos hn, show ¬ (1 : Int) = 0 by omega, not_false_eq_true, if_true, i_53 (b 3), Int.reduceToNat, g6, hk, if_false, m_r5 (b 3)]
  · have p1' : am_run (91, 0) 0 ([some (Sum.inr (Sum.inr 0)), some (Sum.inl n), none], [], ω) = some (some (Sum.inl (-2)), rfz ω 0) := by
      rw [p1]
      by_cases h2 : n < 2
      · rw [if_pos h2]
      · rw [if_neg h2, if_neg (by omega)]
    refine pair_ref h 0 (by omega) p1' ?_
    rw [pX7_circles_0]
    simp only [m_in1, am_bi_s, b01_neg hn, not_true, if_false, i_53 (b 0), if_true, m_r2 (b 0)]
theorem c_drops {v : Int} : am_run (143, 0) 0 ([some (.inl v)], [], ω) = some (some (.inl (b01 (0 ≤ v ∧ v ≤ 99))), ω) := by
  rw [pX6_areDrops_0]
  by_cases h1 : v < 0
  · rw [if_pos h1, b01_neg (by omega)]
  · rw [if_neg h1]
    by_cases h2 : 99 < v
    · rw [if_pos h2, b01_neg (by omega)]
    · rw [if_neg h2, b01_pos (by omega)]
theorem k_fill (h : Inv ω) (s v : Int) : Pair 95 170 [some (.inr (.inr 0)), some (.inl s), some (.inl v), none] [some (.inr (.inr 53)), some (.inl s), some (.inl v), none] ω := by
  have h0 := h.1
  obtain ⟨e1, e2, e3, e4⟩ := inv_k h
  have b := fun k => rfz_bs (k := k) h0
  have p1 := pX6_fill_0 0 s v ω (i_0 h0) (by simp only [Int.toNat_zero, f_0_0 h0]; exact i_1 h0)
  simp only [Int.toNat_zero, f_0_0 h0, c_hasShip h0 W1, am_bi_s, Int.reduceToNat, i_0 h0, i_1 h0, if_true, f_1_4 h0, c_r2 h0, c_drops] at p1
  by_cases hs : 0 ≤ s ∧ s < ck ω 1
  · rw [b01_pos hs] at p1
    by_cases hv : 0 ≤ v ∧ v ≤ 99
    · obtain ⟨i, rfl⟩ : ∃ i : Nat, s = i := ⟨s.toNat, by omega⟩
      have hi : i < 6 := by omega
      have eV : am_get ω 4 i = 1 + 4 + (i : Int) := w_V h0 W1 hi
      have iS : am_ina ω 4 (i : Int) = true := ina_S h0 W1 (by omega) (by omega)
      have iV := is_V h0 W1 hi
      have eA : ((1 : Int) + 4 + (i : Int)).toNat = 5 + i := by omega
      rw [b01_pos hv] at p1
      simp only [show ¬ (1 : Int) = 0 by omega, not_false_eq_true, if_true, if_false, Int.toNat_natCast, eV, iS, iV, eA] at p1
      have s1 : ∀ i, i < 6 → sh_0[5 + i]? = some (4, 5) := by decide
      have b1 : Bs (am_put ω (5 + i) 3 v) := h0.put (s1 i hi) rfl
      have k1 : mk (am_put ω (5 + i) 3 v) = ck ω 1 := (gp_cell (by omega)).trans e1
      have g3 : am_get (am_put ω (5 + i) 3 v) 62 i = am_get ω (5 + i) 3 := (gp_cell (by omega)).trans (h.2.1.1 i hi 3 (by omega))
      have c2 := pX7_fill_0 53 i v (am_put ω (5 + i) 3 v) (i_53 b1)
      simp only [m_isShip b1 (by rw [k1]; exact e3), am_bi_s, k1, b01_pos hs, show ¬ (1 : Int) = 0 by omega, if_false, m_in1, b01_pos hv, not_false_eq_true, if_true, i_53 b1, Int.reduceToNat, f_53_10 b1, Int.toNat_natCast, n_62 b1 (i := (i : Int)) (by omega) (by omega), g3] at c2
      refine ⟨_, _, _, p1, b1, rfl, c2, rfl, inv_putV h hi (f := 3) (by omega) (osky_putV h hi (by omega) (fun hk => ?_))⟩
      have q := h.2.2.1.2.2.2.2.1 i hk
      rw [show 1 + 4 + i = 5 + i by omega] at q
      obtain ⟨q0, q1, q2, q3, q4⟩ := q
      exact ⟨q0, q1, q2, hv, q4⟩
    · rw [b01_neg hv] at p1
      simp only [show ¬ (1 : Int) = 0 by omega, if_false, not_true] at p1
      refine pair_ref h 0 (by omega) p1 ?_
      rw [pX7_fill_0 _ _ _ _ (i_53 (b 0))]
      simp only [m_isShip (b 0) (by rw [mk_rfz]; omega), am_bi_s, mk_rfz, e1, b01_pos hs, show ¬ (1 : Int) = 0 by omega, if_false, m_in1, b01_neg hv, not_true, i_53 (b 0), if_true, m_r2 (b 0)]
  · rw [b01_neg hs] at p1
    simp only [if_true] at p1
    refine pair_ref h 0 (by omega) p1 ?_
    rw [pX7_fill_0 _ _ _ _ (i_53 (b 0))]
    simp only [m_isShip (b 0) (by rw [mk_rfz]; omega), am_bi_s, mk_rfz, e1, b01_neg hs, i_53 (b 0), if_true, m_r2 (b 0)]
end K3
