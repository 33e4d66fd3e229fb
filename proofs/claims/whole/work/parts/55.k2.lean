/-! ===== refusals by number; the model behind a change of the class's cells ===== -/
section K2
variable {ω : am_W}
theorem c_r2 (h : Bs ω) : am_run (128, 0) 0 ([some (.inr (.inr 0)), some (.inl (-2)), none], [], ω) = some (some (.inl (-2)), rfz ω 0) := c_ref h (by omega) rfl
theorem c_r3 (h : Bs ω) : am_run (128, 0) 0 ([some (.inr (.inr 0)), some (.inl (-3)), none], [], ω) = some (some (.inl (-3)), rfz ω 1) := c_ref h (by omega) rfl
theorem c_r4 (h : Bs ω) : am_run (128, 0) 0 ([some (.inr (.inr 0)), some (.inl (-4)), none], [], ω) = some (some (.inl (-4)), rfz ω 2) := c_ref h (by omega) rfl
theorem c_r5 (h : Bs ω) : am_run (128, 0) 0 ([some (.inr (.inr 0)), some (.inl (-5)), none], [], ω) = some (some (.inl (-5)), rfz ω 3) := c_ref h (by omega) rfl
theorem c_r6 (h : Bs ω) : am_run (128, 0) 0 ([some (.inr (.inr 0)), some (.inl (-6)), none], [], ω) = some (some (.inl (-6)), rfz ω 4) := c_ref h (by omega) rfl
theorem m_r2 (h : Bs ω) : am_run (148, 0) 0 ([some (.inr (.inr 53)), some (.inl (-2))], [], ω) = some (some (.inl (-2)), noz ω 0) := m_no h (by omega) rfl
theorem m_r3 (h : Bs ω) : am_run (148, 0) 0 ([some (.inr (.inr 53)), some (.inl (-3))], [], ω) = some (some (.inl (-3)), noz ω 1) := m_no h (by omega) rfl
theorem m_r4 (h : Bs ω) : am_run (148, 0) 0 ([some (.inr (.inr 53)), some (.inl (-4))], [], ω) = some (some (.inl (-4)), noz ω 2) := m_no h (by omega) rfl
theorem m_r5 (h : Bs ω) : am_run (148, 0) 0 ([some (.inr (.inr 53)), some (.inl (-5))], [], ω) = some (some (.inl (-5)), noz ω 3) := m_no h (by omega) rfl
theorem m_r6 (h : Bs ω) : am_run (148, 0) 0 ([some (.inr (.inr 53)), some (.inl (-6))], [], ω) = some (some (.inl (-6)), noz ω 4) := m_no h (by omega) rfl
theorem mk_rfz {k : Nat} : mk (rfz ω k) = mk ω := gp_cell (by omega)
theorem mn_rfz {k : Nat} : mn (rfz ω k) = mn ω := gp_cell (by omega)
theorem mV_rfz {k : Nat} : mV (rfz ω k) = mV ω := funext fun i => funext fun f => gp_cell (by omega)
theorem mT_rfz {k : Nat} : mT (rfz ω k) = mT ω := funext fun i => gp_cell (by omega)
theorem mC_rfz {k : Nat} : mC (rfz ω k) = mC ω := funext fun i => gp_cell (by omega)
theorem W1 : isW 1 := Or.inl rfl
/-- what the invariant says of the two skies, in these words -/
theorem inv_k (h : Inv ω) : mk ω = ck ω 1 ∧ mn ω = cn ω 1 ∧ (0 ≤ ck ω 1 ∧ ck ω 1 ≤ 6) ∧ (2 ≤ cn ω 1 ∧ cn ω 1 ≤ 6) := ⟨h.2.1.2.2.2.2.1, h.2.1.2.2.2.1, h.2.2.1.2.1, h.2.2.1.1⟩
theorem inv_V (h : Inv ω) {i f : Nat} (hi : i < 6) (hf : f < 5) : mV ω i f = cV ω 1 i f := by
  have e : ((1 : Int) + 4 + (i : Int)).toNat = 5 + i := by omega
  unfold cV
  rw [e]
  exact h.2.1.1 i hi f hf
theorem inv_T (h : Inv ω) {i : Nat} (hi : i < 6) : mT ω i = cT ω 1 i := h.2.1.2.1 i hi
theorem inv_C (h : Inv ω) {i : Nat} (hi : i < 5) : mC ω i = cC ω 1 i := h.2.1.2.2.1 i hi
theorem inv_on (h : Inv ω) {c : Int} : fOn (mV ω) c (mk ω).toNat = fOn (cV ω 1) c (ck ω 1).toNat := by
  obtain ⟨e1, -, e3, -⟩ := inv_k h
  rw [e1]
  exact fOn_c (fun i hi => inv_V h (by omega) (by omega))
theorem k_circleOf (h : Inv ω) (c w : Int) : Pair 100 181 [some (.inr (.inr 0)), some (.inl c), some (.inl w)] [some (.inr (.inr 53)), some (.inl c), some (.inl w)] ω := by
  have h0 := h.1
  obtain ⟨e1, e2, e3, e4⟩ := inv_k h
  have p1 := pX6_circleOf_0 0 c w ω (i_0 h0) (by simp only [Int.toNat_zero, f_0_0 h0]; exact i_1 h0)
  simp only [Int.toNat_zero, f_0_0 h0, c_hasCircle h0 W1, am_bi_s, Int.reduceToNat, i_0 h0, i_1 h0, if_true, f_1_1 h0, f_1_2 h0, c_hasAbove h0 W1 e4, c_shipsOn h0 W1 e3, c_r2 h0] at p1
  have p2 := fun ω' (b : Bs ω') (hn : mn ω' = mn ω) (hk : mk ω' = mk ω) => pX7_circleOf_0 53 c w ω' (i_53 b)
  by_cases hc : 0 ≤ c ∧ c < cn ω 1
  · rw [b01_pos hc] at p1
    simp only [show ¬ (1 : Int) = 0 by omega, not_false_eq_true, if_true, n_2 h0 hc.1 (by omega)] at p1
    by_cases w0 : w = 0
    · subst w0
      simp only [if_true] at p1
      refine pair_same h p1 ?_
      rw [pX7_circleOf_0 _ _ _ _ (i_53 h0)]
      simp only [m_isCircle h0 (by omega), am_bi_s, e2, b01_pos hc, show ¬ (1 : Int) = 0 by omega, if_false, m_in1, not_true, not_false_eq_true, if_true, i_53 h0, Int.reduceToNat, f_53_4 h0, n_57 h0 hc.1 (by omega)]
      rw [if_pos (by rw [b01_0]; omega)]
      have := inv_T h (i := c.toNat) (by omega)
      unfold mT cT at this
      simp only [this]
      rfl
    · rw [if_neg w0] at p1
      by_cases w1 : w = 1
      · subst w1
        simp only [if_true] at p1
        by_cases hA : 0 ≤ c ∧ c < cn ω 1 - 1
        · rw [b01_pos hA] at p1
          simp only [show ¬ (1 : Int) = 0 by omega, if_false, n_3 h0 hA.1 (by omega), if_true] at p1
          refine pair_same h p1 ?_
          rw [pX7_circleOf_0 _ _ _ _ (i_53 h0)]
          simp only [m_isCircle h0 (by omega), am_bi_s, e2, b01_pos hc, show ¬ (1 : Int) = 0 by omega, if_false, m_in1, not_true, not_false_eq_true, if_true, i_53 h0, Int.reduceToNat, f_53_5 h0, n_58 h0 hc.1 (by omega), show ¬ (1 : Int) = 2 by omega]
          rw [if_pos (by rw [b01_0]; omega), if_pos (by have e5 : am_get ω 53 3 = cn ω 1 := e2; rw [e5, am_w_s (by omega) (by omega)]; omega)]
          have := inv_C h (i := c.toNat) (by omega)
          unfold mC cC at this
          simp only [this]
          rfl
        · rw [b01_neg hA] at p1
          simp only [if_true] at p1
          refine pair_same h p1 ?_
          rw [pX7_circleOf_0 _ _ _ _ (i_53 h0)]
          simp only [m_isCircle h0 (by omega), am_bi_s, e2, b01_pos hc, show ¬ (1 : Int) = 0 by omega, if_false, m_in1, not_true, not_false_eq_true, if_true, i_53 h0, Int.reduceToNat, f_53_5 h0, n_58 h0 hc.1 (by omega), show ¬ (1 : Int) = 2 by omega]
          rw [if_pos (by rw [b01_0]; omega), if_neg (by have e5 : am_get ω 53 3 = cn ω 1 := e2; rw [e5, am_w_s (by omega) (by omega)]; omega)]
      · rw [if_neg w1] at p1
        by_cases w2 : w = 2
        · subst w2
          simp only [if_true] at p1
          refine pair_same h p1 ?_
          rw [pX7_circleOf_0 _ _ _ _ (i_53 h0)]
          simp only [m_isCircle h0 (by omega), am_bi_s, e2, b01_pos hc, show ¬ (1 : Int) = 0 by omega, show ¬ (2 : Int) = 0 by omega, if_false, m_in1, not_true, not_false_eq_true, if_true, i_53 h0, m_those h0 (by omega), inv_on h]
          rw [if_pos (by rw [b01_0]; omega)]
        · rw [if_neg w2] at p1
          refine pair_ref h 0 (by omega) p1 ?_
          have b := rfz_bs (k := 0) h0
          rw [pX7_circleOf_0 _ _ _ _ (i_53 b)]
          simp only [m_isCircle b (by rw [mn_rfz]; omega), am_bi_s, mn_rfz, e2, b01_pos hc, show ¬ (1 : Int) = 0 by omega, if_false, m_in1, if_true, i_53 b, m_r2 b]
          rw [if_neg (by rw [b01_0]; omega)]
  · rw [b01_neg hc] at p1
    simp only [not_true, if_false] at p1
    refine pair_ref h 0 (by omega) p1 ?_
    have b := rfz_bs (k := 0) h0
    rw [pX7_circleOf_0 _ _ _ _ (i_53 b)]
    simp only [m_isCircle b (by rw [mn_rfz]; omega), am_bi_s, mn_rfz, e2, b01_neg hc, if_true, i_53 b, m_r2 b]
theorem k_shipOf (h : Inv ω) (s w : Int) : Pair 99 180 [some (.inr (.inr 0)), some (.inl s), some (.inl w), none] [some (.inr (.inr 53)), some (.inl s), some (.inl w)] ω := by
  have h0 := h.1
  obtain ⟨e1, e2, e3, e4⟩ := inv_k h
  have p1 := pX6_shipOf_0 0 s w ω (i_0 h0) (by simp only [Int.toNat_zero, f_0_0 h0]; exact i_1 h0)
  simp only [Int.toNat_zero, f_0_0 h0, c_hasShip h0 W1, am_bi_s, Int.reduceToNat, i_0 h0, i_1 h0, if_true, f_1_4 h0, c_r2 h0] at p1
  by_cases hc : 0 ≤ s ∧ s < ck ω 1
  · obtain ⟨i, rfl⟩ : ∃ i : Nat, s = i := ⟨s.toNat, by omega⟩
    have hi : i < 6 := by omega
    have eV : am_get ω 4 i = 1 + 4 + (i : Int) := w_V h0 W1 hi
    have iS : am_ina ω 4 (i : Int) = true := ina_S h0 W1 (by omega) (by omega)
    have iV := is_V h0 W1 hi
    rw [b01_pos hc] at p1
    simp only [show ¬ (1 : Int) = 0 by omega, not_false_eq_true, if_true, Int.toNat_natCast, eV, iS, iV] at p1
    have p2 := pX7_shipOf_0 53 i w ω (i_53 h0)
    simp only [m_isShip h0 (by omega), am_bi_s, e1, b01_pos hc, show ¬ (1 : Int) = 0 by omega, not_false_eq_true, if_true, i_53 h0, Int.reduceToNat, Int.toNat_natCast, f_53_7 h0, f_53_8 h0, f_53_9 h0, f_53_10 h0, f_53_11 h0, n_59 h0 (i := (i : Int)) (by omega) (by omega), n_60 h0 (i := (i : Int)) (by omega) (by omega), n_61 h0 (i := (i : Int)) (by omega) (by omega), n_62 h0 (i := (i : Int)) (by omega) (by omega), n_63 h0 (i := (i : Int)) (by omega) (by omega)] at p2
    have g0 : am_get ω 59 i = am_get ω (1 + 4 + (i : Int)).toNat 0 := inv_V h (f := 0) hi (by omega)
    have g1 : am_get ω 60 i = am_get ω (1 + 4 + (i : Int)).toNat 1 := inv_V h (f := 1) hi (by omega)
    have g2 : am_get ω 61 i = am_get ω (1 + 4 + (i : Int)).toNat 2 := inv_V h (f := 2) hi (by omega)
    have g3 : am_get ω 62 i = am_get ω (1 + 4 + (i : Int)).toNat 3 := inv_V h (f := 3) hi (by omega)
    have g4 : am_get ω 63 i = am_get ω (1 + 4 + (i : Int)).toNat 4 := inv_V h (f := 4) hi (by omega)
    rw [g0, g1, g2, g3, g4] at p2
    by_cases w0 : w = 0
    · rw [if_pos w0] at p1 p2
      exact pair_same h p1 p2
    rw [if_neg w0] at p1 p2
    by_cases w1 : w = 1
    · rw [if_pos w1] at p1 p2
      exact pair_same h p1 p2
    rw [if_neg w1] at p1 p2
    by_cases w2 : w = 2
    · rw [if_pos w2] at p1 p2
      exact pair_same h p1 p2
    rw [if_neg w2] at p1 p2
    by_cases w3 : w = 3
    · rw [if_pos w3] at p1 p2
      exact pair_same h p1 p2
    rw [if_neg w3] at p1 p2
    by_cases w4 : w = 4
    · rw [if_pos w4] at p1 p2
      exact pair_same h p1 p2
    rw [if_neg w4] at p1
    refine pair_ref h 0 (by omega) p1 ?_
    have b := rfz_bs (k := 0) h0
    rw [pX7_shipOf_0 _ _ _ _ (i_53 b)]
    simp only [m_isShip b (by rw [mk_rfz]; omega), am_bi_s, mk_rfz, e1, b01_pos hc, show ¬ (1 : Int) = 0 by omega, not_false_eq_true, if_true, if_neg w0, if_neg w1, if_neg w2, if_neg w3, if_neg w4, i_53 b, m_r2 b]
  · rw [b01_neg hc] at p1
    simp only [not_true, if_false] at p1
    refine pair_ref h 0 (by omega) p1 ?_
    have b := rfz_bs (k := 0) h0
    rw [pX7_shipOf_0 _ _ _ _ (i_53 b)]
    simp only [m_isShip b (by rw [mk_rfz]; omega), am_bi_s, mk_rfz, e1, b01_neg hc, not_true, if_false, i_53 b, if_true, m_r2 b]
/-- a place of the present and the model's are changed alike -/
theorem inv_putV (h : Inv ω) {i f : Nat} (hi : i < 6) (hf : f < 5) {v : Int} (hO : O_sky (am_put (am_put ω (5 + i) f v) (59 + f) i v).2.1 1) : Inv (am_put (am_put ω (5 + i) f v) (59 + f) i v) := by
  have h0 := h.1
  have s1 : ∀ i, i < 6 → sh_0[5 + i]? = some (4, 5) := by decide
  have s2 : ∀ f, f < 5 → sh_0[59 + f]? = some (100, 6) := by decide
  have r1 : ∀ f, f < 5 → ((decide (4 < 8) && decide (am_fk 4 f = 2)) || decide (102 ≤ 4)) = false := by decide
  have d1 : Dc ω (am_put ω (5 + i) f v) := Dc.put (by rw [am_rp_at (bs_sh h0 (s1 i hi))]; exact r1 f hf)
  have d : Dc ω (am_put (am_put ω (5 + i) f v) (59 + f) i v) := d1.tr (Dc.put (am_rp_at (bs_sh (h0.dc d1) (s2 f hf))))
  have e : ∀ a j, ¬ ((a = 5 + i ∧ j = f) ∨ (a = 59 + f ∧ j = i)) → (am_put (am_put ω (5 + i) f v) (59 + f) i v).2.1 a j = ω.2.1 a j := fun a j g => (if_neg (fun q => g (Or.inr q))).trans (if_neg (fun q => g (Or.inl q)))
  refine inv_kp _ h d e (Or.inr ?_) (Or.inr hO) (Or.inl (fun a k s b => by unfold S_tape at s; omega)) (Or.inl (fun a k s b => by unfold S_shelf at s; omega)) (Or.inl (fun a k s b => by unfold S_ref at s; omega)) (Or.inl (fun a k s b => by unfold S_img at s; omega))
  obtain ⟨q1, q2, q3, q4, q5, q6, q7, q8⟩ := h.2.1
  refine ⟨fun i' hi' f' hf' => ?_, fun j hj => ?_, fun j hj => ?_, ?_, ?_, ?_, ?_, ?_⟩
  · by_cases g : i' = i ∧ f' = f
    · obtain ⟨rfl, rfl⟩ := g
      have a1 : (am_put (am_put ω (5 + i') f' v) (59 + f') i' v).2.1 (59 + f') i' = v := if_pos ⟨rfl, rfl⟩
      have a2 : (am_put (am_put ω (5 + i') f' v) (59 + f') i' v).2.1 (5 + i') f' = v := (if_neg (by omega)).trans (if_pos ⟨rfl, rfl⟩)
      rw [a1, a2]
    · rw [e _ _ (by omega), e _ _ (by omega)]; exact q1 i' hi' f' hf'
  · rw [e _ _ (by omega), e _ _ (by omega)]; exact q2 j hj
  · rw [e _ _ (by omega), e _ _ (by omega)]; exact q3 j hj
  all_goals (rw [e _ _ (by omega), e _ _ (by omega)]; assumption)
theorem osky_putV (h : Inv ω) {i f : Nat} (hi : i < 6) (hf : f < 5) {v : Int} (hO : (i : Int) < ck ω 1 → O_ship (cn ω 1) (cT ω 1) (fun j => if j = f then v else ω.2.1 (5 + i) j)) : O_sky (am_put (am_put ω (5 + i) f v) (59 + f) i v).2.1 1 := by
  obtain ⟨q1, q2, q3, q4, q5, q6⟩ := h.2.2.1
  have e : ∀ a j, ¬ ((a = 5 + i ∧ j = f) ∨ (a = 59 + f ∧ j = i)) → (am_put (am_put ω (5 + i) f v) (59 + f) i v).2.1 a j = ω.2.1 a j := fun a j g => (if_neg (fun q => g (Or.inr q))).trans (if_neg (fun q => g (Or.inl q)))
  unfold O_sky
  have eT : (am_put (am_put ω (5 + i) f v) (59 + f) i v).2.1 (1 + 1) = ω.2.1 (1 + 1) := funext fun k => e _ _ (by omega)
  rw [e 1 0 (by omega), e 1 3 (by omega), e 1 6 (by omega), eT]
  refine ⟨q1, q2, q3, fun j hj => by rw [e _ _ (by omega)]; exact q4 j hj, fun i' hi' => ?_, q6⟩
  by_cases g : i' = i
  · subst g
    have : (am_put (am_put ω (5 + i') f v) (59 + f) i' v).2.1 (1 + 4 + i') = fun j => if j = f then v else ω.2.1 (5 + i') j := by
      funext j
      by_cases hj : j = f
      · subst hj
        rw [if_pos rfl]
        exact (if_neg (by omega)).trans (if_pos ⟨by omega, rfl⟩)
      · rw [if_neg hj, e _ _ (by omega)]
    rw [this]
    exact hO hi'
  · have : (am_put (am_put ω (5 + i) f v) (59 + f) i v).2.1 (1 + 4 + i') = ω.2.1 (1 + 4 + i') := funext fun j => e _ _ (by have := q2.2; omega)
    rw [this]
    exact q5 i' hi'
end K2
