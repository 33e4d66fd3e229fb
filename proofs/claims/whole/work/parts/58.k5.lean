/-! ===== meets, show ===== -/
section K5
variable {ω : am_W}
/-- two that are together: their circles, places, and busy -/
def fW (v u : Nat → Int) : Prop := v 4 = 0 ∧ u 4 = 0 ∧ v 1 = u 1 ∧ v 2 = u 2
theorem c_isWith {a b : Int} (h1 : am_is ω a (4, 5) = true) (h2 : am_is ω b (4, 5) = true) : am_run (48, 0) 0 ([some (.inr (.inr a)), some (.inr (.inr b))], [], ω) = some (some (.inl (b01 (fW (am_get ω a.toNat) (am_get ω b.toNat)))), ω) := by
  rw [pX4_isWith_0 _ _ _ h1 h2]
  by_cases q1 : am_get ω a.toNat 4 = 0
  · rw [if_neg (fun z => z q1)]
    by_cases q2 : am_get ω b.toNat 4 = 0
    · rw [if_neg (fun z => z q2)]
      by_cases q3 : am_get ω a.toNat 1 = am_get ω b.toNat 1
      · rw [if_neg (fun z => z q3)]
        by_cases q4 : am_get ω a.toNat 2 = am_get ω b.toNat 2
        · rw [if_neg (fun z => z q4), b01_pos ⟨q1, q2, q3, q4⟩]
        · rw [if_pos q4, b01_neg (fun q => q4 q.2.2.2)]
      · rw [if_pos q3, b01_neg (fun q => q3 q.2.2.1)]
    · rw [if_pos q2, b01_neg (fun q => q2 q.2.1)]
  · rw [if_pos q1, b01_neg (fun q => q1 q.1)]
theorem m_meet (h : Bs ω) {i j : Nat} (hi : i < 6) (hj : j < 6) : am_run (183, 0) 0 ([some (.inr (.inr 53)), some (.inl (i : Int)), some (.inl (j : Int))], [], ω) = some (some (.inl (b01 (fW (mV ω i) (mV ω j)))), ω) := by
  rw [pX7_meet_0 _ _ _ _ (i_53 h)]
  simp only [Int.reduceToNat, f_53_11 h, f_53_8 h, f_53_9 h, Int.toNat_natCast, n_63 h (i := (i : Int)) (by omega) (by omega), n_63 h (i := (j : Int)) (by omega) (by omega), n_60 h (i := (i : Int)) (by omega) (by omega), n_60 h (i := (j : Int)) (by omega) (by omega), n_61 h (i := (i : Int)) (by omega) (by omega), n_61 h (i := (j : Int)) (by omega) (by omega), if_true]
  by_cases q1 : am_get ω 63 i = 0
  · rw [if_neg (fun z => z q1)]
    by_cases q2 : am_get ω 63 j = 0
    · rw [if_neg (fun z => z q2)]
      by_cases q3 : am_get ω 60 i = am_get ω 60 j
      · rw [if_neg (fun z => z q3)]
        by_cases q4 : am_get ω 61 i = am_get ω 61 j
        · rw [if_neg (fun z => z q4), b01_pos ⟨q1, q2, q3, q4⟩]
        · rw [if_pos q4, b01_neg (fun q => q4 q.2.2.2)]
      · rw [if_pos q3, b01_neg (fun q => q3 q.2.2.1)]
    · rw [if_pos q2, b01_neg (fun q => q2 q.2.1)]
  · rw [if_pos q1, b01_neg (fun q => q1 q.1)]
theorem inv_W (h : Inv ω) {i j : Nat} (hi : i < 6) (hj : j < 6) : fW (mV ω i) (mV ω j) ↔ fW (cV ω 1 i) (cV ω 1 j) := by
  unfold fW
  rw [inv_V h hi (by omega), inv_V h hj (by omega), inv_V h hi (by omega), inv_V h hj (by omega), inv_V h hi (by omega), inv_V h hj (by omega)]
theorem k_meets (h : Inv ω) (s o : Int) : Pair 103 194 [some (.inr (.inr 0)), some (.inl s), some (.inl o)] [some (.inr (.inr 53)), some (.inl s), some (.inl o)] ω := by
  have h0 := h.1
  obtain ⟨e1, e2, e3, e4⟩ := inv_k h
  have b := fun k => rfz_bs (k := k) h0
  have p1 := pX6_meets_0 0 s o ω (i_0 h0) (by simp only [Int.toNat_zero, f_0_0 h0]; exact i_1 h0)
  simp only [Int.toNat_zero, f_0_0 h0, c_hasPair h0 W1, am_bi_s, Int.reduceToNat, i_0 h0, i_1 h0, if_true, f_1_4 h0, c_r2 h0] at p1
  by_cases hc : (0 ≤ s ∧ s < ck ω 1) ∧ (0 ≤ o ∧ o < ck ω 1) ∧ s ≠ o
  · obtain ⟨i, rfl⟩ : ∃ i : Nat, s = i := ⟨s.toNat, by omega⟩
    obtain ⟨j, rfl⟩ : ∃ j : Nat, o = j := ⟨o.toNat, by omega⟩
    have hi : i < 6 := by omega
    have hj : j < 6 := by omega
    have eV : am_get ω 4 i = 1 + 4 + (i : Int) := w_V h0 W1 hi
    have eU : am_get ω 4 j = 1 + 4 + (j : Int) := w_V h0 W1 hj
    have iS : am_ina ω 4 (i : Int) = true := ina_S h0 W1 (by omega) (by omega)
    have iT : am_ina ω 4 (j : Int) = true := ina_S h0 W1 (by omega) (by omega)
    rw [b01_pos hc] at p1
    simp only [show ¬ (1 : Int) = 0 by omega, not_false_eq_true, if_true, Int.toNat_natCast, eV, eU, iS, iT, is_V h0 W1 hi, c_isWith (is_V h0 W1 hi) (is_V h0 W1 hj), am_bi_s] at p1
    have p2 := pX7_meets_0 53 i j ω (i_53 h0)
    simp only [m_areTwo h0 (by rw [e1]; exact e3), am_bi_s, e1, b01_pos hc, show ¬ (1 : Int) = 0 by omega, not_false_eq_true, if_true, i_53 h0, m_meet h0 hi hj] at p2
    by_cases q : fW (cV ω 1 i) (cV ω 1 j)
    · have q1 : fW (am_get ω (1 + 4 + (i : Int)).toNat) (am_get ω (1 + 4 + (j : Int)).toNat) := q
      rw [b01_pos q1, if_neg (by omega)] at p1
      rw [b01_pos ((inv_W h hi hj).mpr q), if_neg (by omega)] at p2
      exact pair_same h p1 p2
    · have q1 : ¬ fW (am_get ω (1 + 4 + (i : Int)).toNat) (am_get ω (1 + 4 + (j : Int)).toNat) := q
      rw [b01_neg q1, if_pos rfl] at p1
      rw [b01_neg (fun z => q ((inv_W h hi hj).mp z)), if_pos rfl] at p2
      exact pair_same h p1 p2
  · rw [b01_neg hc] at p1
    simp only [not_true, if_false] at p1
    refine pair_ref h 0 (by omega) p1 ?_
    rw [pX7_meets_0 _ _ _ _ (i_53 (b 0))]
    simp only [m_areTwo (b 0) (by rw [mk_rfz]; omega), am_bi_s, mk_rfz, e1, b01_neg hc, not_true, if_false, i_53 (b 0), if_true, m_r2 (b 0)]
/-- a shelf's content is changed alike, to nothing or a ship -/
theorem inv_putS (h : Inv ω) {s : Nat} (hs : s < 8) {v : Int} (hv : v = -1 ∨ (10 ≤ v ∧ v < 10 + ck ω 1)) : Inv (am_put (am_put (am_put ω (37 + 2 * s) 0 v) (37 + 2 * s) 1 0) 54 s v) := by
  have h0 := h.1
  have s1 : ∀ s, s < 8 → sh_0[37 + 2 * s]? = some (2, 3) := by decide
  have d1 : Dc ω (am_put ω (37 + 2 * s) 0 v) := Dc.put (am_rp_at (bs_sh h0 (s1 s hs)))
  have d2 : Dc ω (am_put (am_put ω (37 + 2 * s) 0 v) (37 + 2 * s) 1 0) := d1.tr (Dc.put (am_rp_at (bs_sh (h0.dc d1) (s1 s hs))))
  have d : Dc ω (am_put (am_put (am_put ω (37 + 2 * s) 0 v) (37 + 2 * s) 1 0) 54 s v) := d2.tr (Dc.put (am_rp_at (bs_sh (h0.dc d2) (a := 54) rfl)))
  have e : ∀ a j, ¬ ((a = 37 + 2 * s ∧ j < 2) ∨ (a = 54 ∧ j = s)) → (am_put (am_put (am_put ω (37 + 2 * s) 0 v) (37 + 2 * s) 1 0) 54 s v).2.1 a j = ω.2.1 a j := fun a j g => (if_neg (fun q => g (Or.inr q))).trans ((if_neg (fun q => g (Or.inl ⟨q.1, by omega⟩))).trans (if_neg (fun q => g (Or.inl ⟨q.1, by omega⟩))))
  refine inv_kp _ h d e (Or.inl (fun a k s b => by unfold S_sky at s; omega)) (Or.inl (fun a k s b => by unfold S_osky at s; omega)) (Or.inl (fun a k s b => by unfold S_tape at s; omega)) (Or.inr ?_) (Or.inl (fun a k s b => by unfold S_ref at s; omega)) (Or.inl (fun a k s b => by unfold S_img at s; omega))
  intro t ht
  obtain ⟨q1, q2, q3⟩ := h.2.2.2.2.1 t ht
  have e5 : (am_put (am_put (am_put ω (37 + 2 * s) 0 v) (37 + 2 * s) 1 0) 54 s v).2.1 1 3 = ω.2.1 1 3 := e _ _ (by omega)
  by_cases g : t = s
  · subst g
    have a1 : (am_put (am_put (am_put ω (37 + 2 * t) 0 v) (37 + 2 * t) 1 0) 54 t v).2.1 54 t = v := if_pos ⟨rfl, rfl⟩
    have a2 : (am_put (am_put (am_put ω (37 + 2 * t) 0 v) (37 + 2 * t) 1 0) 54 t v).2.1 (37 + 2 * t) 0 = v := (gp_cell (ω := am_put (am_put ω (37 + 2 * t) 0 v) (37 + 2 * t) 1 0) (a := 54) (k := t) (v := v) (a' := 37 + 2 * t) (k' := 0) (by omega)).trans ((gp_place (by omega)).trans gp_same)
    rw [a1, a2, e5]
    refine ⟨rfl, fun j hj => by rw [e _ _ (by omega), e _ _ (by omega)]; exact q2 j hj, ?_⟩
    rcases hv with hv | hv
    · exact Or.inl hv
    · exact Or.inr (Or.inr hv)
  · rw [e5, e 54 t (by omega), e (37 + 2 * t) 0 (by omega), e (37 + 2 * t) 1 (by omega), e 55 t (by omega)]
    exact ⟨q1, fun j hj => by rw [e _ _ (by omega), e _ _ (by omega)]; exact q2 j hj, q3⟩
theorem k_show (h : Inv ω) (s v : Int) : Pair 89 161 [some (.inr (.inr 0)), some (.inl s), some (.inl v)] [some (.inr (.inr 53)), some (.inl s), some (.inl v)] ω := by
  have h0 := h.1
  obtain ⟨e1, e2, e3, e4⟩ := inv_k h
  have b := fun k => rfz_bs (k := k) h0
  have p1 := pX6_show_0 0 s v ω
  simp only [c_shelf1, Int.toNat_zero, f_0_0 h0, c_hasShip h0 W1, am_bi_s, i_0 h0, i_1 h0, if_true, c_r2 h0] at p1
  have s1 : ∀ s, s < 8 → sh_0[37 + 2 * s]? = some (2, 3) := by decide
  by_cases hs : 0 ≤ s ∧ s ≤ 7
  · rw [b01_pos hs] at p1
    simp only [show ¬ (1 : Int) = 0 by omega, if_false] at p1
    obtain ⟨t, rfl⟩ : ∃ t : Nat, s = t := ⟨s.toNat, by omega⟩
    have ht : t < 8 := by omega
    have eA : ((37 + 2 * t : Nat) : Int).toNat = 37 + 2 * t := Int.toNat_natCast _
    by_cases hv : v = -1
    · rw [if_pos hv, pX6_show_30 _ _ _ _ (i_0 h0), if_neg (fun z => z hv)] at p1
      simp only [Int.toNat_zero, f_0_4 h0, ina_33 h0 (i := (t : Int)) (by omega) (by omega), if_true, Int.reduceToNat, Int.toNat_natCast, g_shelf h0 ht, is_shelf h0 ht, pX2_beEmpty_0 _ _ (is_shelf h0 ht), am_bv_s] at p1
      have b1 : Bs (am_put (am_put ω (37 + 2 * t) 0 (-1)) (37 + 2 * t) 1 0) := (h0.put (s1 t ht) rfl).put (s1 t ht) rfl
      have c2 := pX7_show_0 53 t v (am_put (am_put ω (37 + 2 * t) 0 (-1)) (37 + 2 * t) 1 0)
      rw [bi_v m_in1, b01_pos hs, if_neg (by omega), if_pos hv, pX7_show_30 _ _ _ _ (i_53 b1), if_neg (fun z => z hv)] at c2
      simp only [Int.reduceToNat, f_53_0 b1, n_54 b1 (i := (t : Int)) (by omega) (by omega), if_true, Int.toNat_natCast] at c2
      exact ⟨_, _, _, p1, b1, rfl, c2, rfl, inv_putS h ht (Or.inl rfl)⟩
    · rw [if_neg hv] at p1
      by_cases hk : 0 ≤ v ∧ v < ck ω 1
      · rw [b01_pos hk] at p1
        simp only [show ¬ (1 : Int) = 0 by omega, not_false_eq_true, if_true] at p1
        rw [pX6_show_30 _ _ _ _ (i_0 h0), if_pos hv] at p1
        simp only [Int.toNat_zero, f_0_4 h0, ina_33 h0 (i := (t : Int)) (by omega) (by omega), if_true, Int.reduceToNat, Int.toNat_natCast, g_shelf h0 ht, is_shelf h0 ht, pX2_beShip_0 _ _ _ (is_shelf h0 ht), am_bv_s, am_w_s (z := 10 + v) (by omega) (by omega)] at p1
        have b1 : Bs (am_put (am_put ω (37 + 2 * t) 0 (10 + v)) (37 + 2 * t) 1 0) := (h0.put (s1 t ht) rfl).put (s1 t ht) rfl
        have k1 : mk (am_put (am_put ω (37 + 2 * t) 0 (10 + v)) (37 + 2 * t) 1 0) = ck ω 1 := (gp_cell (by omega)).trans ((gp_cell (by omega)).trans e1)
        have c2 := pX7_show_0 53 t v (am_put (am_put ω (37 + 2 * t) 0 (10 + v)) (37 + 2 * t) 1 0)
        rw [bi_v m_in1, b01_pos hs, if_neg (by omega), if_neg hv, if_pos (i_53 b1), bi_v (m_isShip b1 (by rw [k1]; exact e3)), k1, b01_pos hk, if_pos (by omega), pX7_show_30 _ _ _ _ (i_53 b1), if_pos hv] at c2
        simp only [Int.reduceToNat, f_53_0 b1, n_54 b1 (i := (t : Int)) (by omega) (by omega), if_true, Int.toNat_natCast, am_w_s (z := 10 + v) (by omega) (by omega)] at c2
        exact ⟨_, _, _, p1, b1, rfl, c2, rfl, inv_putS h ht (Or.inr (by omega))⟩
      · rw [b01_neg hk] at p1
        simp only [not_true, if_false] at p1
        refine pair_ref h 0 (by omega) p1 ?_
        rw [pX7_show_0, bi_v m_in1, b01_pos hs, if_neg (by omega), if_neg hv, if_pos (i_53 (b 0)), bi_v (m_isShip (b 0) (by rw [mk_rfz]; omega)), mk_rfz, e1, b01_neg hk, if_neg (by omega), if_pos (i_53 (b 0)), bi_v (m_r2 (b 0))]
  · rw [b01_neg hs] at p1
    simp only [if_true] at p1
    refine pair_ref h 0 (by omega) p1 ?_
    rw [pX7_show_0, bi_v m_in1, b01_neg hs, if_pos rfl, if_pos (i_53 (b 0)), bi_v (m_r2 (b 0))]
end K5
