/-! ===== element; rows that are refused ===== -/
section K6
variable {ω : am_W}
theorem c_isRow {a : Int} (h1 : am_is ω a (2, 3) = true) : am_run (25, 0) 0 ([some (.inr (.inr a))], [], ω) = some (some (.inl (b01 (0 ≤ am_get ω a.toNat 0 ∧ am_get ω a.toNat 0 ≤ 4))), ω) := by
  rw [pX2_isRow_0 _ _ h1]
  by_cases q1 : am_get ω a.toNat 0 < 0
  · rw [if_pos q1, b01_neg (by omega)]
  · rw [if_neg q1]
    by_cases q2 : 5 ≤ am_get ω a.toNat 0
    · rw [if_pos q2, b01_neg (by omega)]
    · rw [if_neg q2, b01_pos (by omega)]
theorem m_isRow (h : Bs ω) {t : Nat} (ht : t < 8) : am_run (154, 0) 0 ([some (.inr (.inr 53)), some (.inl (t : Int))], [], ω) = some (some (.inl (b01 (0 ≤ am_get ω 54 t ∧ am_get ω 54 t ≤ 4))), ω) := by
  rw [pX7_isRow_0 _ _ _ (i_53 h)]
  simp only [Int.reduceToNat, f_53_0 h, n_54 h (i := (t : Int)) (by omega) (by omega), if_true, Int.toNat_natCast, m_in1, am_bi_s, b01_nar]
theorem k_element (h : Inv ω) (s i : Int) : Pair 87 159 [some (.inr (.inr 0)), some (.inl s), some (.inl i)] [some (.inr (.inr 53)), some (.inl s), some (.inl i)] ω := by
  have h0 := h.1
  have p1 := pX6_element_0 0 s i ω
  have p2 := pX7_element_0 53 s i ω
  simp only [c_shelf1, am_bi_s, Int.toNat_zero, i_0 h0, if_true] at p1
  simp only [m_in1, am_bi_s, i_53 h0, if_true, Int.reduceToNat] at p2
  by_cases hs : 0 ≤ s ∧ s ≤ 7
  · obtain ⟨t, rfl⟩ : ∃ t : Nat, s = t := ⟨s.toNat, by omega⟩
    have ht : t < 8 := by omega
    obtain ⟨q1, q2, q3⟩ := h.2.2.2.2.1 t ht
    have g54 : am_get ω 54 t = am_get ω (37 + 2 * t) 0 := q1
    rw [b01_pos hs] at p1 p2
    simp only [show ¬ (1 : Int) = 0 by omega, if_false, Int.toNat_zero, i_0 h0, f_0_4 h0, ina_33 h0 (i := (t : Int)) (by omega) (by omega), if_true, Int.reduceToNat, Int.toNat_natCast, g_shelf h0 ht, is_shelf h0 ht, c_isRow (is_shelf h0 ht), am_bi_s] at p1
    simp only [show ¬ (1 : Int) = 0 by omega, if_false, i_53 h0, m_in1, m_isRow h0 ht, am_bi_s, g54, f_53_1 h0, f_53_2 h0, n_55 h0 (i := (t : Int)) (by omega) (by omega), if_true, Int.reduceToNat, Int.toNat_natCast] at p2
    by_cases hr : 0 ≤ am_get ω (37 + 2 * t) 0 ∧ am_get ω (37 + 2 * t) 0 ≤ 4
    · rw [b01_pos hr] at p1 p2
      have q4 : am_get ω 55 t = am_get ω (37 + 2 * t) 1 ∧ 0 ≤ am_get ω (37 + 2 * t) 1 ∧ am_get ω (37 + 2 * t) 1 ≤ 40 := by
        unfold am_get at hr ⊢
        omega
      simp only [show ¬ (1 : Int) = 0 by omega, if_false, i_53 h0, if_true, q4.1, am_w_s (z := am_get ω (37 + 2 * t) 1 - 1) (by omega) (by omega)] at p2
      simp only [show ¬ (1 : Int) = 0 by omega, if_false] at p1
      by_cases hi : 0 ≤ i ∧ i ≤ am_get ω (37 + 2 * t) 1 - 1
      · obtain ⟨j, rfl⟩ : ∃ j : Nat, i = j := ⟨i.toNat, by omega⟩
        rw [if_neg (by omega), if_pos (by omega)] at p1
        simp only [g_elem h0 ht, in_elem h0 ht (i := (j : Int)) (by omega) (by omega), if_true, Int.toNat_natCast] at p1
        have ew : am_w (am_w (40 * (t : Int)) + (j : Int)) = ((40 * t + j : Nat) : Int) := by
          rw [am_w_s (z := 40 * (t : Int)) (by omega) (by omega), am_w_s (by omega) (by omega)]
          omega
        rw [b01_pos hi, ew, if_neg (by omega), if_pos (n_56 h0 (by omega) (by omega)), Int.toNat_natCast] at p2
        have g : am_get ω 56 (40 * t + j) = am_get ω (38 + 2 * t) j := q2 j (by omega)
        rw [g] at p2
        exact pair_same h p1 p2
      · rw [b01_neg hi, if_pos rfl] at p2
        refine pair_same h (z := .inr (.inl 0)) ?_ p2
        rw [p1]
        by_cases g : i < 0
        · rw [if_pos g]
        · rw [if_neg g, if_neg (by omega)]
    · rw [b01_neg hr, if_pos rfl] at p1 p2
      exact pair_same h p1 p2
  · rw [b01_neg hs, if_pos rfl] at p1 p2
    exact pair_same h p1 p2
/-- what a row that is wanted is refused with: 0 if it isn't -/
noncomputable def rrF (ok : Prop) (c z w : Int) : Int := @ite _ ok (Classical.propDecidable ok) (if 10 ≤ c then -3 else if c = -1 then -4 else if z < w then -2 else 0) (-2)
theorem rrF_t {ok : Prop} {c z w : Int} (h : ok) : rrF ok c z w = if 10 ≤ c then -3 else if c = -1 then -4 else if z < w then -2 else 0 := @if_pos ok (Classical.propDecidable ok) h _ _ _
theorem rrF_f {ok : Prop} {c z w : Int} (h : ¬ ok) : rrF ok c z w = -2 := @if_neg ok (Classical.propDecidable ok) h _ _ _
theorem c_rowRef (h : Bs ω) {s f w : Int} : am_run (131, 0) 0 ([some (.inr (.inr 0)), some (.inl s), some (.inl f), some (.inl w), none], [], ω) = some (some (.inl (rrF ((0 ≤ s ∧ s ≤ 7) ∧ f ≠ 0) (am_get ω (37 + 2 * s.toNat) 0) (am_get ω (37 + 2 * s.toNat) 1) w)), ω) := by
  rw [pX6_rowRefusal_0, bi_v c_shelf1]
  by_cases hs : 0 ≤ s ∧ s ≤ 7
  · rw [b01_pos hs, if_neg (by omega)]
    obtain ⟨t, rfl⟩ : ∃ t : Nat, s = t := ⟨s.toNat, by omega⟩
    have ht : t < 8 := by omega
    by_cases hf : f = 0
    · rw [if_neg (fun z => z hf), rrF_f (fun z => z.2 hf)]
    · rw [if_pos hf, rrF_t ⟨hs, hf⟩]
      simp only [Int.toNat_zero, i_0 h, if_true, f_0_4 h, ina_33 h (i := (t : Int)) (by omega) (by omega), Int.reduceToNat, Int.toNat_natCast, g_shelf h ht, is_shelf h ht, pX2_isShip_0 _ _ (is_shelf h ht), pX2_isEmpty_0 _ _ (is_shelf h ht)]
      by_cases g1 : 10 ≤ am_get ω (37 + 2 * t) 0
      · simp only [g1, if_true, show ¬ am_get ω (37 + 2 * t) 0 < 10 by omega, if_false, am_bi_s, show ¬ (1 : Int) = 0 by omega]
      · simp only [g1, if_false, show am_get ω (37 + 2 * t) 0 < 10 by omega, if_true, am_bi_s]
        by_cases g2 : am_get ω (37 + 2 * t) 0 = -1
        · simp only [is_shelf h ht, pX2_isEmpty_0 _ _ (is_shelf h ht), Int.toNat_natCast, g2, if_true, not_true, if_false, am_bi_s, show ¬ (1 : Int) = 0 by omega]
        · simp only [is_shelf h ht, pX2_isEmpty_0 _ _ (is_shelf h ht), Int.toNat_natCast, g2, if_false, not_false_eq_true, if_true, am_bi_s]
          by_cases g3 : w ≤ am_get ω (37 + 2 * t) 1
          · rw [if_pos g3, if_neg (by omega)]
          · rw [if_neg g3, if_pos (by omega)]
  · rw [b01_neg hs, if_pos rfl, rrF_f (fun z => hs z.1)]
theorem m_noRow_b {s : Int} (hs : ¬ (0 ≤ s ∧ s ≤ 7)) : am_run (156, 0) 0 ([some (.inr (.inr 53)), some (.inl s)], [], ω) = some (some (.inl (-2)), ω) := by
  rw [pX7_noRow_0, bi_v m_in1, b01_neg hs, if_neg (show ¬ ¬ (0 : Int) = 0 by omega)]
theorem m_noRow_o (h : Bs ω) {t : Nat} (ht : t < 8) (hc : 4 < am_get ω 54 t) : am_run (156, 0) 0 ([some (.inr (.inr 53)), some (.inl (t : Int))], [], ω) = some (some (.inl (-3)), ω) := by
  rw [pX7_noRow_0, bi_v m_in1, b01_pos (show 0 ≤ (t : Int) ∧ (t : Int) ≤ 7 by omega)]
  simp only [show ¬ (1 : Int) = 0 by omega, not_false_eq_true, if_true, i_53 h, Int.reduceToNat, f_53_0 h, n_54 h (i := (t : Int)) (by omega) (by omega), Int.toNat_natCast]
  rw [if_neg (show ¬ am_get ω 54 t ≤ 4 by omega)]
theorem m_noRow_n (h : Bs ω) {t : Nat} (ht : t < 8) (hc : am_get ω 54 t < 0) : am_run (156, 0) 0 ([some (.inr (.inr 53)), some (.inl (t : Int))], [], ω) = some (some (.inl (-4)), ω) := by
  rw [pX7_noRow_0, bi_v m_in1, b01_pos (show 0 ≤ (t : Int) ∧ (t : Int) ≤ 7 by omega)]
  simp only [show ¬ (1 : Int) = 0 by omega, not_false_eq_true, if_true, i_53 h, Int.reduceToNat, f_53_0 h, n_54 h (i := (t : Int)) (by omega) (by omega), Int.toNat_natCast]
  rw [if_pos (show am_get ω 54 t ≤ 4 by omega), if_neg (show ¬ 0 ≤ am_get ω 54 t by omega)]
theorem m_noRow_r (h : Bs ω) {t : Nat} (ht : t < 8) (hc : 0 ≤ am_get ω 54 t ∧ am_get ω 54 t ≤ 4) : am_run (156, 0) 0 ([some (.inr (.inr 53)), some (.inl (t : Int))], [], ω) = some (some (.inl 0), ω) := by
  rw [pX7_noRow_0, bi_v m_in1, b01_pos (show 0 ≤ (t : Int) ∧ (t : Int) ≤ 7 by omega)]
  simp only [show ¬ (1 : Int) = 0 by omega, not_false_eq_true, if_true, i_53 h, Int.reduceToNat, f_53_0 h, n_54 h (i := (t : Int)) (by omega) (by omega), Int.toNat_natCast]
  rw [if_pos hc.2, if_pos hc.1]
/-- an element is changed alike -/
theorem inv_putE (h : Inv ω) {t j : Nat} (ht : t < 8) (hj : j < 40) {v : Int} : Inv (am_put (am_put ω (38 + 2 * t) j v) 56 (40 * t + j) v) := by
  have h0 := h.1
  have s1 : ∀ s, s < 8 → sh_0[38 + 2 * s]? = some (101, 40) := by decide
  have d1 : Dc ω (am_put ω (38 + 2 * t) j v) := Dc.put (am_rp_at (bs_sh h0 (s1 t ht)))
  have d : Dc ω (am_put (am_put ω (38 + 2 * t) j v) 56 (40 * t + j) v) := d1.tr (Dc.put (am_rp_at (bs_sh (h0.dc d1) (a := 56) rfl)))
  have e : ∀ a k, ¬ ((a = 38 + 2 * t ∧ k = j) ∨ (a = 56 ∧ k = 40 * t + j)) → (am_put (am_put ω (38 + 2 * t) j v) 56 (40 * t + j) v).2.1 a k = ω.2.1 a k := fun a k g => (if_neg (fun q => g (Or.inr q))).trans (if_neg (fun q => g (Or.inl q)))
  refine inv_kp _ h d e (Or.inl (fun a k s b => by unfold S_sky at s; omega)) (Or.inl (fun a k s b => by unfold S_osky at s; omega)) (Or.inl (fun a k s b => by unfold S_tape at s; omega)) (Or.inr ?_) (Or.inl (fun a k s b => by unfold S_ref at s; omega)) (Or.inl (fun a k s b => by unfold S_img at s; omega))
  intro s hs
  obtain ⟨q1, q2, q3⟩ := h.2.2.2.2.1 s hs
  rw [e 1 3 (by omega), e 54 s (by omega), e (37 + 2 * s) 0 (by omega), e (37 + 2 * s) 1 (by omega), e 55 s (by omega)]
  refine ⟨q1, fun i hi => ?_, q3⟩
  by_cases g : s = t ∧ i = j
  · obtain ⟨rfl, rfl⟩ := g
    have a1 : (am_put (am_put ω (38 + 2 * s) i v) 56 (40 * s + i) v).2.1 56 (40 * s + i) = v := if_pos ⟨rfl, rfl⟩
    have a2 : (am_put (am_put ω (38 + 2 * s) i v) 56 (40 * s + i) v).2.1 (38 + 2 * s) i = v := (gp_cell (ω := am_put ω (38 + 2 * s) i v) (a := 56) (k := 40 * s + i) (v := v) (a' := 38 + 2 * s) (k' := i) (by omega)).trans gp_same
    rw [a1, a2]
  · rw [e _ _ (by omega), e _ _ (by omega)]
    exact q2 i hi
/-- what a row of a sort keeps of a number -/
def fN (c v : Int) : Int := if c = 0 then (am_w v).bmod 256 else if c = 1 then (am_w v).bmod 65536 else if c = 2 then am_w v else if c = 3 then v else if c = 4 then (if am_cmp v 0 = 0 then 0 else 1) else v
theorem c_narrowed {a v : Int} (h1 : am_is ω a (2, 3) = true) : am_run (32, 0) 0 ([some (.inr (.inr a)), some (.inr (.inl v)), none], [], ω) = some (some (.inr (.inl (fN (am_get ω a.toNat 0) v))), ω) := by
  rw [pX2_narrowed_0 _ _ _ h1]
  unfold fN
  by_cases g0 : am_get ω a.toNat 0 = 0
  · rw [if_pos g0, if_pos g0]
  rw [if_neg g0, if_neg g0]
  by_cases g1 : am_get ω a.toNat 0 = 1
  · rw [if_pos g1, if_pos g1]
  rw [if_neg g1, if_neg g1]
  by_cases g2 : am_get ω a.toNat 0 = 2
  · rw [if_pos g2, if_pos g2]
  rw [if_neg g2, if_neg g2]
  by_cases g3 : am_get ω a.toNat 0 = 3
  · rw [if_pos g3, if_pos g3]
  rw [if_neg g3, if_neg g3]
  by_cases g4 : am_get ω a.toNat 0 = 4
  · rw [if_pos g4, if_pos g4]
    by_cases g5 : am_cmp v 0 = 0
    · rw [if_pos g5, if_pos g5]
    · rw [if_neg g5, if_neg g5]
  · rw [if_neg g4, if_neg g4]
theorem m_set_60 (h : Bs ω) {t j : Nat} (ht : t < 8) (hj : j < 40) {v z y : Int} (hc : 0 ≤ am_get ω 54 t ∧ am_get ω 54 t ≤ 4) (hy : y = if am_get ω 54 t = 0 then (am_w v).bmod 256 else v) : am_run (157, 0) 60 ([some (.inr (.inr 53)), some (.inl (t : Int)), some (.inl (j : Int)), some (.inr (.inl v)), none, some (.inl z), some (.inr (.inl y)), none], [], ω) = some (some (.inl 1), am_put ω 56 (40 * t + j) (fN (am_get ω 54 t) v)) := by
  have ew : am_w (am_w (40 * (t : Int)) + (j : Int)) = ((40 * t + j : Nat) : Int) := by
    rw [am_w_s (z := 40 * (t : Int)) (by omega) (by omega), am_w_s (by omega) (by omega)]
    omega
  have nE : am_in ω 56 101 ((40 * t + j : Nat) : Int) = true := n_56 h (by omega) (by omega)
  rw [pX7_set_60 _ _ _ _ _ _ _ (i_53 h)]
  simp only [Int.reduceToNat, f_53_0 h, n_54 h (i := (t : Int)) (by omega) (by omega), if_true, Int.toNat_natCast, pX7_set_76 _ _ _ _ _ _ _ (i_53 h), pX7_set_91 _ _ _ _ _ _ _ (i_53 h), f_53_2 h, ew, nE, hy]
  have h5 : am_get ω 54 t = 0 ∨ am_get ω 54 t = 1 ∨ am_get ω 54 t = 2 ∨ am_get ω 54 t = 3 ∨ am_get ω 54 t = 4 := by omega
  unfold fN
  rcases h5 with g | g | g | g | g
  · simp [g]
  · simp [g]
  · simp [g]
  · simp [g]
  · simp only [g]
    by_cases g5 : am_cmp v 0 = 0 <;> simp [g5]
theorem k_set (h : Inv ω) (s i v : Int) : Pair 85 157 [some (.inr (.inr 0)), some (.inl s), some (.inl i), some (.inr (.inl v)), none, none, none] [some (.inr (.inr 53)), some (.inl s), some (.inl i), some (.inr (.inl v)), none, none, none, none] ω := by
  have h0 := h.1
  have b := fun k => rfz_bs (k := k) h0
  have g54 : ∀ k t, am_get (rfz ω k) 54 t = am_get ω 54 t := fun k t => rfz_get (by omega)
  have p1 := pX6_set_0 0 s i v ω (i_0 h0)
  rw [bi_v (c_rowRef h0)] at p1
  by_cases hs : 0 ≤ s ∧ s ≤ 7
  · rw [rrF_t ⟨hs, by omega⟩] at p1
    obtain ⟨t, rfl⟩ : ∃ t : Nat, s = t := ⟨s.toNat, by omega⟩
    have ht : t < 8 := by omega
    obtain ⟨q1, q2, q3⟩ := h.2.2.2.2.1 t ht
    have g : am_get ω 54 t = am_get ω (37 + 2 * t) 0 := q1
    simp only [Int.toNat_natCast, i_0 h0, if_true, Int.toNat_zero, f_0_4 h0, ina_33 h0 (i := (t : Int)) (by omega) (by omega), Int.reduceToNat, g_shelf h0 ht, is_shelf h0 ht, c_r2 h0, am_bi_s] at p1
    by_cases g1 : 10 ≤ am_get ω (37 + 2 * t) 0
    · rw [if_pos g1, if_neg (show ¬ (-3 : Int) = 0 by omega), c_r3 h0] at p1
      refine pair_ref h 1 (by omega) p1 ?_
      rw [pX7_set_0 _ _ _ _ _ (i_53 (b 1)), bi_v (m_noRow_o (b 1) ht (by rw [g54, g]; omega)), if_neg (show ¬ (0 : Int) ≤ -3 by omega), if_pos (i_53 (b 1)), bi_v (m_r3 (b 1))]
    · rw [if_neg g1] at p1
      by_cases g2 : am_get ω (37 + 2 * t) 0 = -1
      · rw [if_pos g2, if_neg (show ¬ (-4 : Int) = 0 by omega), c_r4 h0] at p1
        refine pair_ref h 2 (by omega) p1 ?_
        rw [pX7_set_0 _ _ _ _ _ (i_53 (b 2)), bi_v (m_noRow_n (b 2) ht (by rw [g54, g]; omega)), if_neg (show ¬ (0 : Int) ≤ -4 by omega), if_pos (i_53 (b 2)), bi_v (m_r4 (b 2))]
      · have q4 : (0 ≤ am_get ω (37 + 2 * t) 0 ∧ am_get ω (37 + 2 * t) 0 ≤ 4) ∧ am_get ω 55 t = am_get ω (37 + 2 * t) 1 ∧ 0 ≤ am_get ω (37 + 2 * t) 1 ∧ am_get ω (37 + 2 * t) 1 ≤ 40 := by
          unfold am_get at g1 g2 ⊢
          omega
        rw [if_neg g2, if_neg (show ¬ am_get ω (37 + 2 * t) 1 < 0 by omega), if_pos rfl] at p1
        by_cases hi : 0 ≤ i ∧ i ≤ am_get ω (37 + 2 * t) 1 - 1
        · obtain ⟨j, rfl⟩ : ∃ j : Nat, i = j := ⟨i.toNat, by omega⟩
          have hj : j < 40 := by omega
          rw [if_neg (by omega), if_pos (by omega), pX2_put_0 _ _ _ _ (is_shelf h0 ht), c_narrowed (is_shelf h0 ht)] at p1
          simp only [am_bl_s, Int.toNat_natCast, g_elem h0 ht, in_elem h0 ht (i := (j : Int)) (by omega) (by omega), if_true, am_bv_s] at p1
          have s1 : ∀ s, s < 8 → sh_0[38 + 2 * s]? = some (101, 40) := by decide
          have b1 : Bs (am_put ω (38 + 2 * t) j (fN (am_get ω (37 + 2 * t) 0) v)) := h0.put (s1 t ht) rfl
          have k4 : am_get (am_put ω (38 + 2 * t) j (fN (am_get ω (37 + 2 * t) 0) v)) 54 t = am_get ω (37 + 2 * t) 0 := (gp_cell (by omega)).trans g
          have k5 : am_get (am_put ω (38 + 2 * t) j (fN (am_get ω (37 + 2 * t) 0) v)) 55 t = am_get ω (37 + 2 * t) 1 := (gp_cell (by omega)).trans q4.2.1
          have c2 := pX7_set_0 53 t j v _ (i_53 b1)
          rw [bi_v (m_noRow_r b1 ht (by rw [k4]; exact q4.1)), if_pos (show (0 : Int) ≤ 0 by omega), if_pos (i_53 b1)] at c2
          simp only [Int.reduceToNat, f_53_1 b1, n_55 b1 (i := (t : Int)) (by omega) (by omega), if_true, Int.toNat_natCast, k5, am_w_s (z := am_get ω (37 + 2 * t) 1 - 1) (by omega) (by omega), m_in1, am_bi_s, b01_pos hi, show ¬ (1 : Int) = 0 by omega, not_false_eq_true, i_53 b1, f_53_0 b1, n_54 b1 (i := (t : Int)) (by omega) (by omega), k4] at c2
          have c3 : am_run (157, 0) 0 ([some (Sum.inr (Sum.inr 53)), some (Sum.inl (t : Int)), some (Sum.inl (j : Int)), some (Sum.inr (Sum.inl v)), none, none, none, none], [], am_put ω (38 + 2 * t) j (fN (am_get ω (37 + 2 * t) 0) v)) = some (some (.inl 1), am_put (am_put ω (38 + 2 * t) j (fN (am_get ω (37 + 2 * t) 0) v)) 56 (40 * t + j) (fN (am_get ω (37 + 2 * t) 0) v)) := by
            rw [c2]
            by_cases z0 : am_get ω (37 + 2 * t) 0 = 0
            · rw [if_neg (fun q => q z0), m_set_60 b1 ht hj (by rw [k4]; exact q4.1) (by rw [k4, if_pos z0]), k4]
            · rw [if_pos z0, m_set_60 b1 ht hj (by rw [k4]; exact q4.1) (by rw [k4, if_neg z0]), k4]
          exact ⟨_, _, _, p1, b1, rfl, c3, rfl, inv_putE h ht hj⟩
        · have p1' : am_run (85, 0) 0 ([some (Sum.inr (Sum.inr 0)), some (Sum.inl (t : Int)), some (Sum.inl i), some (Sum.inr (Sum.inl v)), none, none, none], [], ω) = some (some (Sum.inl (-2)), rfz ω 0) := by
            rw [p1]
            by_cases z : i < 0
            · rw [if_pos z]
            · rw [if_neg z, if_neg (by omega)]
          refine pair_ref h 0 (by omega) p1' ?_
          have k5 : am_get (rfz ω 0) 55 t = am_get ω (37 + 2 * t) 1 := (rfz_get (by omega)).trans q4.2.1
          rw [pX7_set_0 _ _ _ _ _ (i_53 (b 0)), bi_v (m_noRow_r (b 0) ht (by rw [g54, g]; exact q4.1)), if_pos (show (0 : Int) ≤ 0 by omega), if_pos (i_53 (b 0))]
          simp only [Int.reduceToNat, f_53_1 (b 0), n_55 (b 0) (i := (t : Int)) (by omega) (by omega), if_true, Int.toNat_natCast, k5, am_w_s (z := am_get ω (37 + 2 * t) 1 - 1) (by omega) (by omega), m_in1, am_bi_s, b01_neg hi, not_true, if_false, i_53 (b 0), m_r2 (b 0)]
  · rw [rrF_f (fun z => hs z.1), if_neg (by omega), if_pos (i_0 h0), bi_v (c_r2 h0)] at p1
    refine pair_ref h 0 (by omega) p1 ?_
    rw [pX7_set_0 _ _ _ _ _ (i_53 (b 0)), bi_v (m_noRow_b hs), if_neg (show ¬ (0 : Int) ≤ -2 by omega), if_pos (i_53 (b 0)), bi_v (m_r2 (b 0))]
end K6
