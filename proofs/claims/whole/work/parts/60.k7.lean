/-! ===== row ===== -/
section K7
variable {ω : am_W}
/-- places lo to hi - 1 of a cell are v -/
def fillR (ω : am_W) (a lo hi : Nat) (v : Int) : am_W := (ω.1, fun a' k' => if a' = a ∧ lo ≤ k' ∧ k' < hi then v else ω.2.1 a' k', ω.2.2)
theorem fillR_0 {a lo : Nat} {v : Int} : fillR ω a lo lo v = ω := by
  unfold fillR
  have : (fun a' k' => if a' = a ∧ lo ≤ k' ∧ k' < lo then v else ω.2.1 a' k') = ω.2.1 := funext fun a' => funext fun k' => if_neg (by omega)
  rw [this]
theorem fillR_s {a lo i : Nat} {v : Int} (h : lo ≤ i) : am_put (fillR ω a lo i v) a i v = fillR ω a lo (i + 1) v := by
  unfold fillR am_put
  congr 1
  congr 1
  funext a' k'
  show (if a' = a ∧ k' = i then v else if a' = a ∧ lo ≤ k' ∧ k' < i then v else ω.2.1 a' k') = if a' = a ∧ lo ≤ k' ∧ k' < i + 1 then v else ω.2.1 a' k'
  by_cases h1 : a' = a ∧ k' = i
  · rw [if_pos h1, if_pos (by omega)]
  · rw [if_neg h1]
    by_cases h2 : a' = a ∧ lo ≤ k' ∧ k' < i
    · rw [if_pos h2, if_pos (by omega)]
    · rw [if_neg h2, if_neg (by omega)]
theorem fillR_g {a lo hi a' k' : Nat} {v : Int} (h : ¬ (a' = a ∧ lo ≤ k' ∧ k' < hi)) : am_get (fillR ω a lo hi v) a' k' = am_get ω a' k' := if_neg h
theorem fillR_v {a lo hi k' : Nat} {v : Int} (h : lo ≤ k' ∧ k' < hi) : am_get (fillR ω a lo hi v) a k' = v := if_pos ⟨rfl, h⟩
theorem fillR_dc {a lo hi : Nat} {v : Int} (h : ∀ k, am_rp ω.1 a k = false) : Dc ω (fillR ω a lo hi v) := ⟨rfl, rfl, fun a' k' q => if_neg (fun e => by rw [e.1, h] at q; cases q)⟩
theorem j_fillL {a : Int} {v : Int} {n : Nat} (hn : n < 1000000) (hin : ∀ i : Int, 0 ≤ i → i < (n : Int) → am_in ω a 101 i = true) : ∀ d i : Nat, i + d = n → am_run (238, 0) 6 ([some (.inr (.inr a)), some (.inr (.inl v)), none, some (.inl (i : Int)), some (.inl (n : Int))], [], fillR ω a.toNat 0 i v) = some (none, fillR ω a.toNat 0 n v) := by
  intro d
  induction d with
  | zero =>
    intro i hi
    obtain rfl : i = n := by omega
    rw [pJ7_fill_d0a16_6, if_pos (by omega)]
  | succ d ih =>
    intro i hi
    rw [pJ7_fill_d0a16_6, if_neg (by omega), if_pos (show am_in (fillR ω a.toNat 0 i v) a 101 (i : Int) = true from hin _ (by omega) (by omega)), am_w_s (by omega) (by omega), Int.toNat_natCast, fillR_s (Nat.zero_le i)]
    exact ih (i + 1) (by omega)
theorem c_beRow (h : Bs ω) {t : Nat} (ht : t < 8) {c n : Int} : am_run (29, 0) 0 ([some (.inr (.inr ((37 + 2 * t : Nat) : Int))), some (.inl c), some (.inl n)], [], ω) = some (none, fillR (am_put (am_put ω (37 + 2 * t) 0 c) (37 + 2 * t) 1 n) (38 + 2 * t) 0 40 0) := by
  have s1 : ∀ s, s < 8 → sh_0[37 + 2 * s]? = some (2, 3) := by decide
  have s2 : ∀ s, s < 8 → sh_0[38 + 2 * s]? = some (101, 40) := by decide
  have b1 : Bs (am_put (am_put ω (37 + 2 * t) 0 c) (37 + 2 * t) 1 n) := (h.put (s1 t ht) rfl).put (s1 t ht) rfl
  rw [pX2_beRow_0 _ _ _ _ (is_shelf h ht)]
  simp only [Int.toNat_natCast, g_elem b1 ht]
  rw [pJ7_fill_d0a16_0, if_pos (show am_arl _ _ = true by unfold am_arl; rw [bs_ar b1 (s2 t ht)]; simp), bs_len b1 (s2 t ht)]
  have := j_fillL (ω := am_put (am_put ω (37 + 2 * t) 0 c) (37 + 2 * t) 1 n) (a := ((38 + 2 * t : Nat) : Int)) (v := 0) (n := 40) (by omega) (fun i h1 h2 => in_elem b1 ht h1 h2) 40 0 (by omega)
  rw [fillR_0, Int.toNat_natCast] at this
  exact bv_v this
theorem fillR_bs {lo hi : Nat} {v : Int} (h : Bs ω) : Bs (fillR ω 56 lo hi v) := h.dc (fillR_dc (fun k => am_rp_at (bs_sh h (a := 56) rfl)))
theorem m_row_l (h : Bs ω) {t : Nat} (ht : t < 8) {c n : Int} : ∀ d i : Nat, i + d = 40 → am_run (155, 0) 53 ([some (.inr (.inr 53)), some (.inl (t : Int)), some (.inl c), some (.inl n), some (.inl (i : Int))], [], fillR ω 56 (40 * t) (40 * t + i) 0) = some (some (.inl 1), fillR ω 56 (40 * t) (40 * t + 40) 0) := by
  intro d
  induction d with
  | zero =>
    intro i hi
    obtain rfl : i = 40 := by omega
    rw [pX7_row_53 _ _ _ _ _ _ (i_53 (fillR_bs h)), if_pos (by omega)]
  | succ d ih =>
    intro i hi
    have ew : am_w (am_w (40 * (t : Int)) + (i : Int)) = ((40 * t + i : Nat) : Int) := by
      rw [am_w_s (z := 40 * (t : Int)) (by omega) (by omega), am_w_s (by omega) (by omega)]
      omega
    have e2 : am_get (fillR ω 56 (40 * t) (40 * t + i) 0) 53 2 = 56 := f_53_2 (fillR_bs h)
    rw [pX7_row_53 _ _ _ _ _ _ (i_53 (fillR_bs h)), if_neg (by omega)]
    simp only [Int.reduceToNat, e2, ew, Int.toNat_natCast]
    rw [if_pos (n_56 (fillR_bs h) (by omega) (by omega)), am_w_s (by omega) (by omega), fillR_s (by omega)]
    exact ih (i + 1) (by omega)
theorem k_row (h : Inv ω) (s c n : Int) : Pair 84 155 [some (.inr (.inr 0)), some (.inl s), some (.inl c), some (.inl n)] [some (.inr (.inr 53)), some (.inl s), some (.inl c), some (.inl n), none] ω := by
  have h0 := h.1
  have b := fun k => rfz_bs (k := k) h0
  have p1 := pX6_row_0 0 s c n ω
  rw [bi_v c_shelf1] at p1
  by_cases hok : (0 ≤ s ∧ s ≤ 7) ∧ (0 ≤ c ∧ c ≤ 4) ∧ (0 ≤ n ∧ n ≤ 40)
  · obtain ⟨hs, hc, hn⟩ := hok
    obtain ⟨t, rfl⟩ : ∃ t : Nat, s = t := ⟨s.toNat, by omega⟩
    have ht : t < 8 := by omega
    rw [b01_pos hs, if_neg (by omega), if_neg (show ¬ c < 0 by omega), if_neg (show ¬ 5 ≤ c by omega), if_neg (show ¬ n < 0 by omega), if_pos hn.2, if_pos (i_0 h0)] at p1
    simp only [Int.toNat_zero, f_0_4 h0, ina_33 h0 (i := (t : Int)) (by omega) (by omega), if_true, Int.reduceToNat, Int.toNat_natCast, g_shelf h0 ht, is_shelf h0 ht, c_beRow h0 ht, am_bv_s] at p1
    have s1 : ∀ s, s < 8 → sh_0[37 + 2 * s]? = some (2, 3) := by decide
    have s2 : ∀ s, s < 8 → sh_0[38 + 2 * s]? = some (101, 40) := by decide
    have d1 : Dc ω (am_put ω (37 + 2 * t) 0 c) := Dc.put (am_rp_at (bs_sh h0 (s1 t ht)))
    have d2 := d1.tr (Dc.put (v := n) (k := 1) (am_rp_at (bs_sh (h0.dc d1) (s1 t ht))))
    have d3 := d2.tr (fillR_dc (lo := 0) (hi := 40) (v := 0) (fun k => am_rp_at (bs_sh (h0.dc d2) (s2 t ht))))
    generalize hω1 : fillR (am_put (am_put ω (37 + 2 * t) 0 c) (37 + 2 * t) 1 n) (38 + 2 * t) 0 40 0 = ω1 at p1 d3
    have b1 : Bs ω1 := h0.dc d3
    have c2 := pX7_row_0 53 t c n ω1
    rw [bi_v m_in1, b01_pos hs, if_neg (by omega), bi_v m_in1, b01_pos hc, if_neg (by omega), bi_v m_in1, b01_pos hn, if_pos (by omega), if_pos (i_53 b1)] at c2
    have b2 : Bs (am_put ω1 54 t c) := b1.put (a := 54) rfl rfl
    have b3 : Bs (am_put (am_put ω1 54 t c) 55 t n) := b2.put (a := 55) rfl rfl
    simp only [Int.reduceToNat, f_53_0 b1, n_54 b1 (i := (t : Int)) (by omega) (by omega), if_true, Int.toNat_natCast, f_53_1 b2, n_55 b2 (i := (t : Int)) (by omega) (by omega)] at c2
    have c3 := m_row_l b3 ht (c := c) (n := n) 40 0 (by omega)
    rw [show 40 * t + 0 = 40 * t by omega, fillR_0] at c3
    have d4 := d3.tr (Dc.put (v := c) (k := t) (am_rp_at (bs_sh b1 (a := 54) rfl)))
    have d5 := d4.tr (Dc.put (v := n) (k := t) (am_rp_at (bs_sh b2 (a := 55) rfl)))
    have d6 := d5.tr (fillR_dc (lo := 40 * t) (hi := 40 * t + 40) (v := 0) (fun k => am_rp_at (bs_sh b3 (a := 56) rfl)))
    refine ⟨_, _, _, p1, b1, d3.2.1, c2.trans c3, d6.2.1, ?_⟩
    have e : ∀ a k, ¬ ((a = 37 + 2 * t ∧ k < 2) ∨ (a = 38 + 2 * t ∧ k < 40) ∨ (a = 54 ∧ k = t) ∨ (a = 55 ∧ k = t) ∨ (a = 56 ∧ 40 * t ≤ k ∧ k < 40 * t + 40)) → (fillR (am_put (am_put ω1 54 t c) 55 t n) 56 (40 * t) (40 * t + 40) 0).2.1 a k = ω.2.1 a k := by
      intro a k g
      rw [← hω1]
      exact (if_neg (by omega)).trans ((if_neg (by omega)).trans ((if_neg (by omega)).trans ((if_neg (by omega)).trans ((if_neg (by omega)).trans (if_neg (by omega))))))
    have g1 : ∀ k, k < 40 → am_get (fillR (am_put (am_put ω1 54 t c) 55 t n) 56 (40 * t) (40 * t + 40) 0) 56 (40 * t + k) = 0 := fun k hk => fillR_v (by omega)
    have g2 : ∀ k, k < 40 → am_get (fillR (am_put (am_put ω1 54 t c) 55 t n) 56 (40 * t) (40 * t + 40) 0) (38 + 2 * t) k = 0 := fun k hk => by
      rw [fillR_g (by omega), gp_cell (by omega), gp_cell (by omega), ← hω1]
      exact fillR_v (by omega)
    have g3 : am_get (fillR (am_put (am_put ω1 54 t c) 55 t n) 56 (40 * t) (40 * t + 40) 0) 54 t = c := by
      rw [fillR_g (by omega), gp_cell (by omega)]
      exact gp_same
    have g4 : am_get (fillR (am_put (am_put ω1 54 t c) 55 t n) 56 (40 * t) (40 * t + 40) 0) 55 t = n := by
      rw [fillR_g (by omega)]
      exact gp_same
    have g5 : am_get (fillR (am_put (am_put ω1 54 t c) 55 t n) 56 (40 * t) (40 * t + 40) 0) (37 + 2 * t) 0 = c := by
      rw [fillR_g (by omega), gp_cell (by omega), gp_cell (by omega), ← hω1, fillR_g (by omega), gp_place (by omega)]
      exact gp_same
    have g6 : am_get (fillR (am_put (am_put ω1 54 t c) 55 t n) 56 (40 * t) (40 * t + 40) 0) (37 + 2 * t) 1 = n := by
      rw [fillR_g (by omega), gp_cell (by omega), gp_cell (by omega), ← hω1, fillR_g (by omega)]
      exact gp_same
    refine inv_kp _ h d6 e (Or.inl (fun a k s b => by unfold S_sky at s; omega)) (Or.inl (fun a k s b => by unfold S_osky at s; omega)) (Or.inl (fun a k s b => by unfold S_tape at s; omega)) (Or.inr ?_) (Or.inl (fun a k s b => by unfold S_ref at s; omega)) (Or.inl (fun a k s b => by unfold S_img at s; omega))
    unfold am_get at g1 g2 g3 g4 g5 g6
    intro u hu
    obtain ⟨q1, q2, q3⟩ := h.2.2.2.2.1 u hu
    by_cases g : u = t
    · subst g
      rw [g3, g5, g4, g6]
      exact ⟨rfl, fun j hj => by rw [g1 j hj, g2 j hj], Or.inr (Or.inl ⟨hc.1, hc.2, rfl, hn.1, hn.2⟩)⟩
    · rw [e 1 3 (by omega), e 54 u (by omega), e (37 + 2 * u) 0 (by omega), e (37 + 2 * u) 1 (by omega), e 55 u (by omega)]
      exact ⟨q1, fun j hj => by rw [e _ _ (by omega), e _ _ (by omega)]; exact q2 j hj, q3⟩
  · have p1' : am_run (84, 0) 0 ([some (Sum.inr (Sum.inr 0)), some (Sum.inl s), some (Sum.inl c), some (Sum.inl n)], [], ω) = some (some (Sum.inl (-2)), rfz ω 0) := by
      rw [p1]
      simp only [i_0 h0, if_true, c_r2 h0, am_bi_s]
      by_cases hs : 0 ≤ s ∧ s ≤ 7
      · rw [b01_pos hs, if_neg (by omega)]
        by_cases z1 : c < 0
        · rw [if_pos z1]
        rw [if_neg z1]
        by_cases z2 : 5 ≤ c
        · rw [if_pos z2]
        rw [if_neg z2]
        by_cases z3 : n < 0
        · rw [if_pos z3]
        rw [if_neg z3, if_neg (show ¬ n ≤ 40 by omega)]
      · rw [b01_neg hs, if_pos rfl]
    refine pair_ref h 0 (by omega) p1' ?_
    rw [pX7_row_0]
    simp only [m_in1, am_bi_s, i_53 (b 0), if_true, m_r2 (b 0)]
    by_cases hs : 0 ≤ s ∧ s ≤ 7
    · by_cases hc : 0 ≤ c ∧ c ≤ 4
      · rw [b01_pos hs, if_neg (by omega), b01_pos hc, if_neg (by omega), b01_neg (show ¬ (0 ≤ n ∧ n ≤ 40) by omega), if_neg (by omega)]
      · rw [b01_pos hs, if_neg (by omega), b01_neg hc, if_pos rfl]
    · rw [b01_neg hs, if_pos rfl]
end K7
