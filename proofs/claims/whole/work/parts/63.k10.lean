/-! ===== prices ===== -/
section K10
variable {ω : am_W} {W : Int}
/-- the price of a kind, where the cost is x -/
def fP (k x : Int) : Int := if k = 1 ∨ k = 5 then (x + 1) / 2 else x
def low (c d : Int) : Int := if d = 1 then c else c - 1
def prF (n : Int) (C : Nat → Int) (k l : Int) : Int := if 0 ≤ l ∧ l < n - 1 then fP k (C l.toNat) else -1
theorem half_w {x : Int} (h1 : 1 ≤ x) (h2 : x ≤ 9) : am_w ((am_w (x + 1)).tdiv 2) = (x + 1) / 2 := by
  rw [am_w_s (z := x + 1) (by omega) (by omega), Int.tdiv_eq_ediv_of_nonneg (by omega)]
  exact am_w_s (by omega) (by omega)
theorem c_tug {v : Int} (hv : am_is ω v (4, 5) = true) : am_run (49, 0) 0 ([some (.inr (.inr v)), some (.inl 1)], [], ω) = some (some (.inl (b01 (am_get ω v.toNat 0 = 1 ∨ am_get ω v.toNat 0 = 5))), ω) := by
  rw [pX4_isOf_0 _ _ _ hv, if_neg (show ¬ (1 : Int) = 0 by omega), if_pos rfl]
  by_cases g1 : am_get ω v.toNat 0 = 1
  · rw [if_pos g1, b01_pos (Or.inl g1)]
  · rw [if_neg g1]
    by_cases g2 : am_get ω v.toNat 0 = 5
    · rw [if_neg (fun z => z g2), b01_pos (Or.inr g2)]
    · rw [if_pos g2, b01_neg (by omega)]
theorem c_steers {v : Int} (hv : am_is ω v (4, 5) = true) : am_run (50, 0) 0 ([some (.inr (.inr v))], [], ω) = some (some (.inl (b01 (am_get ω v.toNat 0 = 0 ∨ am_get ω v.toNat 0 = 1 ∨ am_get ω v.toNat 0 = 5))), ω) := by
  rw [pX4_steers_0 _ _ hv]
  by_cases g0 : am_get ω v.toNat 0 = 0
  · rw [if_pos g0, b01_pos (Or.inl g0)]
  · rw [if_neg g0, bi_v (c_tug hv)]
    by_cases g1 : am_get ω v.toNat 0 = 1 ∨ am_get ω v.toNat 0 = 5
    · rw [b01_pos g1, if_neg (by omega), b01_pos (Or.inr g1)]
    · rw [b01_neg g1, if_pos rfl, b01_neg (by omega)]
theorem c_price (h : Bs ω) (hw : isW W) (hn : 2 ≤ cn ω W ∧ cn ω W ≤ 6) (hC : ∀ j, j < 5 → 1 ≤ cC ω W j ∧ cC ω W j ≤ 9) {v c d : Int} (hv : am_is ω v (4, 5) = true) (hc : 0 ≤ c ∧ c ≤ 20) (hd : d = 1 ∨ d = 2) : am_run (69, 0) 0 ([some (.inr (.inr W)), some (.inr (.inr v)), some (.inl c), some (.inl d), none], [], ω) = some (some (.inl (prF (cn ω W) (cC ω W) (am_get ω v.toNat 0) (low c d))), ω) := by
  have e1 : am_run (62, 0) 0 ([some (.inr (.inr W)), some (.inl c), some (.inl d)], [], ω) = some (some (.inl (if d = 1 then c + 1 else c - 1)), ω) := by
    rw [pX5_next_0]
    by_cases g : d = 1
    · rw [if_neg (fun z => z g), if_pos g, am_w_s (by omega) (by omega)]
    · rw [if_pos g, if_neg g, am_w_s (by omega) (by omega)]
  have e2 : am_run (237, 0) 0 ([some (.inl c), some (.inl (if d = 1 then c + 1 else c - 1))], [], ω) = some (some (.inl (low c d)), ω) := by
    rw [pJ9_min_7cf53_0]
    unfold low
    by_cases g : d = 1
    · rw [if_pos g, if_neg (by omega), if_pos g]
    · rw [if_neg g, if_pos (by omega), if_neg g]
  rw [pX5_price_0 _ _ _ _ _ (w_is h hw), bi_v e1, bi_v e2, if_pos (w_is h hw), bi_v (c_hasAbove h hw hn)]
  unfold prF
  by_cases g : 0 ≤ low c d ∧ low c d < cn ω W - 1
  · have hj := hC (low c d).toNat (by omega)
    have ec : am_get ω (W + 2).toNat (low c d).toNat = cC ω W (low c d).toNat := rfl
    rw [b01_pos g, if_pos (show ¬ (1 : Int) = 0 by omega), if_pos hv, bi_v (c_tug hv), if_pos g]
    simp only [w_is h hw, if_true, w_C h hw, in_C h hw g.1 (show low c d < 5 by omega), ec, show ¬ (2 : Int) = 0 by omega, if_false, half_w hj.1 hj.2]
    unfold fP
    by_cases q : am_get ω v.toNat 0 = 1 ∨ am_get ω v.toNat 0 = 5
    · rw [b01_pos q, if_neg (show ¬ (1 : Int) = 0 by omega), if_pos q]
      rfl
    · rw [b01_neg q, if_pos rfl, if_neg q]
  · rw [b01_neg g, if_neg (show ¬ ¬ (0 : Int) = 0 by omega), if_neg g]
/-- whether a ship may change: v is its kind, circle, place, drops, busy -/
def canF (n : Int) (C : Nat → Int) (v : Nat → Int) (d : Int) : Prop := v 4 ≤ 0 ∧ (v 0 = 0 ∨ v 0 = 1 ∨ v 0 = 5) ∧ prF n C (v 0) (low (v 1) d) ≠ -1 ∧ prF n C (v 0) (low (v 1) d) ≤ v 3
theorem c_isAble (h : Bs ω) (hw : isW W) (hn : 2 ≤ cn ω W ∧ cn ω W ≤ 6) (hC : ∀ j, j < 5 → 1 ≤ cC ω W j ∧ cC ω W j ≤ 9) {v d : Int} (hv : am_is ω v (4, 5) = true) (hc : 0 ≤ am_get ω v.toNat 1 ∧ am_get ω v.toNat 1 ≤ 20) (hd : d = 1 ∨ d = 2) : am_run (72, 0) 0 ([some (.inr (.inr W)), some (.inr (.inr v)), some (.inl d), none], [], ω) = some (some (.inl (b01 (canF (cn ω W) (cC ω W) (am_get ω v.toNat) d))), ω) := by
  rw [pX5_isAble_0 _ _ _ _ hv]
  by_cases g1 : 0 < am_get ω v.toNat 4
  · rw [if_pos g1, b01_neg (fun q => by have := q.1; omega)]
  · rw [if_neg g1, bi_v (c_steers hv)]
    by_cases g2 : am_get ω v.toNat 0 = 0 ∨ am_get ω v.toNat 0 = 1 ∨ am_get ω v.toNat 0 = 5
    · rw [b01_pos g2, if_pos (show ¬ (1 : Int) = 0 by omega), if_pos hv, if_pos (w_is h hw), bi_v (c_price h hw hn hC hv hc hd)]
      by_cases g3 : prF (cn ω W) (cC ω W) (am_get ω v.toNat 0) (low (am_get ω v.toNat 1) d) = -1
      · rw [if_pos g3, b01_neg (fun q => q.2.2.1 g3)]
      · rw [if_neg g3, if_pos hv]
        by_cases g4 : am_get ω v.toNat 3 < prF (cn ω W) (cC ω W) (am_get ω v.toNat 0) (low (am_get ω v.toNat 1) d)
        · rw [if_pos g4, b01_neg (fun q => by have := q.2.2.2; omega)]
        · rw [if_neg g4, b01_pos ⟨by omega, g2, g3, by omega⟩]
    · rw [b01_neg g2, if_neg (show ¬ ¬ (0 : Int) = 0 by omega), b01_neg (fun q => g2 q.2.1)]
theorem m_price (h : Bs ω) (hC : ∀ j, j < 5 → 1 ≤ mC ω j ∧ mC ω j ≤ 9) {i : Nat} (hi : i < 6) {l : Int} (h0 : 0 ≤ l) (h5 : l < 5) : am_run (184, 0) 0 ([some (.inr (.inr 53)), some (.inl (i : Int)), some (.inl l)], [], ω) = some (some (.inl (fP (mV ω i 0) (mC ω l.toNat))), ω) := by
  have hj := hC l.toNat (by omega)
  have e1 : am_get ω 58 l.toNat = mC ω l.toNat := rfl
  have e2 : am_get ω 59 i = mV ω i 0 := rfl
  rw [pX7_price_0 _ _ _ _ (i_53 h)]
  simp only [Int.reduceToNat, f_53_7 h, f_53_5 h, n_59 h (i := (i : Int)) (by omega) (by omega), n_58 h h0 (show l < 6 by omega), if_true, Int.toNat_natCast, e1, e2, half_w hj.1 hj.2]
  unfold fP
  by_cases g1 : mV ω i 0 = 1
  · rw [if_pos g1, if_pos (Or.inl g1)]
    rfl
  · rw [if_neg g1]
    by_cases g2 : mV ω i 0 = 5
    · rw [if_neg (fun z => z g2), if_pos (Or.inr g2)]
      rfl
    · rw [if_pos g2, if_neg (by omega)]
theorem m_priceOf (h : Bs ω) (hn : 2 ≤ mn ω ∧ mn ω ≤ 6) (hC : ∀ j, j < 5 → 1 ≤ mC ω j ∧ mC ω j ≤ 9) {i : Nat} (hi : i < 6) {d : Int} (hc : 0 ≤ low (mV ω i 1) d ∧ low (mV ω i 1) d < mn ω - 1) : am_run (188, 0) 0 ([some (.inr (.inr 53)), some (.inl (i : Int)), some (.inl d)], [], ω) = some (some (.inl (prF (mn ω) (mC ω) (mV ω i 0) (low (mV ω i 1) d))), ω) := by
  have e2 : am_get ω 60 i = mV ω i 1 := rfl
  have ep := m_price h hC hi hc.1 (show low (mV ω i 1) d < 5 by omega)
  rw [pX7_priceOf_0 _ _ _ _ (i_53 h)]
  simp only [Int.reduceToNat, f_53_8 h, n_60 h (i := (i : Int)) (by omega) (by omega), if_true, Int.toNat_natCast, e2]
  unfold prF
  rw [if_pos hc]
  unfold low at hc ep ⊢
  by_cases g : d = 1
  · rw [if_pos g] at ep ⊢
    rw [if_neg (fun z => z g), bi_v ep]
  · rw [if_neg g] at ep hc ⊢
    rw [if_pos g, am_w_s (by omega) (by omega), bi_v ep]
end K10
