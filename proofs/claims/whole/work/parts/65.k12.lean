/-! ===== crossing and landing ===== -/
section K12
variable {ω : am_W} {W : Int}
/-- the place on the other circle: p of a, to b -/
def fL (p a b : Int) : Int := (p * b / a + b / 2) % b
theorem mul_b {p b : Int} (h1 : 0 ≤ p) (h2 : p ≤ 20) (h3 : 2 ≤ b) (h4 : b ≤ 20) : 0 ≤ p * b ∧ p * b ≤ 400 := by
  refine ⟨Int.mul_nonneg h1 (by omega), ?_⟩
  have := Int.mul_le_mul h2 h4 (by omega) (by omega : (0 : Int) ≤ 20)
  omega
theorem div_b {x a : Int} (h1 : 0 ≤ x) (h2 : x ≤ 400) (h3 : 2 ≤ a) : 0 ≤ x / a ∧ x / a ≤ 400 := by
  refine ⟨Int.ediv_nonneg h1 (by omega), ?_⟩
  have := Int.ediv_le_self a h1
  omega
theorem land_w {p a b : Int} (h1 : 0 ≤ p) (h2 : p ≤ 20) (ha : 2 ≤ a) (hb : 2 ≤ b ∧ b ≤ 20) : (am_w ((am_w ((am_w (p * b)).tdiv a)) + (am_w (b.tdiv 2)))).tmod b = fL p a b := by
  obtain ⟨m1, m2⟩ := mul_b h1 h2 hb.1 hb.2
  obtain ⟨d1, d2⟩ := div_b m1 m2 ha
  rw [am_w_s (z := p * b) (by omega) (by omega), Int.tdiv_eq_ediv_of_nonneg m1, am_w_s (z := p * b / a) (by omega) (by omega), Int.tdiv_eq_ediv_of_nonneg (by omega), am_w_s (z := b / 2) (by omega) (by omega), am_w_s (by omega) (by omega), Int.tmod_eq_emod_of_nonneg (by omega)]
  rfl
theorem half_t {t : Int} (h : 2 ≤ t ∧ t ≤ 20) : am_run (236, 0) 0 ([some (.inl 1), some (.inl (am_w (t.tdiv 2)))], [], ω) = some (some (.inl (t / 2)), ω) := by
  rw [pJ9_max_7cf53_0, Int.tdiv_eq_ediv_of_nonneg (by omega), am_w_s (by omega) (by omega)]
  by_cases g : 1 < t / 2
  · rw [if_pos g]
  · rw [if_neg g, show t / 2 = 1 by omega]
theorem m_halfOf {t : Int} (h : 2 ≤ t ∧ t ≤ 20) : am_run (185, 0) 0 ([some (.inl t)], [], ω) = some (some (.inl (t / 2)), ω) := by
  rw [pX7_halfOf_0, if_neg (by omega), bi_v (half_t h)]
theorem c_crossing (h : Bs ω) (hw : isW W) (h6 : cn ω W ≤ 6) (hT : ∀ j, j < 6 → 2 ≤ cT ω W j ∧ cT ω W j ≤ 20) {c : Int} (hc : 0 ≤ c ∧ c < cn ω W) : am_run (70, 0) 0 ([some (.inr (.inr W)), some (.inl c)], [], ω) = some (some (.inl (cT ω W c.toNat / 2)), ω) := by
  rw [pX5_crossing_0 _ _ _ (w_is h hw), bi_v (c_timeOf h hw hc.1 hc.2 h6), if_neg (by omega), bi_v (half_t (hT _ (by omega)))]
theorem c_modulo {x t : Int} (hx : 0 ≤ x) (h : 2 ≤ t) : am_run (145, 0) 0 ([some (.inl x), some (.inl t)], [], ω) = some (some (.inl (x % t)), ω) := by
  rw [pX6_modulo_0, if_neg (by omega), if_neg (by omega), Int.tmod_eq_emod_of_nonneg hx]
theorem c_landing (h : Bs ω) (hw : isW W) (h6 : cn ω W ≤ 6) (hT : ∀ j, j < 6 → 2 ≤ cT ω W j ∧ cT ω W j ≤ 20) {c p t : Int} (hc : 0 ≤ c ∧ c < cn ω W) (ht : 0 ≤ t ∧ t < cn ω W) (hp : 0 ≤ p ∧ p ≤ 20) : am_run (71, 0) 0 ([some (.inr (.inr W)), some (.inl c), some (.inl p), some (.inl t), none, none, none], [], ω) = some (some (.inl (fL p (cT ω W c.toNat) (cT ω W t.toNat))), ω) := by
  have a := hT c.toNat (by omega)
  have b := hT t.toNat (by omega)
  rw [pX5_landing_0 _ _ _ _ _ (w_is h hw), bi_v (c_timeOf h hw hc.1 hc.2 h6), if_pos (w_is h hw), bi_v (c_timeOf h hw ht.1 ht.2 h6), if_neg (by omega), if_neg (by omega), if_neg (by omega), pX6_modulo_0, if_neg (by omega), if_neg (by omega), land_w hp.1 hp.2 a.1 b]
  rfl
theorem m_across (h : Bs ω) (hn : mn ω ≤ 6) (hT : ∀ j, j < 6 → 2 ≤ mT ω j ∧ mT ω j ≤ 20) {c p t : Int} (hc : 0 ≤ c ∧ c < mn ω) (ht : 0 ≤ t ∧ t < mn ω) (hp : 0 ≤ p ∧ p ≤ 20) : am_run (186, 0) 0 ([some (.inr (.inr 53)), some (.inl p), some (.inl c), some (.inl t)], [], ω) = some (some (.inl (fL p (mT ω c.toNat) (mT ω t.toNat))), ω) := by
  have a := hT c.toNat (by omega)
  have b := hT t.toNat (by omega)
  have e1 : am_get ω 57 c.toNat = mT ω c.toNat := rfl
  have e2 : am_get ω 57 t.toNat = mT ω t.toNat := rfl
  rw [pX7_across_0 _ _ _ _ _ (i_53 h)]
  simp only [Int.reduceToNat, f_53_4 h, n_57 h hc.1 (show c < 6 by omega), n_57 h ht.1 (show t < 6 by omega), if_true, e1, e2, land_w hp.1 hp.2 a.1 b]
  rw [if_neg (by omega), if_neg (by omega), if_neg (by omega)]
end K12
