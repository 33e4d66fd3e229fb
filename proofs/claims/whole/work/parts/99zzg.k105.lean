/-! ===== the law's cases: way and burnt ===== -/
section K105
variable {ω : am_W} {i : Nat}
theorem lc_1150 (h : Inv ω) (hi : i + 6 ≤ ω.2.2.1) (hl : ω.2.2.1 ≤ 3072) : LC 1150 i ω := by
  obtain ⟨x, ω1, ω2, r1, b1, s1, r2, s2, I2⟩ := pair_i (by decide) (by decide +kernel) (k_way h (ω.2.2.2 (i + 1)) (ω.2.2.2 (i + 2)) (ω.2.2.2 (i + 3)))
  have A := lw hi hl
  have Q := pL_law_1150 0 53 i ω (i_0 h.1)
  simp only [(A ()).1, (A ()).2.1, (A ()).2.2.1, Int.toNat_natCast, lb (show i + 1 < ω.2.2.1 by omega), lb (show i + 2 < ω.2.2.1 by omega), lb (show i + 3 < ω.2.2.1 by omega), r1, am_bi_s, am_bl_s, cmp_s, s1, i_53 b1, r2, if_true, pL_law_1708, (A ()).2.2.2.2.2] at Q
  exact ⟨ω2, Q, I2, s2⟩
theorem lc_1385 (h : Inv ω) (hi : i + 6 ≤ ω.2.2.1) (hl : ω.2.2.1 ≤ 3072) : LC 1385 i ω := by
  obtain ⟨x, ω1, ω2, r1, b1, s1, r2, s2, I2⟩ := pair_i (by decide) (by decide +kernel) (k_burnt h (ω.2.2.2 (i + 1)) (ω.2.2.2 (i + 2)) (ω.2.2.2 (i + 3)))
  have A := lw hi hl
  have Q := pL_law_1385 0 53 i ω (i_0 h.1)
  simp only [(A ()).1, (A ()).2.1, (A ()).2.2.1, Int.toNat_natCast, lb (show i + 1 < ω.2.2.1 by omega), lb (show i + 2 < ω.2.2.1 by omega), lb (show i + 3 < ω.2.2.1 by omega), r1, am_bi_s, am_bl_s, cmp_s, s1, i_53 b1, r2, if_true, pL_law_1708, (A ()).2.2.2.2.2] at Q
  exact ⟨ω2, Q, I2, s2⟩
end K105
