/-! ===== the law's other cases ===== -/
section K84
variable {ω : am_W} {i : Nat}
theorem cmp_s {x : Int} : am_cmp x x = 0 := by
  unfold am_cmp
  rw [if_neg (by omega), if_pos rfl]
theorem pair_l {b1 b2 : Nat} {L1 L2 : am_L} (hb : b1 ≤ 240) (hr : am_rt b1 = 2) (P : Pair b1 b2 L1 L2 ω) : ∃ (x : Int) (ω1 ω2 : am_W), am_run (b1, 0) 0 (L1, [], ω) = some (some (.inr (.inl x)), ω1) ∧ Bs ω1 ∧ ω1.2.2 = ω.2.2 ∧ am_run (b2, 0) 0 (L2, [], ω1) = some (some (.inr (.inl x)), ω2) ∧ ω2.2.2 = ω.2.2 ∧ Inv ω2 := by
  obtain ⟨z, ω1, ω2, r1, b, s1, r2, s2, I2⟩ := P
  obtain ⟨x, rfl⟩ := run_long hb hr r1
  exact ⟨x, ω1, ω2, r1, b, s1, r2, s2, I2⟩
theorem lc_267 (h : Inv ω) (hi : i + 6 ≤ ω.2.2.1) (hl : ω.2.2.1 ≤ 3072) (hr : ∀ j, am_R32 (ω.2.2.2 j)) : LC 267 i ω := by
  obtain ⟨x, ω1, ω2, r1, b1, s1, r2, s2, I2⟩ := pair_i (by decide) (by decide +kernel) (k_set h (ω.2.2.2 (i + 1)) (ω.2.2.2 (i + 2)) (am_lor (am_lshl (ω.2.2.2 (i + 3)) 32) (am_land (ω.2.2.2 (i + 4)) 4294967295)))
  have A := lw hi hl
  have Q := pL_law_267 0 53 i ω (i_0 h.1)
  simp only [(A ()).1, (A ()).2.1, (A ()).2.2.1, (A ()).2.2.2.1, Int.toNat_natCast, lb (show i + 1 < ω.2.2.1 by omega), lb (show i + 2 < ω.2.2.1 by omega), lb (show i + 3 < ω.2.2.1 by omega), lb (show i + 4 < ω.2.2.1 by omega), r1, am_bi_s, am_bl_s, cmp_s, s1, i_53 b1, r2, if_true, pL_law_1708, (A ()).2.2.2.2.2] at Q
  exact ⟨ω2, Q, I2, s2⟩
theorem lc_437 (h : Inv ω) (hi : i + 6 ≤ ω.2.2.1) (hl : ω.2.2.1 ≤ 3072) (hr : ∀ j, am_R32 (ω.2.2.2 j)) : LC 437 i ω := by
  obtain ⟨x, ω1, ω2, r1, b1, s1, r2, s2, I2⟩ := pair_i (by decide) (by decide +kernel) (k_holds h (ω.2.2.2 (i + 1)))
  have A := lw hi hl
  have Q := pL_law_437 0 53 i ω (i_0 h.1)
  simp only [(A ()).1, Int.toNat_natCast, lb (show i + 1 < ω.2.2.1 by omega), r1, am_bi_s, am_bl_s, cmp_s, s1, i_53 b1, r2, if_true, pL_law_1708, (A ()).2.2.2.2.2] at Q
  exact ⟨ω2, Q, I2, s2⟩
theorem lc_724 (h : Inv ω) (hi : i + 6 ≤ ω.2.2.1) (hl : ω.2.2.1 ≤ 3072) (hr : ∀ j, am_R32 (ω.2.2.2 j)) : LC 724 i ω := by
  obtain ⟨x, ω1, ω2, r1, b1, s1, r2, s2, I2⟩ := pair_i (by decide) (by decide +kernel) (k_wipe h )
  have A := lw hi hl
  have Q := pL_law_724 0 53 i ω (i_0 h.1)
  simp only [Int.toNat_natCast, r1, am_bi_s, am_bl_s, cmp_s, s1, i_53 b1, r2, if_true, pL_law_1708, (A ()).2.2.2.2.2] at Q
  exact ⟨ω2, Q, I2, s2⟩
theorem lc_1636 (h : Inv ω) (hi : i + 6 ≤ ω.2.2.1) (hl : ω.2.2.1 ≤ 3072) (hr : ∀ j, am_R32 (ω.2.2.2 j)) : LC 1636 i ω := by
  obtain ⟨x, ω1, ω2, r1, b1, s1, r2, s2, I2⟩ := pair_i (by decide) (by decide +kernel) (k_seed h (ω.2.2.2 (i + 1)))
  have A := lw hi hl
  have Q := pL_law_1636 0 53 i ω (i_0 h.1)
  simp only [(A ()).1, Int.toNat_natCast, lb (show i + 1 < ω.2.2.1 by omega), r1, am_bi_s, am_bl_s, cmp_s, s1, i_53 b1, r2, if_true, pL_law_1708, (A ()).2.2.2.2.2] at Q
  exact ⟨ω2, Q, I2, s2⟩
theorem lc_403 (h : Inv ω) (hi : i + 6 ≤ ω.2.2.1) (hl : ω.2.2.1 ≤ 3072) (hr : ∀ j, am_R32 (ω.2.2.2 j)) : LC 403 i ω := by
  obtain ⟨x, ω1, ω2, r1, b1, s1, r2, s2, I2⟩ := pair_l (by decide) (by decide +kernel) (k_element h (ω.2.2.2 (i + 1)) (ω.2.2.2 (i + 2)))
  have A := lw hi hl
  have Q := pL_law_403 0 53 i ω (i_0 h.1)
  simp only [(A ()).1, (A ()).2.1, Int.toNat_natCast, lb (show i + 1 < ω.2.2.1 by omega), lb (show i + 2 < ω.2.2.1 by omega), r1, am_bi_s, am_bl_s, cmp_s, s1, i_53 b1, r2, if_true, pL_law_1708, (A ()).2.2.2.2.2] at Q
  exact ⟨ω2, Q, I2, s2⟩
theorem lc_1269 (h : Inv ω) (hi : i + 6 ≤ ω.2.2.1) (hl : ω.2.2.1 ≤ 3072) (hr : ∀ j, am_R32 (ω.2.2.2 j)) : LC 1269 i ω := by
  obtain ⟨x, ω1, ω2, r1, b1, s1, r2, s2, I2⟩ := pair_l (by decide) (by decide +kernel) (k_again h )
  have A := lw hi hl
  have Q := pL_law_1269 0 53 i ω (i_0 h.1)
  simp only [Int.toNat_natCast, r1, am_bi_s, am_bl_s, cmp_s, s1, i_53 b1, r2, if_true, pL_law_1708, (A ()).2.2.2.2.2] at Q
  exact ⟨ω2, Q, I2, s2⟩
end K84
