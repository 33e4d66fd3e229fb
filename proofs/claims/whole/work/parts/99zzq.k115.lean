/-! ===== the law's last case, and all of it ===== -/
section K115
variable {ω : am_W} {i : Nat}
theorem lc_737 (h : Inv ω) (hi : i + 6 ≤ ω.2.2.1) (hl : ω.2.2.1 ≤ 3072) : LC 737 i ω := by
  obtain ⟨x, ω1, ω2, r1, b1, s1, r2, s2, I2⟩ := pair_i (by decide) (by decide +kernel) (k_world h)
  have A := lw hi hl
  have Q := pL_law_737 0 53 i ω (i_0 h.1)
  simp only [Int.toNat_natCast, r1, am_bi_s, am_bl_s, cmp_s, s1, i_53 b1, r2, if_true, pL_law_1708, (A ()).2.2.2.2.2] at Q
  exact ⟨ω2, Q, I2, s2⟩
theorem left3 : Left3 := fun _ _ h hi hl _ => ⟨lc_737 h hi hl, lc_1150 h hi hl, lc_1385 h hi hl⟩
theorem pure_all : am_Pure := pure_of left3
end K115
