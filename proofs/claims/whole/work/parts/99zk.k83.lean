/-! ===== the law's cases ===== -/
section K83
variable {ω : am_W} {i : Nat}
def LC (pc i : Nat) (ω : am_W) : Prop := ∃ ω', am_run (240, 0) pc ([some (.inr (.inr (-2))), some (.inr (.inr 0)), some (.inr (.inr 53)), some (.inl (i : Int))], [], ω) = am_run (240, 0) 18 ([some (.inr (.inr ((-2)))), some (.inr (.inr 0)), some (.inr (.inr 53)), some (.inl (((i + 6 : Nat) : Int)))], [], ω') ∧ Inv ω' ∧ ω'.2.2 = ω.2.2
theorem lw {n : Nat} (hi : i + 6 ≤ n) (hn : n ≤ 3072) : ∀ _ : Unit, am_w ((i : Int) + 1) = ((i + 1 : Nat) : Int) ∧ am_w ((i : Int) + 2) = ((i + 2 : Nat) : Int) ∧ am_w ((i : Int) + 3) = ((i + 3 : Nat) : Int) ∧ am_w ((i : Int) + 4) = ((i + 4 : Nat) : Int) ∧ am_w ((i : Int) + 5) = ((i + 5 : Nat) : Int) ∧ am_w ((i : Int) + 6) = ((i + 6 : Nat) : Int) := fun _ => ⟨(am_w_s (by omega) (by omega)).trans (by omega), (am_w_s (by omega) (by omega)).trans (by omega), (am_w_s (by omega) (by omega)).trans (by omega), (am_w_s (by omega) (by omega)).trans (by omega), (am_w_s (by omega) (by omega)).trans (by omega), (am_w_s (by omega) (by omega)).trans (by omega)⟩
theorem lb {k n : Nat} (h : k < n) : (decide (0 ≤ ((k : Nat) : Int)) && decide (((k : Nat) : Int) < (n : Int))) = true := by
  have a : (0 : Int) ≤ (k : Int) := by omega
  have b : (k : Int) < (n : Int) := by omega
  simp [a, b]
theorem pair_i {b1 b2 : Nat} {L1 L2 : am_L} (hb : b1 ≤ 240) (hr : am_rt b1 = 1) (P : Pair b1 b2 L1 L2 ω) : ∃ (x : Int) (ω1 ω2 : am_W), am_run (b1, 0) 0 (L1, [], ω) = some (some (.inl x), ω1) ∧ Bs ω1 ∧ ω1.2.2 = ω.2.2 ∧ am_run (b2, 0) 0 (L2, [], ω1) = some (some (.inl x), ω2) ∧ ω2.2.2 = ω.2.2 ∧ Inv ω2 := by
  obtain ⟨z, ω1, ω2, r1, b, s1, r2, s2, I2⟩ := P
  obtain ⟨x, rfl⟩ := run_int hb hr r1
  exact ⟨x, ω1, ω2, r1, b, s1, r2, s2, I2⟩
theorem lc_224 (h : Inv ω) (hi : i + 6 ≤ ω.2.2.1) (hl : ω.2.2.1 ≤ 3072) (hr : ∀ j, am_R32 (ω.2.2.2 j)) : LC 224 i ω := by
  obtain ⟨x, ω1, ω2, r1, b1, s1, r2, s2, I2⟩ := pair_i (by decide) (by decide +kernel) (k_row h (ω.2.2.2 (i + 1)) (ω.2.2.2 (i + 2)) (ω.2.2.2 (i + 3)))
  have A := lw hi hl
  have Q := pL_law_224 0 53 i ω (i_0 h.1)
  simp only [(A ()).1, (A ()).2.1, (A ()).2.2.1, Int.toNat_natCast, lb (show i + 1 < ω.2.2.1 by omega), lb (show i + 2 < ω.2.2.1 by omega), lb (show i + 3 < ω.2.2.1 by omega), r1, am_bi_s, s1, i_53 b1, r2, if_true, pL_law_1708, (A ()).2.2.2.2.2] at Q
  exact ⟨ω2, Q, I2, s2⟩
theorem lc_340 (h : Inv ω) (hi : i + 6 ≤ ω.2.2.1) (hl : ω.2.2.1 ≤ 3072) (hr : ∀ j, am_R32 (ω.2.2.2 j)) : LC 340 i ω := by
  obtain ⟨x, ω1, ω2, r1, b1, s1, r2, s2, I2⟩ := pair_i (by decide) (by decide +kernel) (k_copy h (ω.2.2.2 (i + 1)) (ω.2.2.2 (i + 2)) (ω.2.2.2 (i + 3)) (ω.2.2.2 (i + 4)) (ω.2.2.2 (i + 5)) (hr _) (hr _) (hr _))
  have A := lw hi hl
  have Q := pL_law_340 0 53 i ω (i_0 h.1)
  simp only [(A ()).1, (A ()).2.1, (A ()).2.2.1, (A ()).2.2.2.1, (A ()).2.2.2.2.1, Int.toNat_natCast, lb (show i + 1 < ω.2.2.1 by omega), lb (show i + 2 < ω.2.2.1 by omega), lb (show i + 3 < ω.2.2.1 by omega), lb (show i + 4 < ω.2.2.1 by omega), lb (show i + 5 < ω.2.2.1 by omega), r1, am_bi_s, s1, i_53 b1, r2, if_true, pL_law_1708, (A ()).2.2.2.2.2] at Q
  exact ⟨ω2, Q, I2, s2⟩
theorem lc_460 (h : Inv ω) (hi : i + 6 ≤ ω.2.2.1) (hl : ω.2.2.1 ≤ 3072) (hr : ∀ j, am_R32 (ω.2.2.2 j)) : LC 460 i ω := by
  obtain ⟨x, ω1, ω2, r1, b1, s1, r2, s2, I2⟩ := pair_i (by decide) (by decide +kernel) (k_show h (ω.2.2.2 (i + 1)) (ω.2.2.2 (i + 2)))
  have A := lw hi hl
  have Q := pL_law_460 0 53 i ω (i_0 h.1)
  simp only [(A ()).1, (A ()).2.1, Int.toNat_natCast, lb (show i + 1 < ω.2.2.1 by omega), lb (show i + 2 < ω.2.2.1 by omega), r1, am_bi_s, s1, i_53 b1, r2, if_true, pL_law_1708, (A ()).2.2.2.2.2] at Q
  exact ⟨ω2, Q, I2, s2⟩
theorem lc_493 (h : Inv ω) (hi : i + 6 ≤ ω.2.2.1) (hl : ω.2.2.1 ≤ 3072) (hr : ∀ j, am_R32 (ω.2.2.2 j)) : LC 493 i ω := by
  obtain ⟨x, ω1, ω2, r1, b1, s1, r2, s2, I2⟩ := pair_i (by decide) (by decide +kernel) (k_says h (ω.2.2.2 (i + 1)) (ω.2.2.2 (i + 2)))
  have A := lw hi hl
  have Q := pL_law_493 0 53 i ω (i_0 h.1)
  simp only [(A ()).1, (A ()).2.1, Int.toNat_natCast, lb (show i + 1 < ω.2.2.1 by omega), lb (show i + 2 < ω.2.2.1 by omega), r1, am_bi_s, s1, i_53 b1, r2, if_true, pL_law_1708, (A ()).2.2.2.2.2] at Q
  exact ⟨ω2, Q, I2, s2⟩
theorem lc_526 (h : Inv ω) (hi : i + 6 ≤ ω.2.2.1) (hl : ω.2.2.1 ≤ 3072) (hr : ∀ j, am_R32 (ω.2.2.2 j)) : LC 526 i ω := by
  obtain ⟨x, ω1, ω2, r1, b1, s1, r2, s2, I2⟩ := pair_i (by decide) (by decide +kernel) (k_circles h (ω.2.2.2 (i + 1)))
  have A := lw hi hl
  have Q := pL_law_526 0 53 i ω (i_0 h.1)
  simp only [(A ()).1, Int.toNat_natCast, lb (show i + 1 < ω.2.2.1 by omega), r1, am_bi_s, s1, i_53 b1, r2, if_true, pL_law_1708, (A ()).2.2.2.2.2] at Q
  exact ⟨ω2, Q, I2, s2⟩
theorem lc_549 (h : Inv ω) (hi : i + 6 ≤ ω.2.2.1) (hl : ω.2.2.1 ≤ 3072) (hr : ∀ j, am_R32 (ω.2.2.2 j)) : LC 549 i ω := by
  obtain ⟨x, ω1, ω2, r1, b1, s1, r2, s2, I2⟩ := pair_i (by decide) (by decide +kernel) (k_time h (ω.2.2.2 (i + 1)) (ω.2.2.2 (i + 2)))
  have A := lw hi hl
  have Q := pL_law_549 0 53 i ω (i_0 h.1)
  simp only [(A ()).1, (A ()).2.1, Int.toNat_natCast, lb (show i + 1 < ω.2.2.1 by omega), lb (show i + 2 < ω.2.2.1 by omega), r1, am_bi_s, s1, i_53 b1, r2, if_true, pL_law_1708, (A ()).2.2.2.2.2] at Q
  exact ⟨ω2, Q, I2, s2⟩
theorem lc_582 (h : Inv ω) (hi : i + 6 ≤ ω.2.2.1) (hl : ω.2.2.1 ≤ 3072) (hr : ∀ j, am_R32 (ω.2.2.2 j)) : LC 582 i ω := by
  obtain ⟨x, ω1, ω2, r1, b1, s1, r2, s2, I2⟩ := pair_i (by decide) (by decide +kernel) (k_cost h (ω.2.2.2 (i + 1)) (ω.2.2.2 (i + 2)))
  have A := lw hi hl
  have Q := pL_law_582 0 53 i ω (i_0 h.1)
  simp only [(A ()).1, (A ()).2.1, Int.toNat_natCast, lb (show i + 1 < ω.2.2.1 by omega), lb (show i + 2 < ω.2.2.1 by omega), r1, am_bi_s, s1, i_53 b1, r2, if_true, pL_law_1708, (A ()).2.2.2.2.2] at Q
  exact ⟨ω2, Q, I2, s2⟩
theorem lc_615 (h : Inv ω) (hi : i + 6 ≤ ω.2.2.1) (hl : ω.2.2.1 ≤ 3072) (hr : ∀ j, am_R32 (ω.2.2.2 j)) : LC 615 i ω := by
  obtain ⟨x, ω1, ω2, r1, b1, s1, r2, s2, I2⟩ := pair_i (by decide) (by decide +kernel) (k_ship h (ω.2.2.2 (i + 1)) (ω.2.2.2 (i + 2)) (ω.2.2.2 (i + 3)) (ω.2.2.2 (i + 4)))
  have A := lw hi hl
  have Q := pL_law_615 0 53 i ω (i_0 h.1)
  simp only [(A ()).1, (A ()).2.1, (A ()).2.2.1, (A ()).2.2.2.1, Int.toNat_natCast, lb (show i + 1 < ω.2.2.1 by omega), lb (show i + 2 < ω.2.2.1 by omega), lb (show i + 3 < ω.2.2.1 by omega), lb (show i + 4 < ω.2.2.1 by omega), r1, am_bi_s, s1, i_53 b1, r2, if_true, pL_law_1708, (A ()).2.2.2.2.2] at Q
  exact ⟨ω2, Q, I2, s2⟩
theorem lc_668 (h : Inv ω) (hi : i + 6 ≤ ω.2.2.1) (hl : ω.2.2.1 ≤ 3072) (hr : ∀ j, am_R32 (ω.2.2.2 j)) : LC 668 i ω := by
  obtain ⟨x, ω1, ω2, r1, b1, s1, r2, s2, I2⟩ := pair_i (by decide) (by decide +kernel) (k_fill h (ω.2.2.2 (i + 1)) (ω.2.2.2 (i + 2)))
  have A := lw hi hl
  have Q := pL_law_668 0 53 i ω (i_0 h.1)
  simp only [(A ()).1, (A ()).2.1, Int.toNat_natCast, lb (show i + 1 < ω.2.2.1 by omega), lb (show i + 2 < ω.2.2.1 by omega), r1, am_bi_s, s1, i_53 b1, r2, if_true, pL_law_1708, (A ()).2.2.2.2.2] at Q
  exact ⟨ω2, Q, I2, s2⟩
theorem lc_701 (h : Inv ω) (hi : i + 6 ≤ ω.2.2.1) (hl : ω.2.2.1 ≤ 3072) (hr : ∀ j, am_R32 (ω.2.2.2 j)) : LC 701 i ω := by
  obtain ⟨x, ω1, ω2, r1, b1, s1, r2, s2, I2⟩ := pair_i (by decide) (by decide +kernel) (k_feed h (ω.2.2.2 (i + 1)))
  have A := lw hi hl
  have Q := pL_law_701 0 53 i ω (i_0 h.1)
  simp only [(A ()).1, Int.toNat_natCast, lb (show i + 1 < ω.2.2.1 by omega), r1, am_bi_s, s1, i_53 b1, r2, if_true, pL_law_1708, (A ()).2.2.2.2.2] at Q
  exact ⟨ω2, Q, I2, s2⟩
theorem lc_750 (h : Inv ω) (hi : i + 6 ≤ ω.2.2.1) (hl : ω.2.2.1 ≤ 3072) (hr : ∀ j, am_R32 (ω.2.2.2 j)) : LC 750 i ω := by
  obtain ⟨x, ω1, ω2, r1, b1, s1, r2, s2, I2⟩ := pair_i (by decide) (by decide +kernel) (k_shipOf h (ω.2.2.2 (i + 1)) (ω.2.2.2 (i + 2)))
  have A := lw hi hl
  have Q := pL_law_750 0 53 i ω (i_0 h.1)
  simp only [(A ()).1, (A ()).2.1, Int.toNat_natCast, lb (show i + 1 < ω.2.2.1 by omega), lb (show i + 2 < ω.2.2.1 by omega), r1, am_bi_s, s1, i_53 b1, r2, if_true, pL_law_1708, (A ()).2.2.2.2.2] at Q
  exact ⟨ω2, Q, I2, s2⟩
theorem lc_783 (h : Inv ω) (hi : i + 6 ≤ ω.2.2.1) (hl : ω.2.2.1 ≤ 3072) (hr : ∀ j, am_R32 (ω.2.2.2 j)) : LC 783 i ω := by
  obtain ⟨x, ω1, ω2, r1, b1, s1, r2, s2, I2⟩ := pair_i (by decide) (by decide +kernel) (k_circleOf h (ω.2.2.2 (i + 1)) (ω.2.2.2 (i + 2)))
  have A := lw hi hl
  have Q := pL_law_783 0 53 i ω (i_0 h.1)
  simp only [(A ()).1, (A ()).2.1, Int.toNat_natCast, lb (show i + 1 < ω.2.2.1 by omega), lb (show i + 2 < ω.2.2.1 by omega), r1, am_bi_s, s1, i_53 b1, r2, if_true, pL_law_1708, (A ()).2.2.2.2.2] at Q
  exact ⟨ω2, Q, I2, s2⟩
theorem lc_816 (h : Inv ω) (hi : i + 6 ≤ ω.2.2.1) (hl : ω.2.2.1 ≤ 3072) (hr : ∀ j, am_R32 (ω.2.2.2 j)) : LC 816 i ω := by
  obtain ⟨x, ω1, ω2, r1, b1, s1, r2, s2, I2⟩ := pair_i (by decide) (by decide +kernel) (k_can h (ω.2.2.2 (i + 1)) (ω.2.2.2 (i + 2)))
  have A := lw hi hl
  have Q := pL_law_816 0 53 i ω (i_0 h.1)
  simp only [(A ()).1, (A ()).2.1, Int.toNat_natCast, lb (show i + 1 < ω.2.2.1 by omega), lb (show i + 2 < ω.2.2.1 by omega), r1, am_bi_s, s1, i_53 b1, r2, if_true, pL_law_1708, (A ()).2.2.2.2.2] at Q
  exact ⟨ω2, Q, I2, s2⟩
theorem lc_849 (h : Inv ω) (hi : i + 6 ≤ ω.2.2.1) (hl : ω.2.2.1 ≤ 3072) (hr : ∀ j, am_R32 (ω.2.2.2 j)) : LC 849 i ω := by
  obtain ⟨x, ω1, ω2, r1, b1, s1, r2, s2, I2⟩ := pair_i (by decide) (by decide +kernel) (k_behind h (ω.2.2.2 (i + 1)) (ω.2.2.2 (i + 2)) (ω.2.2.2 (i + 3)))
  have A := lw hi hl
  have Q := pL_law_849 0 53 i ω (i_0 h.1)
  simp only [(A ()).1, (A ()).2.1, (A ()).2.2.1, Int.toNat_natCast, lb (show i + 1 < ω.2.2.1 by omega), lb (show i + 2 < ω.2.2.1 by omega), lb (show i + 3 < ω.2.2.1 by omega), r1, am_bi_s, s1, i_53 b1, r2, if_true, pL_law_1708, (A ()).2.2.2.2.2] at Q
  exact ⟨ω2, Q, I2, s2⟩
theorem lc_892 (h : Inv ω) (hi : i + 6 ≤ ω.2.2.1) (hl : ω.2.2.1 ≤ 3072) (hr : ∀ j, am_R32 (ω.2.2.2 j)) : LC 892 i ω := by
  obtain ⟨x, ω1, ω2, r1, b1, s1, r2, s2, I2⟩ := pair_i (by decide) (by decide +kernel) (k_meets h (ω.2.2.2 (i + 1)) (ω.2.2.2 (i + 2)))
  have A := lw hi hl
  have Q := pL_law_892 0 53 i ω (i_0 h.1)
  simp only [(A ()).1, (A ()).2.1, Int.toNat_natCast, lb (show i + 1 < ω.2.2.1 by omega), lb (show i + 2 < ω.2.2.1 by omega), r1, am_bi_s, s1, i_53 b1, r2, if_true, pL_law_1708, (A ()).2.2.2.2.2] at Q
  exact ⟨ω2, Q, I2, s2⟩
theorem lc_925 (h : Inv ω) (hi : i + 6 ≤ ω.2.2.1) (hl : ω.2.2.1 ≤ 3072) (hr : ∀ j, am_R32 (ω.2.2.2 j)) : LC 925 i ω := by
  obtain ⟨x, ω1, ω2, r1, b1, s1, r2, s2, I2⟩ := pair_i (by decide) (by decide +kernel) (k_judge h (ω.2.2.2 (i + 1)) (ω.2.2.2 (i + 2)) (ω.2.2.2 (i + 3)))
  have A := lw hi hl
  have Q := pL_law_925 0 53 i ω (i_0 h.1)
  simp only [(A ()).1, (A ()).2.1, (A ()).2.2.1, Int.toNat_natCast, lb (show i + 1 < ω.2.2.1 by omega), lb (show i + 2 < ω.2.2.1 by omega), lb (show i + 3 < ω.2.2.1 by omega), r1, am_bi_s, s1, i_53 b1, r2, if_true, pL_law_1708, (A ()).2.2.2.2.2] at Q
  exact ⟨ω2, Q, I2, s2⟩
theorem lc_968 (h : Inv ω) (hi : i + 6 ≤ ω.2.2.1) (hl : ω.2.2.1 ≤ 3072) (hr : ∀ j, am_R32 (ω.2.2.2 j)) : LC 968 i ω := by
  obtain ⟨x, ω1, ω2, r1, b1, s1, r2, s2, I2⟩ := pair_i (by decide) (by decide +kernel) (k_flown h (ω.2.2.2 (i + 1)) (ω.2.2.2 (i + 2)) (ω.2.2.2 (i + 3)) (ω.2.2.2 (i + 4)))
  have A := lw hi hl
  have Q := pL_law_968 0 53 i ω (i_0 h.1)
  simp only [(A ()).1, (A ()).2.1, (A ()).2.2.1, (A ()).2.2.2.1, Int.toNat_natCast, lb (show i + 1 < ω.2.2.1 by omega), lb (show i + 2 < ω.2.2.1 by omega), lb (show i + 3 < ω.2.2.1 by omega), lb (show i + 4 < ω.2.2.1 by omega), r1, am_bi_s, s1, i_53 b1, r2, if_true, pL_law_1708, (A ()).2.2.2.2.2] at Q
  exact ⟨ω2, Q, I2, s2⟩
theorem lc_1021 (h : Inv ω) (hi : i + 6 ≤ ω.2.2.1) (hl : ω.2.2.1 ≤ 3072) (hr : ∀ j, am_R32 (ω.2.2.2 j)) : LC 1021 i ω := by
  obtain ⟨x, ω1, ω2, r1, b1, s1, r2, s2, I2⟩ := pair_i (by decide) (by decide +kernel) (k_met h (ω.2.2.2 (i + 1)) (ω.2.2.2 (i + 2)) (ω.2.2.2 (i + 3)) (ω.2.2.2 (i + 4)))
  have A := lw hi hl
  have Q := pL_law_1021 0 53 i ω (i_0 h.1)
  simp only [(A ()).1, (A ()).2.1, (A ()).2.2.1, (A ()).2.2.2.1, Int.toNat_natCast, lb (show i + 1 < ω.2.2.1 by omega), lb (show i + 2 < ω.2.2.1 by omega), lb (show i + 3 < ω.2.2.1 by omega), lb (show i + 4 < ω.2.2.1 by omega), r1, am_bi_s, s1, i_53 b1, r2, if_true, pL_law_1708, (A ()).2.2.2.2.2] at Q
  exact ⟨ω2, Q, I2, s2⟩
theorem lc_1074 (h : Inv ω) (hi : i + 6 ≤ ω.2.2.1) (hl : ω.2.2.1 ≤ 3072) (hr : ∀ j, am_R32 (ω.2.2.2 j)) : LC 1074 i ω := by
  obtain ⟨x, ω1, ω2, r1, b1, s1, r2, s2, I2⟩ := pair_i (by decide) (by decide +kernel) (k_cheapest h (ω.2.2.2 (i + 1)) (ω.2.2.2 (i + 2)) (ω.2.2.2 (i + 3)))
  have A := lw hi hl
  have Q := pL_law_1074 0 53 i ω (i_0 h.1)
  simp only [(A ()).1, (A ()).2.1, (A ()).2.2.1, Int.toNat_natCast, lb (show i + 1 < ω.2.2.1 by omega), lb (show i + 2 < ω.2.2.1 by omega), lb (show i + 3 < ω.2.2.1 by omega), r1, am_bi_s, s1, i_53 b1, r2, if_true, pL_law_1708, (A ()).2.2.2.2.2] at Q
  exact ⟨ω2, Q, I2, s2⟩
theorem lc_1117 (h : Inv ω) (hi : i + 6 ≤ ω.2.2.1) (hl : ω.2.2.1 ≤ 3072) (hr : ∀ j, am_R32 (ω.2.2.2 j)) : LC 1117 i ω := by
  obtain ⟨x, ω1, ω2, r1, b1, s1, r2, s2, I2⟩ := pair_i (by decide) (by decide +kernel) (k_soonest h (ω.2.2.2 (i + 1)) (ω.2.2.2 (i + 2)))
  have A := lw hi hl
  have Q := pL_law_1117 0 53 i ω (i_0 h.1)
  simp only [(A ()).1, (A ()).2.1, Int.toNat_natCast, lb (show i + 1 < ω.2.2.1 by omega), lb (show i + 2 < ω.2.2.1 by omega), r1, am_bi_s, s1, i_53 b1, r2, if_true, pL_law_1708, (A ()).2.2.2.2.2] at Q
  exact ⟨ω2, Q, I2, s2⟩
theorem lc_1193 (h : Inv ω) (hi : i + 6 ≤ ω.2.2.1) (hl : ω.2.2.1 ≤ 3072) (hr : ∀ j, am_R32 (ω.2.2.2 j)) : LC 1193 i ω := by
  obtain ⟨x, ω1, ω2, r1, b1, s1, r2, s2, I2⟩ := pair_i (by decide) (by decide +kernel) (k_round h (ω.2.2.2 (i + 1)) (ω.2.2.2 (i + 2)) (ω.2.2.2 (i + 3)) (hr _))
  have A := lw hi hl
  have Q := pL_law_1193 0 53 i ω (i_0 h.1)
  simp only [(A ()).1, (A ()).2.1, (A ()).2.2.1, Int.toNat_natCast, lb (show i + 1 < ω.2.2.1 by omega), lb (show i + 2 < ω.2.2.1 by omega), lb (show i + 3 < ω.2.2.1 by omega), r1, am_bi_s, s1, i_53 b1, r2, if_true, pL_law_1708, (A ()).2.2.2.2.2] at Q
  exact ⟨ω2, Q, I2, s2⟩
theorem lc_1236 (h : Inv ω) (hi : i + 6 ≤ ω.2.2.1) (hl : ω.2.2.1 ≤ 3072) (hr : ∀ j, am_R32 (ω.2.2.2 j)) : LC 1236 i ω := by
  obtain ⟨x, ω1, ω2, r1, b1, s1, r2, s2, I2⟩ := pair_i (by decide) (by decide +kernel) (k_home h (ω.2.2.2 (i + 1)) (ω.2.2.2 (i + 2)))
  have A := lw hi hl
  have Q := pL_law_1236 0 53 i ω (i_0 h.1)
  simp only [(A ()).1, (A ()).2.1, Int.toNat_natCast, lb (show i + 1 < ω.2.2.1 by omega), lb (show i + 2 < ω.2.2.1 by omega), r1, am_bi_s, s1, i_53 b1, r2, if_true, pL_law_1708, (A ()).2.2.2.2.2] at Q
  exact ⟨ω2, Q, I2, s2⟩
theorem lc_1283 (h : Inv ω) (hi : i + 6 ≤ ω.2.2.1) (hl : ω.2.2.1 ≤ 3072) (hr : ∀ j, am_R32 (ω.2.2.2 j)) : LC 1283 i ω := by
  obtain ⟨x, ω1, ω2, r1, b1, s1, r2, s2, I2⟩ := pair_i (by decide) (by decide +kernel) (k_pass h (ω.2.2.2 (i + 1)) (ω.2.2.2 (i + 2)))
  have A := lw hi hl
  have Q := pL_law_1283 0 53 i ω (i_0 h.1)
  simp only [(A ()).1, (A ()).2.1, Int.toNat_natCast, lb (show i + 1 < ω.2.2.1 by omega), lb (show i + 2 < ω.2.2.1 by omega), r1, am_bi_s, s1, i_53 b1, r2, if_true, pL_law_1708, (A ()).2.2.2.2.2] at Q
  exact ⟨ω2, Q, I2, s2⟩
theorem lc_1316 (h : Inv ω) (hi : i + 6 ≤ ω.2.2.1) (hl : ω.2.2.1 ≤ 3072) (hr : ∀ j, am_R32 (ω.2.2.2 j)) : LC 1316 i ω := by
  obtain ⟨x, ω1, ω2, r1, b1, s1, r2, s2, I2⟩ := pair_i (by decide) (by decide +kernel) (k_queue h (ω.2.2.2 (i + 1)) (ω.2.2.2 (i + 2)))
  have A := lw hi hl
  have Q := pL_law_1316 0 53 i ω (i_0 h.1)
  simp only [(A ()).1, (A ()).2.1, Int.toNat_natCast, lb (show i + 1 < ω.2.2.1 by omega), lb (show i + 2 < ω.2.2.1 by omega), r1, am_bi_s, s1, i_53 b1, r2, if_true, pL_law_1708, (A ()).2.2.2.2.2] at Q
  exact ⟨ω2, Q, I2, s2⟩
theorem lc_1349 (h : Inv ω) (hi : i + 6 ≤ ω.2.2.1) (hl : ω.2.2.1 ≤ 3072) (hr : ∀ j, am_R32 (ω.2.2.2 j)) : LC 1349 i ω := by
  obtain ⟨x, ω1, ω2, r1, b1, s1, r2, s2, I2⟩ := pair_i (by decide) (by decide +kernel) (k_fullest h )
  have A := lw hi hl
  have Q := pL_law_1349 0 53 i ω (i_0 h.1)
  simp only [Int.toNat_natCast, r1, am_bi_s, s1, i_53 b1, r2, if_true, pL_law_1708, (A ()).2.2.2.2.2] at Q
  exact ⟨ω2, Q, I2, s2⟩
theorem lc_1362 (h : Inv ω) (hi : i + 6 ≤ ω.2.2.1) (hl : ω.2.2.1 ≤ 3072) (hr : ∀ j, am_R32 (ω.2.2.2 j)) : LC 1362 i ω := by
  obtain ⟨x, ω1, ω2, r1, b1, s1, r2, s2, I2⟩ := pair_i (by decide) (by decide +kernel) (k_clash h (ω.2.2.2 (i + 1)))
  have A := lw hi hl
  have Q := pL_law_1362 0 53 i ω (i_0 h.1)
  simp only [(A ()).1, Int.toNat_natCast, lb (show i + 1 < ω.2.2.1 by omega), r1, am_bi_s, s1, i_53 b1, r2, if_true, pL_law_1708, (A ()).2.2.2.2.2] at Q
  exact ⟨ω2, Q, I2, s2⟩
theorem lc_1428 (h : Inv ω) (hi : i + 6 ≤ ω.2.2.1) (hl : ω.2.2.1 ≤ 3072) (hr : ∀ j, am_R32 (ω.2.2.2 j)) : LC 1428 i ω := by
  obtain ⟨x, ω1, ω2, r1, b1, s1, r2, s2, I2⟩ := pair_i (by decide) (by decide +kernel) (k_tag h (ω.2.2.2 (i + 1)) (ω.2.2.2 (i + 2)) (ω.2.2.2 (i + 3)))
  have A := lw hi hl
  have Q := pL_law_1428 0 53 i ω (i_0 h.1)
  simp only [(A ()).1, (A ()).2.1, (A ()).2.2.1, Int.toNat_natCast, lb (show i + 1 < ω.2.2.1 by omega), lb (show i + 2 < ω.2.2.1 by omega), lb (show i + 3 < ω.2.2.1 by omega), r1, am_bi_s, s1, i_53 b1, r2, if_true, pL_law_1708, (A ()).2.2.2.2.2] at Q
  exact ⟨ω2, Q, I2, s2⟩
theorem lc_1471 (h : Inv ω) (hi : i + 6 ≤ ω.2.2.1) (hl : ω.2.2.1 ≤ 3072) (hr : ∀ j, am_R32 (ω.2.2.2 j)) : LC 1471 i ω := by
  obtain ⟨x, ω1, ω2, r1, b1, s1, r2, s2, I2⟩ := pair_i (by decide) (by decide +kernel) (k_step h (ω.2.2.2 (i + 1)))
  have A := lw hi hl
  have Q := pL_law_1471 0 53 i ω (i_0 h.1)
  simp only [(A ()).1, Int.toNat_natCast, lb (show i + 1 < ω.2.2.1 by omega), r1, am_bi_s, s1, i_53 b1, r2, if_true, pL_law_1708, (A ()).2.2.2.2.2] at Q
  exact ⟨ω2, Q, I2, s2⟩
theorem lc_1494 (h : Inv ω) (hi : i + 6 ≤ ω.2.2.1) (hl : ω.2.2.1 ≤ 3072) (hr : ∀ j, am_R32 (ω.2.2.2 j)) : LC 1494 i ω := by
  obtain ⟨x, ω1, ω2, r1, b1, s1, r2, s2, I2⟩ := pair_i (by decide) (by decide +kernel) (k_change h (ω.2.2.2 (i + 1)) (ω.2.2.2 (i + 2)))
  have A := lw hi hl
  have Q := pL_law_1494 0 53 i ω (i_0 h.1)
  simp only [(A ()).1, (A ()).2.1, Int.toNat_natCast, lb (show i + 1 < ω.2.2.1 by omega), lb (show i + 2 < ω.2.2.1 by omega), r1, am_bi_s, s1, i_53 b1, r2, if_true, pL_law_1708, (A ()).2.2.2.2.2] at Q
  exact ⟨ω2, Q, I2, s2⟩
theorem lc_1527 (h : Inv ω) (hi : i + 6 ≤ ω.2.2.1) (hl : ω.2.2.1 ≤ 3072) (hr : ∀ j, am_R32 (ω.2.2.2 j)) : LC 1527 i ω := by
  obtain ⟨x, ω1, ω2, r1, b1, s1, r2, s2, I2⟩ := pair_i (by decide) (by decide +kernel) (k_hand h (ω.2.2.2 (i + 1)) (ω.2.2.2 (i + 2)) (ω.2.2.2 (i + 3)))
  have A := lw hi hl
  have Q := pL_law_1527 0 53 i ω (i_0 h.1)
  simp only [(A ()).1, (A ()).2.1, (A ()).2.2.1, Int.toNat_natCast, lb (show i + 1 < ω.2.2.1 by omega), lb (show i + 2 < ω.2.2.1 by omega), lb (show i + 3 < ω.2.2.1 by omega), r1, am_bi_s, s1, i_53 b1, r2, if_true, pL_law_1708, (A ()).2.2.2.2.2] at Q
  exact ⟨ω2, Q, I2, s2⟩
theorem lc_1570 (h : Inv ω) (hi : i + 6 ≤ ω.2.2.1) (hl : ω.2.2.1 ≤ 3072) (hr : ∀ j, am_R32 (ω.2.2.2 j)) : LC 1570 i ω := by
  obtain ⟨x, ω1, ω2, r1, b1, s1, r2, s2, I2⟩ := pair_i (by decide) (by decide +kernel) (k_hurl h (ω.2.2.2 (i + 1)) (ω.2.2.2 (i + 2)) (ω.2.2.2 (i + 3)))
  have A := lw hi hl
  have Q := pL_law_1570 0 53 i ω (i_0 h.1)
  simp only [(A ()).1, (A ()).2.1, (A ()).2.2.1, Int.toNat_natCast, lb (show i + 1 < ω.2.2.1 by omega), lb (show i + 2 < ω.2.2.1 by omega), lb (show i + 3 < ω.2.2.1 by omega), r1, am_bi_s, s1, i_53 b1, r2, if_true, pL_law_1708, (A ()).2.2.2.2.2] at Q
  exact ⟨ω2, Q, I2, s2⟩
theorem lc_1613 (h : Inv ω) (hi : i + 6 ≤ ω.2.2.1) (hl : ω.2.2.1 ≤ 3072) (hr : ∀ j, am_R32 (ω.2.2.2 j)) : LC 1613 i ω := by
  obtain ⟨x, ω1, ω2, r1, b1, s1, r2, s2, I2⟩ := pair_i (by decide) (by decide +kernel) (k_bolts h (ω.2.2.2 (i + 1)))
  have A := lw hi hl
  have Q := pL_law_1613 0 53 i ω (i_0 h.1)
  simp only [(A ()).1, Int.toNat_natCast, lb (show i + 1 < ω.2.2.1 by omega), r1, am_bi_s, s1, i_53 b1, r2, if_true, pL_law_1708, (A ()).2.2.2.2.2] at Q
  exact ⟨ω2, Q, I2, s2⟩
theorem lc_1659 (h : Inv ω) (hi : i + 6 ≤ ω.2.2.1) (hl : ω.2.2.1 ≤ 3072) (hr : ∀ j, am_R32 (ω.2.2.2 j)) : LC 1659 i ω := by
  obtain ⟨x, ω1, ω2, r1, b1, s1, r2, s2, I2⟩ := pair_i (by decide) (by decide +kernel) (k_image h )
  have A := lw hi hl
  have Q := pL_law_1659 0 53 i ω (i_0 h.1)
  simp only [Int.toNat_natCast, r1, am_bi_s, s1, i_53 b1, r2, if_true, pL_law_1708, (A ()).2.2.2.2.2] at Q
  exact ⟨ω2, Q, I2, s2⟩
theorem lc_1672 (h : Inv ω) (hi : i + 6 ≤ ω.2.2.1) (hl : ω.2.2.1 ≤ 3072) (hr : ∀ j, am_R32 (ω.2.2.2 j)) : LC 1672 i ω := by
  obtain ⟨x, ω1, ω2, r1, b1, s1, r2, s2, I2⟩ := pair_i (by decide) (by decide +kernel) (k_back h )
  have A := lw hi hl
  have Q := pL_law_1672 0 53 i ω (i_0 h.1)
  simp only [Int.toNat_natCast, r1, am_bi_s, s1, i_53 b1, r2, if_true, pL_law_1708, (A ()).2.2.2.2.2] at Q
  exact ⟨ω2, Q, I2, s2⟩
theorem lc_1685 (h : Inv ω) (hi : i + 6 ≤ ω.2.2.1) (hl : ω.2.2.1 ≤ 3072) (hr : ∀ j, am_R32 (ω.2.2.2 j)) : LC 1685 i ω := by
  obtain ⟨x, ω1, ω2, r1, b1, s1, r2, s2, I2⟩ := pair_i (by decide) (by decide +kernel) (k_status h (ω.2.2.2 (i + 1)) (hr _))
  have A := lw hi hl
  have Q := pL_law_1685 0 53 i ω (i_0 h.1)
  simp only [(A ()).1, Int.toNat_natCast, lb (show i + 1 < ω.2.2.1 by omega), r1, am_bi_s, s1, i_53 b1, r2, if_true, pL_law_1708, (A ()).2.2.2.2.2] at Q
  exact ⟨ω2, Q, I2, s2⟩
end K83
