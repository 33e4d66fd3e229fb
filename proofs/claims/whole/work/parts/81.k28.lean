/-! ===== back ===== -/
section K28
variable {ω : am_W}
theorem bkC_0 {K : Int} : bkC ω K 0 = ω := Prod.ext rfl (Prod.ext (funext fun a => funext fun k => if_neg (by omega)) rfl)
theorem bkM_0 {K : Int} : bkM ω K 0 = ω := Prod.ext rfl (Prod.ext (funext fun a => funext fun k => if_neg (by omega)) rfl)
theorem bkC_y {K : Int} {s k : Nat} (hs : s < 8) (hk : k < 2) (h : 10 + K ≤ am_get ω (37 + 2 * s) 0) : am_get (bkC ω K 8) (37 + 2 * s) k = if k = 0 then -1 else 0 := if_pos ⟨by omega, hk, h⟩
theorem bkC_n {K : Int} {s k : Nat} (h : ¬ 10 + K ≤ am_get ω (37 + 2 * s) 0) : am_get (bkC ω K 8) (37 + 2 * s) k = am_get ω (37 + 2 * s) k := if_neg (fun z => h z.2.2)
theorem bkC_e {K : Int} {s k : Nat} : am_get (bkC ω K 8) (38 + 2 * s) k = am_get ω (38 + 2 * s) k := if_neg (by omega)
theorem agF_V {r a k : Nat} (ha : 57 ≤ a ∧ a ≤ 63) (hk : k < 6) : am_get (agF ω r) a k = am_get ω r (6 * (a - 57) + k) := if_pos ⟨ha, hk⟩
theorem agF_o {r a k : Nat} (h1 : ¬ (57 ≤ a ∧ a ≤ 63)) (h2 : ¬ (a = 53 ∧ (k = 3 ∨ k = 6 ∨ k = 12 ∨ k = 13 ∨ k = 14))) : am_get (agF ω r) a k = am_get ω a k := (if_neg (fun z => h1 z.1)).trans ((if_neg (by omega)).trans ((if_neg (by omega)).trans ((if_neg (by omega)).trans ((if_neg (by omega)).trans (if_neg (by omega))))))
theorem agF_3 {r : Nat} : am_get (agF ω r) 53 3 = am_get ω r 42 := rfl
theorem agF_6 {r : Nat} : am_get (agF ω r) 53 6 = am_get ω r 43 := rfl
theorem agF_12 {r : Nat} : am_get (agF ω r) 53 12 = am_get ω r 44 := rfl
theorem agF_13 {r : Nat} : am_get (agF ω r) 53 13 = am_get ω r 45 := rfl
theorem agF_14 {r : Nat} : am_get (agF ω r) 53 14 = am_get ω r 46 := rfl
theorem k_back (h : Inv ω) : Pair 126 232 [some (.inr (.inr 0)), none] [some (.inr (.inr 53)), none] ω := by
  have h0 := h.1
  obtain ⟨e1, e2, e3, e4⟩ := inv_k h
  have b := fun k => rfz_bs (k := k) h0
  have p1 := pX6_back_0 0 ω (i_0 h0) (by simp only [Int.toNat_zero, f_0_0 h0]; exact i_1 h0)
  simp only [am_bi_s, am_bl_s, am_ba_s, am_bv_s, Int.toNat_zero, Int.reduceToNat, Int.toNat_natCast, if_true, if_false, not_true, not_false_eq_true, Int.reduceEq, Int.reduceLT, Int.reduceLE, f_0_0 h0, f_0_1 h0, c_become_1_11 h0, c_r5 h0] at p1
  obtain ⟨i0, i1⟩ := h.2.2.2.2.2.2.1
  have i0' : am_get ω 53 22 = am_get ω 0 2 := i0
  rcases i1 with i1 | ⟨g0, g1, g2, g3, g4, g5, g6, g7, g8, g9⟩
  · have i1' : am_get ω 0 2 = 0 := i1
    rw [i1', if_neg (by omega)] at p1
    refine pair_ref h 3 (by omega) p1 ?_
    have p2 := pX7_back_0 53 (rfz ω 3) (i_53 (b 3))
    have z : am_get (rfz ω 3) 53 22 = 0 := (rfz_get (by omega)).trans (i0'.trans i1')
    simp only [am_bi_s, am_bl_s, am_ba_s, am_bv_s, Int.toNat_zero, Int.reduceToNat, Int.toNat_natCast, if_true, if_false, not_true, not_false_eq_true, Int.reduceEq, Int.reduceLT, Int.reduceLE, z, m_r5 (b 3)] at p2
    exact p2
  · have g0' : am_get ω 0 2 = 1 := g0
    have D1 : Dc ω (becF ω 1 11) := becF_dc h0 (by omega)
    have B1 := h0.dc D1
    obtain ⟨K, hK⟩ : ∃ K, K = am_get ω 11 3 := ⟨_, rfl⟩
    have K6 : 0 ≤ K ∧ K ≤ 6 := by rw [hK]; exact g1.2.1
    have hk1 : ck (becF ω 1 11) 1 = K := (becF_W (d := 1) (s := 11) (k := 3) (by omega)).trans hK.symm
    have shO : ∀ s, s < 8 → am_get (becF ω 1 11) (37 + 2 * s) 0 = am_get ω (37 + 2 * s) 0 := fun s hs => becF_o (by omega)
    have shR : ∀ s, s < 8 → -1 ≤ am_get ω (37 + 2 * s) 0 ∧ am_get ω (37 + 2 * s) 0 ≤ 16 := fun s hs => by
      obtain ⟨-, -, q⟩ := h.2.2.2.2.1 s hs
      have k6 : am_get ω 1 3 ≤ 6 := e3.2
      unfold am_get at k6 ⊢
      rcases q with q | q | q <;> omega
    have lp := c_back_lp B1 hk1 K6 (fun s hs => by rw [shO s hs]; exact shR s hs) 8 0 (by omega)
    rw [bkC_0] at lp
    rw [g0', if_pos (by omega)] at p1
    have p1' := p1.trans lp
    have D2 := bkC_dc B1 (K := K) (i := 8) (by omega)
    have B2 := B1.dc D2
    have D3 := agF_dc B2 (r := 66)
    have B3 := B2.dc D3
    have hk3 : mk (agF (bkC (becF ω 1 11) K 8) 66) = K := agF_6.trans ((bkC_o (by omega)).trans ((becF_o (by omega)).trans (g6.trans hK.symm)))
    have lm := m_back_lp B3 hk3 K6 8 0 (by omega)
    rw [bkM_0] at lm
    have D4 := bkM_dc B3 (K := K) (i := 8)
    have p2 := pX7_back_0 53 (bkC (becF ω 1 11) K 8) (i_53 B2)
    have z22 : am_get (bkC (becF ω 1 11) K 8) 53 22 = 1 := (bkC_o (by omega)).trans ((becF_o (by omega)).trans (i0'.trans g0'))
    simp only [am_bi_s, am_bl_s, am_ba_s, am_bv_s, Int.toNat_zero, Int.reduceToNat, Int.toNat_natCast, if_true, if_false, not_true, not_false_eq_true, Int.reduceEq, Int.reduceLT, Int.reduceLE, z22, f_53_23 B2, m_again_66 B2] at p2
    have p2' := p2.trans lm
    have e : ∀ a k, ¬ ((1 ≤ a ∧ a ≤ 10) ∨ (37 ≤ a ∧ a ≤ 52) ∨ (57 ≤ a ∧ a ≤ 63) ∨ (a = 53 ∧ (k = 3 ∨ k = 6 ∨ k = 12 ∨ k = 13 ∨ k = 14)) ∨ a = 54) → am_get (bkM (agF (bkC (becF ω 1 11) K 8) 66) K 8) a k = am_get ω a k := fun a k g => (bkM_o (by omega)).trans ((agF_o (by omega) (by omega)).trans ((bkC_o (by omega)).trans (becF_o (by omega))))
    have lo : ∀ a k, a < 37 → am_get (bkM (agF (bkC (becF ω 1 11) K 8) 66) K 8) a k = am_get (becF ω 1 11) a k := fun a k g => (bkM_o (by omega)).trans ((agF_o (by omega) (by omega)).trans (bkC_o (by omega)))
    have hi66 : ∀ a k, (57 ≤ a ∧ a ≤ 63) → k < 6 → am_get (bkM (agF (bkC (becF ω 1 11) K 8) 66) K 8) a k = am_get ω 66 (6 * (a - 57) + k) := fun a k g hk => (bkM_o (by omega)).trans ((agF_V g hk).trans ((bkC_o (by omega)).trans (becF_o (by omega))))
    have s66 : ∀ k, am_get (bkC (becF ω 1 11) K 8) 66 k = am_get ω 66 k := fun k => (bkC_o (by omega)).trans (becF_o (by omega))
    refine ⟨_, _, _, p1', B2, rfl, p2', rfl, inv_kp _ h (D1.tr (D2.tr (D3.tr D4))) e (Or.inr ?_) (Or.inr ?_) (Or.inl (fun a k s b => by unfold S_tape at s; omega)) (Or.inr ?_) (Or.inl (fun a k s b => by unfold S_ref at s; omega)) (Or.inl (fun a k s b => by unfold S_img at s; omega))⟩
    · refine ⟨fun i hi f hf => ?_, fun j hj => ?_, fun j hj => ?_, ?_, ?_, ?_, ?_, ?_⟩
      · refine (hi66 _ _ (by omega) hi).trans (Eq.trans ?_ (lo _ _ (by omega)).symm)
        have := becF_V (ω := ω) (d := 1) (s := 11) hi hf
        rw [show 1 + 4 + i = 5 + i by omega, show 11 + 4 + i = 15 + i by omega] at this
        rw [this, show 6 * (59 + f - 57) + i = 12 + 6 * f + i by omega]
        exact g4 i hi f hf
      · refine (hi66 _ _ (by omega) hj).trans (Eq.trans ?_ (lo _ _ (by omega)).symm)
        rw [show 6 * (57 - 57) + j = j by omega]
        exact (g2 j hj).trans (becF_T (ω := ω) (d := 1) (s := 11) hj).symm
      · refine (hi66 _ _ (by omega) (by omega)).trans (Eq.trans ?_ (lo _ _ (by omega)).symm)
        rw [show 6 * (58 - 57) + j = 6 + j by omega]
        exact (g3 j hj).trans (becF_C (ω := ω) (d := 1) (s := 11) hj).symm
      · exact ((bkM_o (by omega)).trans (agF_3.trans (s66 42))).trans (g5.trans ((lo _ _ (by omega)).trans (becF_W (d := 1) (s := 11) (by omega))).symm)
      · exact ((bkM_o (by omega)).trans (agF_6.trans (s66 43))).trans (g6.trans ((lo _ _ (by omega)).trans (becF_W (d := 1) (s := 11) (by omega))).symm)
      · exact ((bkM_o (by omega)).trans (agF_12.trans (s66 44))).trans (g7.trans ((lo _ _ (by omega)).trans (becF_W (d := 1) (s := 11) (by omega))).symm)
      · exact ((bkM_o (by omega)).trans (agF_13.trans (s66 45))).trans (g8.trans ((lo _ _ (by omega)).trans (becF_W (d := 1) (s := 11) (by omega))).symm)
      · exact ((bkM_o (by omega)).trans (agF_14.trans (s66 46))).trans (g9.trans ((lo _ _ (by omega)).trans (becF_W (d := 1) (s := 11) (by omega))).symm)
    · exact osky_cp (m := ω.2.1) (w := 11) ((lo _ _ (by omega)).trans (becF_W (by omega))) ((lo _ _ (by omega)).trans (becF_W (by omega))) ((lo _ _ (by omega)).trans (becF_W (by omega))) (fun j hj => (lo _ _ (by omega)).trans (becF_T hj)) (fun j hj => (lo _ _ (by omega)).trans (becF_C hj)) (fun i hi f hf => (lo _ _ (by omega)).trans (becF_V hi hf)) g1
    · intro s hs
      obtain ⟨q1, q2, q3⟩ := h.2.2.2.2.1 s hs
      have c13 : am_get (bkM (agF (bkC (becF ω 1 11) K 8) 66) K 8) 1 3 = K := (lo _ _ (by omega)).trans hk1
      have c54 : am_get (agF (bkC (becF ω 1 11) K 8) 66) 54 s = am_get ω 54 s := (agF_o (by omega) (by omega)).trans ((bkC_o (by omega)).trans (becF_o (by omega)))
      have c55 : am_get (bkM (agF (bkC (becF ω 1 11) K 8) 66) K 8) 55 s = am_get ω 55 s := e _ _ (by omega)
      have up1 : ∀ a k, 37 ≤ a → a ≤ 52 → am_get (bkM (agF (bkC (becF ω 1 11) K 8) 66) K 8) a k = am_get (bkC (becF ω 1 11) K 8) a k := fun a k h1 h2 => (bkM_o (by omega)).trans (agF_o (by omega) (by omega))
      have sh := shO s hs
      have rng := shR s hs
      have q1' : am_get ω 54 s = am_get ω (37 + 2 * s) 0 := q1
      refine ⟨?_, fun j hj => ?_, ?_⟩
      · show am_get (bkM (agF (bkC (becF ω 1 11) K 8) 66) K 8) 54 s = am_get (bkM (agF (bkC (becF ω 1 11) K 8) 66) K 8) (37 + 2 * s) 0
        rw [up1 (37 + 2 * s) 0 (by omega) (by omega)]
        by_cases g : 10 + K ≤ am_get ω (37 + 2 * s) 0
        · rw [bkC_y hs (by omega) (by rw [sh]; exact g)]
          exact if_pos ⟨⟨rfl, hs⟩, by show 10 + K ≤ am_get (agF (bkC (becF ω 1 11) K 8) 66) 54 s; rw [c54, q1']; exact g⟩
        · rw [bkC_n (by rw [sh]; exact g), sh, ← q1', ← c54]
          exact if_neg (fun z => g (by have z2 : 10 + K ≤ am_get (agF (bkC (becF ω 1 11) K 8) 66) 54 s := z.2; rw [c54, q1'] at z2; exact z2))
      · show am_get (bkM (agF (bkC (becF ω 1 11) K 8) 66) K 8) 56 (40 * s + j) = am_get (bkM (agF (bkC (becF ω 1 11) K 8) 66) K 8) (38 + 2 * s) j
        rw [up1 (38 + 2 * s) j (by omega) (by omega), bkC_e, becF_o (by omega), e _ _ (by omega)]
        exact q2 j hj
      · show am_get (bkM (agF (bkC (becF ω 1 11) K 8) 66) K 8) (37 + 2 * s) 0 = -1 ∨ (0 ≤ am_get (bkM (agF (bkC (becF ω 1 11) K 8) 66) K 8) (37 + 2 * s) 0 ∧ am_get (bkM (agF (bkC (becF ω 1 11) K 8) 66) K 8) (37 + 2 * s) 0 ≤ 4 ∧ am_get (bkM (agF (bkC (becF ω 1 11) K 8) 66) K 8) 55 s = am_get (bkM (agF (bkC (becF ω 1 11) K 8) 66) K 8) (37 + 2 * s) 1 ∧ 0 ≤ am_get (bkM (agF (bkC (becF ω 1 11) K 8) 66) K 8) (37 + 2 * s) 1 ∧ am_get (bkM (agF (bkC (becF ω 1 11) K 8) 66) K 8) (37 + 2 * s) 1 ≤ 40) ∨ (10 ≤ am_get (bkM (agF (bkC (becF ω 1 11) K 8) 66) K 8) (37 + 2 * s) 0 ∧ am_get (bkM (agF (bkC (becF ω 1 11) K 8) 66) K 8) (37 + 2 * s) 0 < 10 + am_get (bkM (agF (bkC (becF ω 1 11) K 8) 66) K 8) 1 3)
        rw [up1 (37 + 2 * s) 0 (by omega) (by omega), up1 (37 + 2 * s) 1 (by omega) (by omega), c13, c55]
        by_cases g : 10 + K ≤ am_get ω (37 + 2 * s) 0
        · left
          rw [bkC_y hs (by omega) (by rw [sh]; exact g)]
          rfl
        · rw [bkC_n (by rw [sh]; exact g), bkC_n (by rw [sh]; exact g), sh, becF_o (by omega)]
          unfold am_get at g ⊢
          rcases q3 with q | q | q
          · exact Or.inl q
          · exact Or.inr (Or.inl q)
          · exact Or.inr (Or.inr ⟨q.1, by omega⟩)
end K28
