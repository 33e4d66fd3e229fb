/-! ===== burnt: sightings as they should be ===== -/
section K103
variable {ω : am_W}
theorem cmp_l0 {x y : Int} : am_cmp x y < 0 ↔ x < y := by unfold am_cmp; by_cases a : x < y <;> by_cases b : x = y <;> simp [a, b]
theorem cmp_g0 {x y : Int} : 0 ≤ am_cmp x y ↔ y ≤ x := by unfold am_cmp; by_cases a : x < y <;> by_cases b : x = y <;> simp [a, b] <;> omega
def prR (R : Nat → Int) : Nat → Int
  | 0 => 0
  | k + 1 => R (3 * k)
def VS (n : Int) (T : Nat → Int) (R : Nat → Int) (k : Nat) : Prop := (prR R k ≤ R (3 * k) ∧ R (3 * k) ≤ 60) ∧ (0 ≤ R (3 * k + 1) ∧ R (3 * k + 1) < n) ∧ (0 ≤ R (3 * k + 2) ∧ R (3 * k + 2) < T (R (3 * k + 1)).toNat)
theorem ix3 {k : Nat} (hk : k ≤ 10) : ∀ _ : Unit, am_w (3 * (k : Int)) = ((3 * k : Nat) : Int) ∧ am_w (((3 * k : Nat) : Int) + 1) = ((3 * k + 1 : Nat) : Int) ∧ am_w (((3 * k : Nat) : Int) + 2) = ((3 * k + 2 : Nat) : Int) ∧ am_w ((k : Int) + 1) = ((k + 1 : Nat) : Int) := fun _ => ⟨(am_w_s (by omega) (by omega)).trans (by omega), (am_w_s (by omega) (by omega)).trans (by omega), (am_w_s (by omega) (by omega)).trans (by omega), (am_w_s (by omega) (by omega)).trans (by omega)⟩
theorem c_sight (h : Bs ω) (hn : cn ω 1 ≤ 6) {σ N : Nat} (hσ : σ < 8) (hN : N ≤ 10) (hz : (3 * N : Int) ≤ am_get ω (37 + 2 * σ) 1) : am_run (136, 0) 0 ([some (.inr (.inr 0)), some (.inr (.inr (((37 + 2 * σ : Nat) : Int)))), some (.inl ((N : Int))), none, none, none, none, none, none, none, none, none], [], ω) = some (some (.inl (b01 (∀ k, k < N → VS (cn ω 1) (cT ω 1) (am_get ω (38 + 2 * σ)) k))), ω) := by
  obtain ⟨R, hR⟩ : ∃ R, R = am_get ω (38 + 2 * σ) := ⟨_, rfl⟩
  have key : ∀ m k, k + m = N → (∀ j, j < k → VS (cn ω 1) (cT ω 1) R j) → ∀ o6 o8 o10 : Option am_V, am_run (136, 0) 5 ([some (.inr (.inr 0)), some (.inr (.inr (((37 + 2 * σ : Nat) : Int)))), some (.inl ((N : Int))), some (.inr (.inl (prR R k))), none, some (.inl ((k : Int))), o6, none, o8, none, o10, none], [], ω) = some (some (.inl (b01 (∀ k, k < N → VS (cn ω 1) (cT ω 1) R k))), ω) := by
    intro m
    induction m with
    | zero =>
      intro k hk J o6 o8 o10
      obtain rfl : k = N := by omega
      rw [pX6_areSightings_5 _ _ _ _ _ _ _ _ _ _ _ _ (is_shelf h hσ) (i_0 h) (by simp only [Int.toNat_zero, f_0_0 h]; exact i_1 h), if_pos (Int.le_refl _), b01_pos J]
    | succ m ih =>
      intro k hk J o6 o8 o10
      have kN : k < N := by omega
      have A := ix3 (k := k) (by omega)
      have Q := pX6_areSightings_5 0 ((37 + 2 * σ : Nat) : Int) N (prR R k) k o6 o8 o10 none none none ω (is_shelf h hσ) (i_0 h) (by simp only [Int.toNat_zero, f_0_0 h]; exact i_1 h)
      have z1 : ¬ am_get ω (37 + 2 * σ) 1 ≤ ((3 * k + 2 : Nat) : Int) := by omega
      rw [if_neg (by omega)] at Q
      simp only [Int.toNat_natCast, Int.toNat_zero, (A ()).1, (A ()).2.1, (A ()).2.2.1, (A ()).2.2.2, g_elem h hσ, in_elem h hσ (i := ((3 * k : Nat) : Int)) (Int.natCast_nonneg _) (by omega), in_elem h hσ (i := ((3 * k + 1 : Nat) : Int)) (Int.natCast_nonneg _) (by omega), in_elem h hσ (i := ((3 * k + 2 : Nat) : Int)) (Int.natCast_nonneg _) (by omega), if_neg z1, if_true, ← hR, f_0_0 h, Int.reduceToNat, cmp_l0, cmp_gt] at Q
      have fail : ¬ VS (cn ω 1) (cT ω 1) R k → b01 (∀ k, k < N → VS (cn ω 1) (cT ω 1) R k) = 0 := fun z => b01_neg (fun y => z (y k kN))
      have en : am_get ω 1 0 = cn ω 1 := rfl
      rw [en] at Q
      by_cases g1 : R (3 * k) < prR R k
      · rw [if_pos g1] at Q
        rw [Q, fail (fun z => by have := z.1.1; omega)]
      · rw [if_neg g1] at Q
        by_cases g2 : 60 < R (3 * k)
        · rw [if_pos g2] at Q
          rw [Q, fail (fun z => by have := z.1.2; omega)]
        · rw [if_neg g2] at Q
          by_cases g3 : R (3 * k + 1) < 0
          · rw [if_pos g3] at Q
            rw [Q, fail (fun z => by have := z.2.1.1; omega)]
          · rw [if_neg g3] at Q
            by_cases g4 : R (3 * k + 1) < cn ω 1
            · rw [if_pos g4] at Q
              by_cases g5 : R (3 * k + 2) < 0
              · rw [if_pos g5] at Q
                rw [Q, fail (fun z => by have := z.2.2.1; omega)]
              · rw [if_neg g5, am_w_s (z := R (3 * k + 1)) (by omega) (by omega), bi_v (c_timeOf h (W := 1) (Or.inl rfl) (by omega) g4 hn)] at Q
                by_cases g6 : R (3 * k + 2) < cT ω 1 (R (3 * k + 1)).toNat
                · rw [if_pos g6] at Q
                  rw [Q]
                  exact ih (k + 1) (by omega) (fun j hj => by
                    by_cases y : j = k
                    · rw [y]; exact ⟨⟨by omega, by omega⟩, ⟨by omega, g4⟩, by omega, g6⟩
                    · exact J j (by omega)) _ _ _
                · rw [if_neg g6] at Q
                  rw [Q, fail (fun z => g6 z.2.2.2)]
            · rw [if_neg g4] at Q
              rw [Q, fail (fun z => g4 z.2.1.2)]
  rw [pX6_areSightings_0, ← hR]
  exact key N 0 (by omega) (fun j hj => absurd hj (Nat.not_lt_zero _)) none none none
/-- the model's -/
theorem m_sight (h : Bs ω) {n : Int} {T R : Nat → Int} (on : n ≤ 6) (e1 : mn ω = n) (e2 : ∀ j, j < 6 → mT ω j = T j) {σ N : Nat} (hσ : σ < 8) (hN : N ≤ 10) (eR : ∀ j, j < 40 → am_get ω 56 (40 * σ + j) = R j) {l3 l4 : Int} : ∀ m k, k + m = N → (∀ j, j < k → VS n T R j) → ∀ o6 o8 o10 : Option am_V, ((∀ k, k < N → VS n T R k) → ∃ o6' o8' o10' : Option am_V, am_run (218, 0) 76 ([some (.inr (.inr 53)), some (.inl ((σ : Int))), some (.inl ((N : Int))), some (.inl l3), some (.inl l4), some (.inl ((k : Int))), o6, none, o8, none, o10, none], [], ω) = am_run (218, 0) 76 ([some (.inr (.inr 53)), some (.inl ((σ : Int))), some (.inl ((N : Int))), some (.inl l3), some (.inl l4), some (.inl ((N : Int))), o6', none, o8', none, o10', none], [], ω)) ∧ ((¬ ∀ k, k < N → VS n T R k) → am_run (218, 0) 76 ([some (.inr (.inr 53)), some (.inl ((σ : Int))), some (.inl ((N : Int))), some (.inl l3), some (.inl l4), some (.inl ((k : Int))), o6, none, o8, none, o10, none], [], ω) = some (some (.inl (-2)), noz ω 0)) := by
  intro m
  induction m with
  | zero =>
    intro k hk J o6 o8 o10
    obtain rfl : k = N := by omega
    exact ⟨fun _ => ⟨_, _, _, rfl⟩, fun z => absurd J z⟩
  | succ m ih =>
    intro k hk J o6 o8 o10
    have kN : k < N := by omega
    have A := ix3 (k := k) (by omega)
    have no := m_no h (k := 0) (by omega) (c := -2) (by omega)
    have ix : ∀ _ : Unit, am_w (am_w (40 * (σ : Int)) + ((3 * k : Nat) : Int)) = ((40 * σ + 3 * k : Nat) : Int) ∧ am_w (((40 * σ + 3 * k : Nat) : Int) + 1) = ((40 * σ + (3 * k + 1) : Nat) : Int) ∧ am_w (((40 * σ + 3 * k : Nat) : Int) + 2) = ((40 * σ + (3 * k + 2) : Nat) : Int) := fun _ => by
      refine ⟨?_, (am_w_s (by omega) (by omega)).trans (by omega), (am_w_s (by omega) (by omega)).trans (by omega)⟩
      rw [am_w_s (z := 40 * (σ : Int)) (by omega) (by omega), am_w_s (by omega) (by omega)]
      omega
    have n0 := n_56 h (i := ((40 * σ + 3 * k : Nat) : Int)) (by omega) (by omega)
    have n1 := n_56 h (i := ((40 * σ + (3 * k + 1) : Nat) : Int)) (by omega) (by omega)
    have n2 := n_56 h (i := ((40 * σ + (3 * k + 2) : Nat) : Int)) (by omega) (by omega)
    have q161 := pX7_burnt_161 53 σ N l3 l4 k (R (3 * k)) (R (3 * k + 1)) (R (3 * k + 2)) (R (3 * k)) (prR R k) ω (i_53 h)
    have Q0 := pX7_burnt_76 53 σ N l3 l4 k o6 o8 o10 none none none ω (i_53 h)
    rw [if_neg (by omega)] at Q0
    simp only [(A ()).1, (ix ()).1, (ix ()).2.1, (ix ()).2.2, Int.toNat_natCast, am_bi_s, am_bl_s, am_ba_s, am_bv_s, Int.toNat_zero, Int.reduceToNat, Int.toNat_natCast, if_true, if_false, not_true, not_false_eq_true, Int.reduceEq, Int.reduceLT, Int.reduceLE, f_53_2 h, n0, n1, n2, eR (3 * k) (by omega), eR (3 * k + 1) (by omega), eR (3 * k + 2) (by omega)] at Q0
    have Q1 : am_run (218, 0) 76 ([some (.inr (.inr 53)), some (.inl ((σ : Int))), some (.inl ((N : Int))), some (.inl l3), some (.inl l4), some (.inl ((k : Int))), o6, none, o8, none, o10, none], [], ω) = am_run (218, 0) 161 ([some (.inr (.inr 53)), some (.inl ((σ : Int))), some (.inl ((N : Int))), some (.inl l3), some (.inl l4), some (.inl ((k : Int))), some (.inr (.inl (R (3 * k)))), none, some (.inr (.inl (R (3 * k + 1)))), none, some (.inr (.inl (R (3 * k + 2)))), none], [(.inr (.inl (prR R k))), (.inr (.inl (R (3 * k))))], ω) := by
      rw [Q0]
      cases k with
      | zero => rw [if_pos (by omega)]; rfl
      | succ k =>
        have w3 : ∀ _ : Unit, am_w (((40 * σ + 3 * (k + 1) : Nat) : Int) - 3) = ((40 * σ + 3 * k : Nat) : Int) := fun _ => (am_w_s (by omega) (by omega)).trans (by omega)
        rw [if_neg (by omega), w3 (), if_pos (n_56 h (by omega) (by omega)), Int.toNat_natCast, eR (3 * k) (by omega)]
        rfl
    simp only [am_bi_s, am_bl_s, am_ba_s, am_bv_s, Int.toNat_zero, Int.reduceToNat, Int.toNat_natCast, if_true, if_false, not_true, not_false_eq_true, Int.reduceEq, Int.reduceLT, Int.reduceLE, cmp_l0, cmp_gt, cmp_g0, (A ()).2.2.2, show am_get ω 53 3 = n from e1, f_53_4 h, no] at q161
    have bad : ¬ VS n T R k → ¬ ∀ k, k < N → VS n T R k := fun z y => z (y k kN)
    have fin : ∀ (X : ¬ VS n T R k), am_run (218, 0) 161 ([some (.inr (.inr 53)), some (.inl ((σ : Int))), some (.inl ((N : Int))), some (.inl l3), some (.inl l4), some (.inl ((k : Int))), some (.inr (.inl (R (3 * k)))), none, some (.inr (.inl (R (3 * k + 1)))), none, some (.inr (.inl (R (3 * k + 2)))), none], [(.inr (.inl (prR R k))), (.inr (.inl (R (3 * k))))], ω) = some (some (.inl (-2)), noz ω 0) → ((∀ k, k < N → VS n T R k) → ∃ o6' o8' o10' : Option am_V, am_run (218, 0) 76 ([some (.inr (.inr 53)), some (.inl ((σ : Int))), some (.inl ((N : Int))), some (.inl l3), some (.inl l4), some (.inl ((k : Int))), o6, none, o8, none, o10, none], [], ω) = am_run (218, 0) 76 ([some (.inr (.inr 53)), some (.inl ((σ : Int))), some (.inl ((N : Int))), some (.inl l3), some (.inl l4), some (.inl ((N : Int))), o6', none, o8', none, o10', none], [], ω)) ∧ ((¬ ∀ k, k < N → VS n T R k) → am_run (218, 0) 76 ([some (.inr (.inr 53)), some (.inl ((σ : Int))), some (.inl ((N : Int))), some (.inl l3), some (.inl l4), some (.inl ((k : Int))), o6, none, o8, none, o10, none], [], ω) = some (some (.inl (-2)), noz ω 0)) := fun X e => ⟨fun z => absurd z (bad X), fun _ => Q1.trans e⟩
    by_cases g1 : R (3 * k) < prR R k
    · rw [if_pos g1] at q161
      exact fin (fun z => by have := z.1.1; omega) q161
    · rw [if_neg g1] at q161
      by_cases g2 : 60 < R (3 * k)
      · rw [if_pos g2] at q161
        exact fin (fun z => by have := z.1.2; omega) q161
      · rw [if_neg g2] at q161
        by_cases g3 : R (3 * k + 1) < 0
        · rw [if_pos g3] at q161
          exact fin (fun z => by have := z.2.1.1; omega) q161
        · rw [if_neg g3] at q161
          by_cases g4 : n ≤ R (3 * k + 1)
          · rw [if_pos g4] at q161
            exact fin (fun z => by have := z.2.1.2; omega) q161
          · rw [if_neg g4] at q161
            by_cases g5 : R (3 * k + 2) < 0
            · rw [if_pos g5] at q161
              exact fin (fun z => by have := z.2.2.1; omega) q161
            · have t57 : am_get ω 57 (R (3 * k + 1)).toNat = T (R (3 * k + 1)).toNat := e2 _ (by omega)
              rw [if_neg g5, am_w_s (z := R (3 * k + 1)) (by omega) (by omega), if_pos (n_57 h (by omega) (by omega)), t57] at q161
              by_cases g6 : R (3 * k + 2) < T (R (3 * k + 1)).toNat
              · rw [if_pos g6] at q161
                have J' : ∀ j, j < k + 1 → VS n T R j := fun j hj => by
                  by_cases y : j = k
                  · rw [y]; exact ⟨⟨by omega, by omega⟩, ⟨by omega, by omega⟩, by omega, g6⟩
                  · exact J j (by omega)
                obtain ⟨i1, i2⟩ := ih (k + 1) (by omega) J' (some (.inr (.inl (R (3 * k))))) (some (.inr (.inl (R (3 * k + 1))))) (some (.inr (.inl (R (3 * k + 2)))))
                refine ⟨fun z => ?_, fun z => Q1.trans (q161.trans (i2 z))⟩
                obtain ⟨a, b, c, r⟩ := i1 z
                exact ⟨a, b, c, Q1.trans (q161.trans r)⟩
              · rw [if_neg g6] at q161
                exact fin (fun z => g6 z.2.2.2) q161
/-- as spots -/
theorem vs_ok {n : Int} {T R : Nat → Int} (on : n ≤ 6) (oT : Tok T) {N : Nat} (h : ∀ k, k < N → VS n T R k) : Rw R (fun k => (R (3 * k)).toNat) (fun k => (R (3 * k + 1) * 20 + R (3 * k + 2)).toNat) N ∧ SgO n T (fun k => (R (3 * k)).toNat) (fun k => (R (3 * k + 1) * 20 + R (3 * k + 2)).toNat) N := by
  have p0 : ∀ k, k < N → 0 ≤ prR R k := by
    intro k
    induction k with
    | zero => intro _; exact Int.le_refl _
    | succ k ih =>
      intro hk
      have a := ih (by omega)
      have b := (h k (by omega)).1.1
      show 0 ≤ R (3 * k)
      omega
  refine ⟨fun k hk => ?_, fun k hk => ?_⟩
  · obtain ⟨⟨a1, a2⟩, ⟨a3, a4⟩, a5, a6⟩ := h k hk
    have := p0 k hk
    have t := oT (R (3 * k + 1)).toNat (by omega)
    refine ⟨?_, a3, by omega, a5, by omega, ?_⟩
    · show R (3 * k) = (((R (3 * k)).toNat : Nat) : Int)
      omega
    · show _ = (((R (3 * k + 1) * 20 + R (3 * k + 2)).toNat : Nat) : Int)
      omega
  · obtain ⟨⟨a1, a2⟩, ⟨a3, a4⟩, a5, a6⟩ := h k hk
    have := p0 k hk
    have t := oT (R (3 * k + 1)).toNat (by omega)
    refine ⟨?_, by show (R (3 * k)).toNat ≤ 60; omega, ?_⟩
    · cases k with
      | zero => exact Nat.zero_le _
      | succ k =>
        have a1' : R (3 * k) ≤ R (3 * (k + 1)) := a1
        show (R (3 * k)).toNat ≤ (R (3 * (k + 1))).toNat
        omega
    · have q1 : (R (3 * k + 1) * 20 + R (3 * k + 2)).toNat / 20 = (R (3 * k + 1)).toNat := by omega
      have q2 : (R (3 * k + 1) * 20 + R (3 * k + 2)).toNat % 20 = (R (3 * k + 2)).toNat := by omega
      show cvd n T _
      unfold cvd
      rw [q1, q2]
      exact ⟨by omega, by omega⟩
end K103
