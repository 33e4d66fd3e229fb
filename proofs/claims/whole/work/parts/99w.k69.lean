/-! ===== soonest ===== -/
section K69
variable {ω : am_W}
def F29 (ω ω' : am_W) : Prop := Dc ω ω' ∧ ∀ a k, a ≠ 68 → a ≠ 69 → ¬ (a = 53 ∧ k = 29) → am_get ω' a k = am_get ω a k
theorem f29_inv {ω' : am_W} (h : Inv ω) (f : F29 ω ω') : Inv ω' := inv_scr h f.1 (fun a k z => f.2 a k (by unfold Sc at z; omega) (by unfold Sc at z; omega) (by unfold Sc at z; omega))
section LL
variable {n : Int} {T C : Nat → Int} {K : Int} {q0 b0 i o : Nat} {u : Nat → Int}
theorem m_least1 (h : MS ω i o n T C K u q0 b0) {D : Int} (hD : D < 10000) : ∀ k t : Nat, t + k = 61 → ∀ (ω1 : am_W) (o8 o9 : Option am_V), F89 ω ω1 → ((t = 0 ∧ NI ω1 n T C K q0 b0 0) ∨ ∃ t', t = t' + 1 ∧ NI ω1 n T C K q0 b0 t') → (∀ t', t' < t → ∀ d : Nat, MWF n T C K q0 b0 u t' d → (d : Int) ≤ D → False) → ∃ (ω2 : am_W) (r : Int), am_run (205, 0) 14 ([some (.inr (.inr 53)), some (.inl ((i : Int))), some (.inl ((o : Int))), some (.inl 60), some (.inl D), some (.inl 1), some (.inl 10000), some (.inl ((t : Int))), o8, o9], [], ω1) = some (some (.inl r), ω2) ∧ F29 ω ω2 ∧ Fst (MWF n T C K q0 b0 u) D (if r = 10000 then -1 else am_get ω2 53 29) := by
  obtain ⟨h1, h2, h3, h4, h5, h6, h7⟩ := id h
  obtain ⟨on, oT, _⟩ := id h2
  have hc := mp_c h2
  intro k
  induction k with
  | zero =>
    intro t ht ω1 o8 o9 f N I
    obtain rfl : t = 61 := by omega
    have Q := pX7_least_14 53 i o 60 D 1 10000 ((61 : Nat) : Int) o8 o9 ω1 (i_53 (h1.dc f.1))
    rw [if_pos (by omega)] at Q
    refine ⟨ω1, 10000, Q, ⟨f.1, fun a k z1 z2 _ => f.2 a k z1 z2⟩, ?_⟩
    rw [if_pos rfl]
    exact Or.inl ⟨rfl, fun t ht => I t (by omega)⟩
  | succ k ih =>
    intro t ht ω1 o8 o9 f N I
    obtain ⟨ω2, o8', r2, f2, N2⟩ := m_turn (h.kp f) (last := 60) (by omega) (by omega) N (l4 := D) (l5 := 1) (l6 := 10000) (o8 := o8) (o9 := o9)
    obtain ⟨v1, v2⟩ := v_at on.2 oT h5 N2
    have Q := pX7_least_69 53 i o 60 D 1 10000 t o8' (vAt ω2 T u t) o9 ω2
    have tw : ∀ _ : Unit, am_w ((t : Int) + 1) = ((t + 1 : Nat) : Int) := fun _ => (am_w_s (by omega) (by omega)).trans (by omega)
    rw [tw ()] at Q
    have B2 := (h1.dc f.1).dc f2.1
    by_cases g : vAt ω2 T u t ≤ D
    · obtain ⟨d, v, w⟩ := v1.resolve_left (by omega)
      obtain ⟨m1, m2, m3⟩ := mi2_l (a := 10000) (b := vAt ω2 T u t)
      rw [if_pos g, bi_v j_min, if_pos (by omega), if_pos (i_53 B2)] at Q
      refine ⟨_, _, r2.trans Q, ⟨(f.1.tr f2.1).tr (Dc.put (am_rp_at (bs_sh B2 (a := 53) rfl))), fun a k z1 z2 z3 => (if_neg z3).trans (((f.tr f2).2 a k z1 z2))⟩, ?_⟩
      rw [if_neg (by omega)]
      refine Or.inr ⟨t, gp_same, by omega, ⟨d, by omega, w⟩, I⟩
    · rw [if_neg g] at Q
      obtain ⟨ω3, r, q, rest⟩ := ih (t + 1) (by omega) ω2 _ _ (f.tr f2) (Or.inr ⟨t, rfl, N2⟩) (fun t' ht' d w hd => by
        by_cases y : t' = t
        · rw [y] at w
          have := v2 d w
          omega
        · exact I t' (by omega) d w hd)
      exact ⟨ω3, r, r2.trans (Q.trans q), rest⟩
end LL
/-- the model finds the first step -/
theorem m_first (h : Inv ω) {i j N : Nat} (hN : am_get ω 1 3 = (N : Int)) (hi : i < N) (hj : j < N) : ∃ (ω' : am_W) (z : Int), am_run (205, 0) 0 ([some (.inr (.inr 53)), some (.inl ((i : Int))), some (.inl ((j : Int))), some (.inl 60), some (.inl (cV ω 1 i 3)), some (.inl 1), none, none, none, none], [], ω) = some (some (.inl z), ω') ∧ F29 ω ω' ∧ Fst (MWF (cn ω 1) (cT ω 1) (cC ω 1) (cV ω 1 i 0) (sQ (cV ω 1 i)) (sB (cV ω 1 i)) (cV ω 1 j)) (cV ω 1 i 3) (if z = 10000 then -1 else am_get ω' 53 29) := by
  obtain ⟨i6, s1, s2, s3, s4, s5, s6, s7⟩ := ship_q h hN hi
  obtain ⟨ω3, r3, f3, N3⟩ := m_begun h hN hi (n := cn ω 1) (T := cT ω 1) (C := cC ω 1) (K := cV ω 1 i 0)
  have ms := ms_of h hN hi hj
  obtain ⟨ω4, z, r4, f4, L4⟩ := m_least1 (ms.kp f3) (D := cV ω 1 i 3) (by omega) 61 0 (by omega) ω3 none none F89.rf (Or.inl ⟨rfl, N3⟩) (fun t' ht' => absurd ht' (Nat.not_lt_zero _))
  have q1 := pX7_least_0 53 i j 60 (cV ω 1 i 3) 1 ω (i_53 h.1)
  rw [bv_v r3] at q1
  exact ⟨ω4, z, q1.trans r4, ⟨f3.1.tr f4.1, fun a k z1 z2 z3 => (f4.2 a k z1 z2 z3).trans (f3.2 a k z1 z2)⟩, L4⟩
/-- the first steps of the class and of the model are one -/
theorem first_eq {ω1 ω2 : am_W} (f2 : F72 ω1 ω2) {i j N : Nat} (hi : i < 6) (hj : j < N) (N6 : N ≤ 6) {r r' : Int} (L2 : Fst (WinS ω1 i (gE (am_shl 1 (j : Int)) N) (gN (am_shl 1 (j : Int)) N)) (cV ω1 1 i 3) r) (L4 : Fst (MWF (cn ω2 1) (cT ω2 1) (cC ω2 1) (cV ω2 1 i 0) (sQ (cV ω2 1 i)) (sB (cV ω2 1 i)) (cV ω2 1 j)) (cV ω2 1 i 3) r') : r = r' := by
  obtain ⟨g1, g2⟩ := gN_1 hj N6
  have en : cn ω2 1 = cn ω1 1 := f2.2 _ _ (by decide)
  have eT : cT ω2 1 = cT ω1 1 := funext fun k => f2.2 _ _ (by decide)
  have eC : cC ω2 1 = cC ω1 1 := funext fun k => f2.2 _ _ (by decide)
  have eV : ∀ k, k < 6 → cV ω2 1 k = cV ω1 1 k := fun k hk => funext fun f => f2.2 _ _ (by omega)
  rw [en, eT, eC, eV i hi, eV j (by omega)] at L4
  rw [g1] at L2
  exact Fst_u (fun t d w => mw_of (hr_1 g2) t d w) (fun t d w => mw_to (hr_1 g2) w) L2 L4
theorem k_soonest (h : Inv ω) (s o : Int) : Pair 108 207 [some (.inr (.inr 0)), some (.inl s), some (.inl o)] [some (.inr (.inr 53)), some (.inl s), some (.inl o)] ω := by
  have h0 := h.1
  obtain ⟨e1, e2, e3, e4⟩ := inv_k h
  have b := fun k => rfz_bs (k := k) h0
  have p1 := pX6_soonest_0 0 s o ω (i_0 h0) (by simp only [Int.toNat_zero, f_0_0 h0]; exact i_1 h0)
  simp only [am_bi_s, am_bl_s, am_ba_s, am_bv_s, Int.toNat_zero, Int.reduceToNat, Int.toNat_natCast, if_true, if_false, not_true, not_false_eq_true, Int.reduceEq, Int.reduceLT, Int.reduceLE, i_0 h0, i_1 h0, f_0_0 h0, f_0_3 h0, f_0_4 h0, f_1_1 h0, f_1_2 h0, f_1_4 h0, c_hasPair h0 W1, c_r2 h0] at p1
  by_cases hp : (0 ≤ s ∧ s < ck ω 1) ∧ (0 ≤ o ∧ o < ck ω 1) ∧ s ≠ o
  · obtain ⟨i, rfl⟩ : ∃ i : Nat, s = i := ⟨s.toNat, by omega⟩
    obtain ⟨j, rfl⟩ : ∃ j : Nat, o = j := ⟨o.toNat, by omega⟩
    obtain ⟨N, hN⟩ : ∃ N : Nat, ck ω 1 = N := ⟨(ck ω 1).toNat, by omega⟩
    rw [b01_pos hp, if_pos (show ¬ (1 : Int) = 0 by omega)] at p1
    obtain ⟨ω1, p, r1, I1, P1, sc1, lo1⟩ := c_thinking h
    have hN1 : am_get ω1 1 3 = (N : Int) := (lo1 1 3 (by omega) (by omega)).trans hN
    have N6 : N ≤ 6 := by omega
    have iN : i < N := by omega
    have jN : j < N := by omega
    obtain ⟨ω2, r, r2, f2, _, L2⟩ := c_first I1 P1 hN1 iN (am_shl 1 (j : Int))
    have w1 : am_get ω1 1 4 = 4 := w_S I1.1 (W := 1) (Or.inl rfl)
    have w2 : am_ina ω1 4 (i : Int) = true := ina_S I1.1 (W := 1) (Or.inl rfl) (Int.natCast_nonneg _) (by omega)
    have w3 : am_get ω1 4 i = 1 + 4 + (i : Int) := w_V I1.1 (W := 1) (Or.inl rfl) (by omega)
    rw [ba_v r1] at p1
    simp only [am_bi_s, am_bl_s, am_ba_s, am_bv_s, Int.toNat_zero, Int.reduceToNat, Int.toNat_natCast, if_true, if_false, not_true, not_false_eq_true, Int.reduceEq, Int.reduceLT, Int.reduceLE, i_0 I1.1, f_0_0 I1.1, i_1 I1.1, w1, w2, w3, pl_is P1, r2] at p1
    have I2 := f2.inv I1
    have hN2 : am_get ω2 1 3 = (N : Int) := (f2.2 1 3 (by omega)).trans hN1
    obtain ⟨a1, a2, a3, a4⟩ := inv_k I2
    have kk : mk ω2 = ck ω 1 := by rw [a1, hN]; exact hN2
    obtain ⟨ω4, z, q2, f4, L4⟩ := m_first I2 hN2 iN jN
    have I4 := f29_inv I2 f4
    have d62 : am_get ω2 62 i = cV ω2 1 i 3 := by rw [cV_5]; exact (inv_E5 I2 (i := i) (by omega) 3 (by omega)).symm
    have p2 := pX7_soonest_0 53 i j ω2 (i_53 I2.1)
    simp only [m_areTwo I2.1 (by rw [a1]; exact a3), kk, b01_pos hp, am_bi_s, am_bl_s, am_ba_s, am_bv_s, Int.toNat_zero, Int.reduceToNat, Int.toNat_natCast, if_true, if_false, not_true, not_false_eq_true, Int.reduceEq, Int.reduceLT, Int.reduceLE, i_53 I2.1, f_53_10 I2.1, n_62 I2.1 (i := (i : Int)) (by omega) (by omega), d62, q2, i_53 I4.1] at p2
    have eq := first_eq f2 (by omega) jN N6 L2 L4
    have fin : am_run (207, 0) 0 ([some (.inr (.inr 53)), some (.inl ((i : Int))), some (.inl ((j : Int)))], [], ω2) = some (some (.inl r), ω4) := by
      rw [p2, eq]
      by_cases g : z = 10000
      · rw [if_neg (fun y => y g), if_pos g]
      · rw [if_pos g, if_neg g]
    exact ⟨_, _, _, p1, I2.1, f2.1.2.1.trans sc1, fin, (f4.1.2.1.trans (f2.1.2.1.trans sc1)), I4⟩
  · rw [b01_neg hp, if_neg (fun z => z rfl)] at p1
    refine pair_ref h 0 (by omega) p1 ?_
    rw [pX7_soonest_0 _ _ _ _ (i_53 (b 0))]
    simp only [m_areTwo (b 0) (by rw [mk_rfz, e1]; exact e3), mk_rfz, e1, b01_neg hp, am_bi_s, am_bl_s, am_ba_s, am_bv_s, Int.toNat_zero, Int.reduceToNat, Int.toNat_natCast, if_true, if_false, not_true, not_false_eq_true, Int.reduceEq, Int.reduceLT, Int.reduceLE, i_53 (b 0), m_r2 (b 0)]
end K69
