/-! ===== way ===== -/
section K97
variable {ω : am_W}
/-- the model finds the first step, also where the class has refused -/
theorem m_first34 {ω' : am_W} (h : Inv ω) (d : Dc ω ω') (e : ∀ a k, a ≠ 34 → am_get ω' a k = am_get ω a k) {i j N : Nat} (hN : am_get ω 1 3 = (N : Int)) (hi : i < N) (hj : j < N) : ∃ (ω2 : am_W) (z : Int), am_run (205, 0) 0 ([some (.inr (.inr 53)), some (.inl ((i : Int))), some (.inl ((j : Int))), some (.inl 60), some (.inl (cV ω 1 i 3)), some (.inl 1), none, none, none, none], [], ω') = some (some (.inl z), ω2) ∧ F29 ω' ω2 ∧ Fst (MWF (cn ω 1) (cT ω 1) (cC ω 1) (cV ω 1 i 0) (sQ (cV ω 1 i)) (sB (cV ω 1 i)) (cV ω 1 j)) (cV ω 1 i 3) (if z = 10000 then -1 else am_get ω2 53 29) := by
  obtain ⟨i6, s1, s2, s3, s4, s5, s6, s7⟩ := ship_q h hN hi
  have B' := h.1.dc d
  have E := inv_E5 h i6
  have kN : ck ω 1 = (N : Int) := hN
  obtain ⟨o0, o1, o2, o3, o4⟩ := inv_O h (i := i) (by omega)
  have t2 := inv_Tok h (am_get ω (5 + i) 1).toNat (by obtain ⟨_, _, _, e4⟩ := inv_k h; omega)
  obtain ⟨ω3, r3, f3, N3⟩ : ∃ ω3, am_run (201, 0) 0 ([some (.inr (.inr 53)), some (.inl ((i : Int))), some (.inl 0), none], [], ω') = some (none, ω3) ∧ F89 ω' ω3 ∧ NI ω3 (cn ω 1) (cT ω 1) (cC ω 1) (cV ω 1 i 0) (sQ (cV ω 1 i)) (sB (cV ω 1 i)) 0 := by
    rw [cV_5] at s1 s2 s3 s4 s5 s6 s7
    have eq : sQ (cV ω 1 i) = (am_get ω (5 + i) 1).toNat * 20 + (am_get ω (5 + i) 2).toNat := by rw [cV_5]; unfold sQ; omega
    rw [eq]
    have q : ∀ k, k < 5 → mV ω' i k = mV ω i k := fun k hk => e _ _ (by omega)
    exact m_begin B' i6 (by rw [q 1 (by omega), ← E 1 (by omega)]; omega) (by rw [q 2 (by omega), ← E 2 (by omega)]; omega) (by rw [q 4 (by omega), ← E 4 (by omega), cV_5]; exact s4) (by omega) (by omega) (by rw [cV_5]; exact s3)
  obtain ⟨_, m2, m3, m4, m5, m6, m7⟩ := ms_of h hN hi hj
  obtain ⟨k1, k2, k3, k4, k5, k6, k7, k8, k9⟩ := m2
  have ms : MS ω' i j (cn ω 1) (cT ω 1) (cC ω 1) (cV ω 1 i 0) (cV ω 1 j) (sQ (cV ω 1 i)) (sB (cV ω 1 i)) := ⟨B', ⟨k1, k2, k3, k4, k5, (e _ _ (by omega)).trans k6, fun j hj => (e _ _ (by omega)).trans (k7 j hj), fun j hj => (e _ _ (by omega)).trans (k8 j hj), (e _ _ (by omega)).trans k9⟩, m3, fun f hf => (m4 f hf).trans (e _ _ (by omega)).symm, m5, m6, m7⟩
  obtain ⟨ω4, z, r4, f4, L4⟩ := m_least1 (ms.kp f3) (D := cV ω 1 i 3) (by omega) 61 0 (by omega) ω3 none none F89.rf (Or.inl ⟨rfl, N3⟩) (fun t' ht' => absurd ht' (Nat.not_lt_zero _))
  have q1 := pX7_least_0 53 i j 60 (cV ω 1 i 3) 1 ω' (i_53 B')
  rw [bv_v r3] at q1
  exact ⟨ω4, z, q1.trans r4, ⟨f3.1.tr f4.1, fun a k z1 z2 z3 => (f4.2 a k z1 z2 z3).trans (f3.2 a k z1 z2)⟩, L4⟩
theorem ms_29 {ω' : am_W} {i o : Nat} {n : Int} {T C : Nat → Int} {K : Int} {u : Nat → Int} {q0 b0 : Nat} (m : MS ω i o n T C K u q0 b0) (f : F29 ω ω') {g G : Nat} (hg : spF T u (G : Int) = (g : Int)) (hG : G ≤ 60) : WS ω' i o n T C K u g G := by
  obtain ⟨m1, m2, m3, m4, m5, m6, m7⟩ := m
  obtain ⟨k1, k2, k3, k4, k5, k6, k7, k8, k9⟩ := m2
  exact ⟨m1.dc f.1, ⟨k1, k2, k3, k4, k5, (f.2 _ _ (by omega) (by omega) (by omega)).trans k6, fun j hj => (f.2 _ _ (by omega) (by omega) (by omega)).trans (k7 j hj), fun j hj => (f.2 _ _ (by omega) (by omega) (by omega)).trans (k8 j hj), (f.2 _ _ (by omega) (by omega) (by omega)).trans k9⟩, m3, fun j hj => (m4 j hj).trans (f.2 _ _ (by omega) (by omega) (by omega)).symm, m5, hg, hG⟩
theorem f7_inv {ω' : am_W} (h : Inv ω) (f : F7 ω ω') : Inv ω' := inv_scr h f.1 (fun a k z => f.2 a k (by unfold Sc at z; omega) (by unfold Sc at z; omega))
/-- the class's code -/
theorem c_codeOfWay (h : Inv ω) {p : Nat} (hP : Pls ω p) {i j N t : Nat} (hN : am_get ω 1 3 = (N : Int)) (hi : i < N) (hj : j < N) : ∃ (ω2 : am_W) (r a : Int), am_run (17, 0) 0 ([some (.inr (.inr ((p : Int)))), some (.inr (.inr (1 + 4 + (i : Int)))), some (.inl ((j : Int))), some (.inl ((t : Int))), none, none, none, none, none, none], [], ω) = some (some (.inl a), ω2) ∧ F72 ω ω2 ∧ Fst (WinS ω i (gE (am_shl 1 (j : Int)) N) (gN (am_shl 1 (j : Int)) N)) (cV ω 1 i 3) r ∧ ((r ≤ (t : Int) ∧ a = -1) ∨ ∃ G g : Nat, r = (G : Int) ∧ t < G ∧ G ≤ 60 ∧ spF (cT ω 1) (cV ω 1 j) (G : Int) = (g : Int) ∧ (∃ d, TgF (cn ω 1) (cT ω 1) (cC ω 1) (cV ω 1 i 0) g G (sQ (cV ω 1 i)) (sB (cV ω 1 i)) d) ∧ a = (AnF (cn ω 1) (cT ω 1) (cC ω 1) (cV ω 1 i 0) g G (sQ (cV ω 1 i)) (sB (cV ω 1 i)) t : Int)) := by
  obtain ⟨i6, s1, s2, s3, s4, s5, s6, s7⟩ := ship_q h hN hi
  obtain ⟨j6, _⟩ := ship_q h hN hj
  obtain ⟨ω2, r, r2, f2, R2, L2⟩ := c_first h hP hN hi (am_shl 1 (j : Int))
  have Q := pX1_codeOfWay_0 (p : Int) (1 + 4 + (i : Int)) j t ω (pl_is hP)
  rw [bi_v r2] at Q
  by_cases gt : (t : Int) < r
  · have I2 := R2.1
    have P2 := R2.2.1
    have hc := R2.cht
    have hw := R2.2.2.2.2.2.1
    obtain ⟨on, oT, oC⟩ := osk h
    have hN2 : am_get ω2 1 3 = (N : Int) := (f2.2 1 3 (by omega)).trans hN
    obtain ⟨_, zz, _, _, L4⟩ := m_first I2 hN2 hi hj
    have eq := first_eq f2 i6 hj (by have := h.2.2.1.2.1.2; have e : ω.2.1 1 3 = am_get ω 1 3 := rfl; omega) L2 L4
    rw [← eq] at L4
    have en : cn ω2 1 = cn ω 1 := f2.2 _ _ (by decide)
    have eT : cT ω2 1 = cT ω 1 := funext fun k => f2.2 _ _ (by decide)
    have eC : cC ω2 1 = cC ω 1 := funext fun k => f2.2 _ _ (by decide)
    have eV : ∀ k, k < 6 → cV ω2 1 k = cV ω 1 k := fun k hk => funext fun f => f2.2 _ _ (by omega)
    rw [en, eT, eC, eV i i6, eV j j6] at L4
    obtain ⟨G, rG, G60, ⟨d, _, ⟨g, w1, w2⟩⟩, _⟩ := L4.resolve_left (fun z => by omega)
    have w2' : spF (cT ω 1) (cV ω 1 j) (G : Int) = (g : Int) := w2
    have tg : TgF (cn ω 1) (cT ω 1) (cC ω 1) (cV ω 1 i 0) g G (sQ (cV ω 1 i)) (sB (cV ω 1 i)) d := by
      have := Tg_pid (g := g) G 0 g 0 d 0 w1 ⟨rfl, rfl, rfl⟩
      rw [Nat.add_zero, Nat.add_zero] at this
      exact this
    obtain ⟨bG, tg0⟩ := (Tg_b _ _ _ _).mp tg
    subst rG
    have isW1 : isW (1 : Int) := Or.inl rfl
    have Oj := inv_O I2 (i := j) (by have : ck ω2 1 = (N : Int) := hN2; omega)
    have sb := c_spotBehind (W := 1) I2.1 (Or.inl rfl) (by rw [en]; exact on.2) (by rw [eT]; exact oT) (v := 1 + 4 + (j : Int)) (is_V I2.1 (Or.inl rfl) j6) (by rw [show ((1 : Int) + 4 + (j : Int)).toNat = 5 + j by omega]; exact Oj) (t := (G : Int)) ⟨by omega, by omega⟩
    have ev : am_get ω2 (1 + 4 + (j : Int)).toNat = cV ω 1 j := eV j j6
    rw [ev, eT, w2'] at sb
    obtain ⟨ω3, r3, f3, B3⟩ := c_setToGo (g := g) P2 hw hc (fr := sB (cV ω 1 i)) G60 bG
    have f3' := f3.f72 P2.1
    have I3 := f3'.inv I2
    have P3 := P2.f72 f3'
    have q4 : am_get ω2 (1 + 4 + (i : Int)).toNat 4 = (sB (cV ω 1 i) : Int) := (f2.2 _ _ (by omega)).trans s4
    have q4' : am_get ω3 (1 + 4 + (i : Int)).toNat 4 = (sB (cV ω 1 i) : Int) := (f3'.2 _ _ (by omega)).trans q4
    have so : am_run (80, 0) 0 ([some (.inr (.inr 1)), some (.inr (.inr (1 + 4 + (i : Int))))], [], ω3) = some (some (.inl (sQ (cV ω 1 i) : Int)), ω3) := by
      rw [pX5_spotOf_0 _ _ _ (is_V I3.1 (W := 1) (Or.inl rfl) i6)]
      have a1 : am_get ω3 (1 + 4 + (i : Int)).toNat 1 = cV ω 1 i 1 := ((f3'.2 _ _ (by omega)).trans (f2.2 _ _ (by omega)))
      have a2 : am_get ω3 (1 + 4 + (i : Int)).toNat 2 = cV ω 1 i 2 := ((f3'.2 _ _ (by omega)).trans (f2.2 _ _ (by omega)))
      rw [a1, a2, am_w_s (z := cV ω 1 i 1 * 20) (by omega) (by omega), am_w_s (by omega) (by omega), s5]
    have x1 : am_get ω2 1 4 = 4 := w_S I2.1 (W := 1) (Or.inl rfl)
    have x2 : am_ina ω2 4 (j : Int) = true := ina_S I2.1 (W := 1) (Or.inl rfl) (Int.natCast_nonneg _) (by omega)
    have x3 : am_get ω2 4 j = 1 + 4 + (j : Int) := w_V I2.1 (W := 1) (Or.inl rfl) (by omega)
    have iv2 := is_V I2.1 (W := 1) (Or.inl rfl) i6
    have iv3 := is_V I3.1 (W := 1) (Or.inl rfl) i6
    rw [if_pos gt] at Q
    simp only [iv2, pl_is P2, am_bi_s, am_bl_s, am_ba_s, am_bv_s, Int.toNat_zero, Int.reduceToNat, Int.toNat_natCast, if_true, if_false, not_true, not_false_eq_true, Int.reduceEq, Int.reduceLT, Int.reduceLE, pl_0 P2, i_1 I2.1, x1, x2, x3, sb, q4, r3, iv3, pl_is P3, pl_0 P3, i_1 I3.1, so, q4'] at Q
    by_cases gs : sB (cV ω 1 i) ≤ t
    · have wk := c_walk P3 (f3.chw hw) hc G60 (i := t) (by omega) B3 (l1 := 1 + 4 + (i : Int)) (l2 := (j : Int)) (G - sB (cV ω 1 i)) (sB (cV ω 1 i)) (sQ (cV ω 1 i)) 0 (Nat.le_refl _) (Nat.le_refl _) gs (Nat.zero_le _) s1 ⟨d, tg0⟩ none none
      refine ⟨ω3, (G : Int), _, Q.trans wk, f2.tr f3', L2, Or.inr ⟨G, g, rfl, by omega, G60, w2', ⟨d, tg⟩, ?_⟩⟩
      rw [show AnF (cn ω 1) (cT ω 1) (cC ω 1) (cV ω 1 i 0) g G (sQ (cV ω 1 i)) (sB (cV ω 1 i)) t = _ from An_b _ _ _ _ bG, if_neg (by omega)]
    · refine ⟨ω3, (G : Int), 0, ?_, f2.tr f3', L2, Or.inr ⟨G, g, rfl, by omega, G60, w2', ⟨d, tg⟩, ?_⟩⟩
      · rw [Q, pX1_codeOfWay_65 _ _ _ _ _ _ _ _ _ _ _ (pl_is P3), if_neg (by omega), if_pos (by omega)]
      · rw [show AnF (cn ω 1) (cT ω 1) (cC ω 1) (cV ω 1 i 0) g G (sQ (cV ω 1 i)) (sB (cV ω 1 i)) t = _ from An_b _ _ _ _ bG, if_pos (by omega)]
        rfl
  · rw [if_neg gt] at Q
    exact ⟨ω2, r, -1, Q, f2, L2, Or.inl ⟨by omega, rfl⟩⟩
end K97
