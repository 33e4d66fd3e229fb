/-! ===== way: both ===== -/
section K98
variable {ω : am_W}
theorem sky72 {ω' : am_W} (f : F72 ω ω') : cn ω' 1 = cn ω 1 ∧ cT ω' 1 = cT ω 1 ∧ cC ω' 1 = cC ω 1 ∧ ∀ k, k < 6 → cV ω' 1 k = cV ω 1 k := ⟨f.2 _ _ (by decide), funext fun k => f.2 _ _ (by decide), funext fun k => f.2 _ _ (by decide), fun k hk => funext fun j => f.2 _ _ (by omega)⟩
theorem k_way (h : Inv ω) (s o t : Int) : Pair 109 209 [some (.inr (.inr 0)), some (.inl s), some (.inl o), some (.inl t), none] [some (.inr (.inr 53)), some (.inl s), some (.inl o), some (.inl t), none, none, none, none, none, none, none, none] ω := by
  have h0 := h.1
  obtain ⟨e1, e2, e3, e4⟩ := inv_k h
  have b := fun k => rfz_bs (k := k) h0
  have p1 := pX6_way_0 0 s o t ω (i_0 h0) (by simp only [Int.toNat_zero, f_0_0 h0]; exact i_1 h0)
  simp only [am_bi_s, am_bl_s, am_ba_s, am_bv_s, Int.toNat_zero, Int.reduceToNat, Int.toNat_natCast, if_true, if_false, not_true, not_false_eq_true, Int.reduceEq, Int.reduceLT, Int.reduceLE, i_0 h0, i_1 h0, f_0_0 h0, f_0_3 h0, f_0_4 h0, f_1_1 h0, f_1_2 h0, f_1_4 h0, c_hasPair h0 W1, c_r2 h0] at p1
  by_cases hp : (0 ≤ s ∧ s < ck ω 1) ∧ (0 ≤ o ∧ o < ck ω 1) ∧ s ≠ o
  · rw [b01_pos hp, if_neg (by omega)] at p1
    by_cases ht : 0 ≤ t
    · rw [if_pos ht] at p1
      obtain ⟨i, rfl⟩ : ∃ i : Nat, s = i := ⟨s.toNat, by omega⟩
      obtain ⟨j, rfl⟩ : ∃ j : Nat, o = j := ⟨o.toNat, by omega⟩
      obtain ⟨x, rfl⟩ : ∃ x : Nat, t = x := ⟨t.toNat, by omega⟩
      obtain ⟨N, hN⟩ : ∃ N : Nat, ck ω 1 = N := ⟨(ck ω 1).toNat, by omega⟩
      obtain ⟨ω1, p, r1, I1, P1, sc1, lo1⟩ := c_thinking h
      have hN1 : am_get ω1 1 3 = (N : Int) := (lo1 1 3 (by omega) (by omega)).trans hN
      have N6 : N ≤ 6 := by omega
      have iN : i < N := by omega
      have jN : j < N := by omega
      obtain ⟨i6, s1, s2, s3, s4, s5, s6, s7⟩ := ship_q I1 hN1 iN
      have w1 : am_get ω1 1 4 = 4 := w_S I1.1 (W := 1) (Or.inl rfl)
      have w2 : am_ina ω1 4 (i : Int) = true := ina_S I1.1 (W := 1) (Or.inl rfl) (Int.natCast_nonneg _) (by omega)
      have w3 : am_get ω1 4 i = 1 + 4 + (i : Int) := w_V I1.1 (W := 1) (Or.inl rfl) (by omega)
      obtain ⟨ω2, r, a, r2, f2, L2, hA⟩ := c_codeOfWay I1 P1 (t := x) hN1 iN jN
      have I2 := f2.inv I1
      have hN2 : am_get ω2 1 3 = (N : Int) := (f2.2 1 3 (by omega)).trans hN1
      rw [ba_v r1] at p1
      simp only [am_bi_s, am_bl_s, am_ba_s, am_bv_s, Int.toNat_zero, Int.reduceToNat, Int.toNat_natCast, if_true, if_false, not_true, not_false_eq_true, Int.reduceEq, Int.reduceLT, Int.reduceLE, i_0 I1.1, f_0_0 I1.1, i_1 I1.1, w1, w2, w3, pl_is P1, r2] at p1
      obtain ⟨a1, a2, a3, a4⟩ := inv_k I2
      have kk : mk ω2 = ck ω 1 := by rw [a1, hN]; exact hN2
      obtain ⟨en, eT, eC, eV⟩ := sky72 f2
      have d62 : am_get ω2 62 i = cV ω2 1 i 3 := by rw [cV_5]; exact (inv_E5 I2 (i := i) (by omega) 3 (by omega)).symm
      rcases hA with ⟨ra, rfl⟩ | ⟨G, g, rfl, xG, G60, hg, tg, ea⟩
      · -- there is no such code
        rw [if_neg (fun z => z rfl), if_pos (i_0 I2.1), bi_v (c_ref I2.1 (k := 3) (by omega) (c := -5) (by omega))] at p1
        have B3 := rfz_bs (k := 3) I2.1
        obtain ⟨ω4, z, q2, f4, L4⟩ := m_first34 I2 (rfz_dc (k := 3) I2.1) (fun a k z => rfz_get z) hN2 iN jN
        have eq := first_eq f2 i6 jN N6 L2 L4
        have B4 := B3.dc f4.1
        have p2 := pX7_way_0 53 i j x (rfz ω2 3) (i_53 B3)
        have d62' : am_get (rfz ω2 3) 62 i = cV ω2 1 i 3 := (rfz_get (by omega)).trans d62
        have x0 : (0 : Int) ≤ (x : Int) := by omega
        simp only [m_areTwo B3 (by rw [mk_rfz, a1]; exact a3), mk_rfz, kk, b01_pos hp, am_bi_s, am_bl_s, am_ba_s, am_bv_s, Int.toNat_zero, Int.reduceToNat, Int.toNat_natCast, if_true, if_false, not_true, not_false_eq_true, Int.reduceEq, Int.reduceLT, Int.reduceLE, i_53 B3, f_53_10 B3, n_62 B3 (i := (i : Int)) (by omega) (by omega), d62', q2, i_53 B4, if_pos x0, m_no B4 (k := 3) (by omega) (c := -5) (by omega)] at p2
        have fin : am_run (209, 0) 0 ([some (.inr (.inr 53)), some (.inl ((i : Int))), some (.inl ((j : Int))), some (.inl ((x : Int))), none, none, none, none, none, none, none, none], [], (rfz ω2 3)) = some (some (.inl (-5)), noz ω4 3) := by
          rw [p2]
          by_cases g : z = 10000
          · rw [if_neg (fun y => y g)]
          · rw [if_pos g, if_neg (by rw [if_neg g] at eq; omega)]
        refine ⟨_, _, _, p1, B3, f2.1.2.1.trans sc1, fin, ?_, ?_⟩
        · exact (f4.1.2.1.trans (f2.1.2.1.trans sc1))
        · refine inv_scr_ref I2 3 (((rfz_dc (k := 3) I2.1).tr f4.1).tr (noz_dc B4)) (fun a k y => ?_) (fun k hk => ?_) (fun k hk => ?_)
          · have y1 : ¬ Sc a k := fun q => y (Or.inl q)
            have y2 : a ≠ 34 := fun q => y (Or.inr (Or.inl q))
            have y3 : a ≠ 65 := fun q => y (Or.inr (Or.inr q))
            exact (gp_cell y3).trans ((f4.2 a k (by unfold Sc at y1; omega) (by unfold Sc at y1; omega) (by unfold Sc at y1; omega)).trans (rfz_get y2))
          · rw [show am_get (noz ω4 3) 34 k = am_get (rfz ω2 3) 34 k from (gp_cell (by omega)).trans (f4.2 _ _ (by omega) (by omega) (by omega))]
            unfold rfz
            by_cases y : k = 3
            · rw [y, gp_same, if_pos rfl]
            · rw [gp_place y, if_neg y]
          · have q65 : am_get ω4 65 (k + 2) = am_get ω2 65 (k + 2) := (f4.2 _ _ (by omega) (by omega) (by omega)).trans (rfz_get (by omega))
            unfold noz
            by_cases y : k = 3
            · subst y
              rw [gp_same, if_pos rfl, q65]
            · rw [gp_place (by omega), if_neg y, q65]
      · -- the code
        have an : ¬ a = -1 := by omega
        rw [if_pos an] at p1
        obtain ⟨ω4, z, q2, f4, L4⟩ := m_first34 I2 (Dc.rf ω2) (fun a k z => rfl) hN2 iN jN
        have eq := first_eq f2 i6 jN N6 L2 L4
        have zn : ¬ z = 10000 := fun y => by rw [if_pos y] at eq; omega
        rw [if_neg zn] at eq
        have I4 := f29_inv I2 f4
        have B4 := I4.1
        have ms := ms_of I2 hN2 iN jN
        have ws := ms_29 ms f4 (g := g) (G := G) (by rw [eT, eV j (by omega)]; exact hg) G60
        rw [en, eT, eC, eV i i6, eV j (by omega)] at ws
        have K0 : am_get ω4 59 i = cV ω1 1 i 0 := ws.2.1.2.2.2.2.2.2.2.2
        have kb := ws.2.1.2.2.2.1
        have x0 : (0 : Int) ≤ (x : Int) := by omega
        have p2 := pX7_way_0 53 i j x ω2 (i_53 I2.1)
        simp only [m_areTwo I2.1 (by rw [a1]; exact a3), kk, b01_pos hp, am_bi_s, am_bl_s, am_ba_s, am_bv_s, Int.toNat_zero, Int.reduceToNat, Int.toNat_natCast, if_true, if_false, not_true, not_false_eq_true, Int.reduceEq, Int.reduceLT, Int.reduceLE, i_53 I2.1, f_53_10 I2.1, n_62 I2.1 (i := (i : Int)) (by omega) (by omega), d62, q2, i_53 B4, if_pos x0, if_pos zn, ← eq, f_53_7 B4, n_59 B4 (i := (i : Int)) (by omega) (by omega), K0] at p2
        rw [if_pos (by omega)] at p2
        have p3 : am_run (209, 0) 0 ([some (.inr (.inr 53)), some (.inl ((i : Int))), some (.inl ((j : Int))), some (.inl ((x : Int))), none, none, none, none, none, none, none, none], [], ω2) = am_run (209, 0) 108 ([some (.inr (.inr 53)), some (.inl ((i : Int))), some (.inl ((j : Int))), some (.inl ((x : Int))), some (.inl ((G : Int))), some (.inl (stf (cV ω1 1 i 0))), some (.inl (((G + 1 : Nat) : Int) - 1)), none, none, none, none, none], [], ω4) := by
          rw [p2, show ((G + 1 : Nat) : Int) - 1 = (G : Int) by omega]
          unfold stf
          by_cases k2 : cV ω1 1 i 0 = 2
          · rw [if_pos k2, b01_neg (by omega)]
          · rw [if_neg k2]
            by_cases k3 : cV ω1 1 i 0 = 3
            · rw [if_pos k3, b01_neg (by omega)]
            · rw [if_neg k3]
              by_cases k4 : cV ω1 1 i 0 = 4
              · rw [if_pos k4, b01_neg (by omega)]
              · rw [if_neg k4, b01_pos (by omega)]
        have E4 := inv_E5 I4 i6
        have eV4 : ∀ f, f < 5 → mV ω4 i f = cV ω1 1 i f := fun f hf => by
          rw [← E4 f hf, ← eV i i6]
          rw [show am_get ω4 (5 + i) f = am_get ω2 (5 + i) f from f4.2 _ _ (by omega) (by omega) (by omega), cV_5]
        have O2 := inv_O I1 (i := i) (by have : ck ω1 1 = (N : Int) := hN1; omega)
        have e52 : am_get ω1 (5 + i) = cV ω1 1 i := by rw [cV_5]
        rw [e52] at O2
        obtain ⟨o0, o1, o2, o3, o4⟩ := O2
        have tt : Tok (cT ω1 1) := (osk I1).2.1
        have n6 := (osk I1).1.2
        have t2 := tt (cV ω1 1 i 1).toNat (by omega)
        have qs : (cV ω1 1 i 1).toNat * 20 + (cV ω1 1 i 2).toNat = sQ (cV ω1 1 i) := by unfold sQ; omega
        obtain ⟨ω5, b1, b2, r5, f5, LRs⟩ := m_wt ws (c := (cV ω1 1 i 1).toNat) (r := (cV ω1 1 i 2).toNat) (b := sB (cV ω1 1 i)) (by rw [eV4 1 (by omega)]; omega) (by rw [eV4 2 (by omega)]; omega) (by rw [eV4 4 (by omega)]; exact s4) (l3 := (x : Int)) (G + 1) (by omega) ω4 none none none none none F7.rf (fun t' h1 h2 => by omega)
        obtain ⟨ω6, r6, f6⟩ := m_walk ws (j := x) xG G 0 (by omega) ω5 (cV ω1 1 i 1).toNat (cV ω1 1 i 2).toNat (sB (cV ω1 1 i)) b1 b2 f5 LRs (by omega) (by have : am_get ω1 2 = cT ω1 1 := rfl; omega) s3 (by rw [qs]; exact tg)
        rw [if_neg (Nat.not_lt_zero _), qs, Nat.sub_zero] at r6
        have fin := p3.trans (r5.trans r6)
        rw [← ea] at fin
        exact ⟨_, _, _, p1, I2.1, f2.1.2.1.trans sc1, fin, (f6.1.2.1.trans (f4.1.2.1.trans (f2.1.2.1.trans sc1))), f7_inv I4 f6⟩
    · rw [if_neg ht] at p1
      refine pair_ref h 0 (by omega) p1 ?_
      rw [pX7_way_0 _ _ _ _ _ (i_53 (b 0))]
      simp only [m_areTwo (b 0) (by rw [mk_rfz, e1]; exact e3), mk_rfz, e1, b01_pos hp, am_bi_s, am_bl_s, am_ba_s, am_bv_s, Int.toNat_zero, Int.reduceToNat, Int.toNat_natCast, if_true, if_false, not_true, not_false_eq_true, Int.reduceEq, Int.reduceLT, Int.reduceLE, i_53 (b 0), m_r2 (b 0), if_neg ht]
  · rw [b01_neg hp, if_pos rfl] at p1
    refine pair_ref h 0 (by omega) p1 ?_
    rw [pX7_way_0 _ _ _ _ _ (i_53 (b 0))]
    simp only [m_areTwo (b 0) (by rw [mk_rfz, e1]; exact e3), mk_rfz, e1, b01_neg hp, am_bi_s, am_bl_s, am_ba_s, am_bv_s, Int.toNat_zero, Int.reduceToNat, Int.toNat_natCast, if_true, if_false, not_true, not_false_eq_true, Int.reduceEq, Int.reduceLT, Int.reduceLE, i_53 (b 0), m_r2 (b 0)]
end K98
