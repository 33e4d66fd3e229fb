/-! ===== met ===== -/
section K44
variable {ω : am_W}
theorem c_fm0 (h : Inv ω) {s N K i j : Nat} (u' : Nat → Int) (hs : s < 8) (hN : N ≤ 40) (hz : (N : Int) ≤ am_get ω (37 + 2 * s) 1) (hK : ck ω 1 = (K : Int)) (hi : i < K) (hj : j < K) (hij : j ≠ i) (ok : ∀ m, m < N → codeF (cn ω 1) (cC ω 1) (flS (cn ω 1) (cC ω 1) (cT ω 1) K i (am_get ω (38 + 2 * s)) (cV ω 1) m i) (am_get ω (38 + 2 * s) m)) : ∃ u w, am_run (134, 0) 0 ([some (.inr (.inr 0)), some (.inr (.inr (((37 + 2 * s : Nat) : Int)))), some (.inl ((N : Int))), some (.inl ((i : Int))), some (.inl ((j : Int))), none], [], (setV ω 35 u')) = some (some (.inl (ff (fun m => fW (flS (cn ω 1) (cC ω 1) (cT ω 1) K i (am_get ω (38 + 2 * s)) (cV ω 1) m i) (flS (cn ω 1) (cC ω 1) (cT ω 1) K i (am_get ω (38 + 2 * s)) (cV ω 1) m j)) 0 (N + 1))), WW ω u w) := by
  have h0 := h.1
  obtain ⟨e1, e2, e3, e4⟩ := inv_k h
  have i6 : i < 6 := by omega
  have j6 : j < 6 := by omega
  have B1 : Bs (setV ω 35 u') := h0.dc (setV_dc (i_35 h0))
  have eV : am_get (setV ω 35 u') 4 i = 1 + 4 + (i : Int) := w_V B1 W1 i6
  have iS : am_ina (setV ω 35 u') 4 (i : Int) = true := ina_S B1 W1 (by omega) (by omega)
  have O := inv_O h (i := i) (by omega)
  have P := inv_O h (i := j) (by omega)
  have vb := c_vbecome (v := 35) (u := 1 + 4 + (i : Int)) (i_35 B1) (is_V B1 W1 i6) (by omega)
  rw [V_at, show am_get (setV ω 35 u') (5 + i) = am_get ω (5 + i) from setV_o (by omega), show setV (setV ω 35 u') (Int.toNat 35) (cp5 (am_get ω (5 + i)) (am_get (setV ω 35 u') (Int.toNat 35))) = setV ω 35 (cp5 (am_get ω (5 + i)) (am_get (setV ω 35 u') (Int.toNat 35))) from setV_setV] at vb
  obtain ⟨X, hX⟩ : ∃ X, X = cp5 (am_get ω (5 + i)) (am_get (setV ω 35 u') (Int.toNat 35)) := ⟨_, rfl⟩
  rw [← hX] at vb
  have B2 : Bs (setV ω 35 X) := h0.dc (setV_dc (i_35 h0))
  have eU : am_get (setV ω 35 X) 4 j = 1 + 4 + (j : Int) := w_V B2 W1 j6
  have jS : am_ina (setV ω 35 X) 4 (j : Int) = true := ina_S B2 W1 (by omega) (by omega)
  have vc := c_vbecome (v := 36) (u := 1 + 4 + (j : Int)) (i_36 B2) (is_V B2 W1 j6) (by omega)
  rw [V_at, show am_get (setV ω 35 X) (5 + j) = am_get ω (5 + j) from setV_o (by omega)] at vc
  have q := pX6_firstMeeting_0 0 ((37 + 2 * s : Nat) : Int) N i j (setV ω 35 u') (i_0 B1) (by simp only [Int.toNat_zero]; rw [f_0_0 B1]; exact i_1 B1) (by simp only [Int.toNat_zero]; rw [f_0_6 B1]; exact i_35 B1)
  simp only [am_bi_s, am_bl_s, am_ba_s, am_bv_s, Int.toNat_zero, Int.reduceToNat, Int.toNat_natCast, if_true, if_false, not_true, not_false_eq_true, Int.reduceEq, Int.reduceLT, Int.reduceLE, i_0 B1, i_1 B1, f_0_0 B1, f_0_3 B1, f_0_4 B1, f_1_1 B1, f_1_2 B1, f_1_4 B1, f_0_6 B1, eV, iS, vb, i_0 B2, i_1 B2, f_0_0 B2, f_0_3 B2, f_0_4 B2, f_1_1 B2, f_1_2 B2, f_1_4 B2, eU, jS, f_0_7 B2, i_36 B2, vc] at q
  have cv : ∀ k, cV ω 1 k = am_get ω (5 + k) := fun k => by funext f; unfold cV; rw [V_at]
  obtain ⟨u, w, r⟩ := c_fm h0 e4 (inv_Cok h) (inv_Tok h) hs hN hz hi hj hij (cV ω 1) ok N 0 (by omega) X (cp5 (am_get ω (5 + j)) (am_get (setV ω 35 X) (Int.toNat 36))) (by show E5 (cV ω 1 i) _; rw [cv, hX]; exact fun f hf => (cp5_E _ _ f hf).symm) (by show E5 (cV ω 1 j) _; rw [cv]; exact fun f hf => (cp5_E _ _ f hf).symm) (by show O_ship _ _ (cV ω 1 i); rw [cv]; exact O) (by show O_ship _ _ (cV ω 1 j); rw [cv]; exact P)
  exact ⟨u, w, q.trans r⟩
theorem k_met (h : Inv ω) (s n i o : Int) : Pair 106 199 [some (.inr (.inr 0)), some (.inl s), some (.inl n), some (.inl i), some (.inl o), none] [some (.inr (.inr 53)), some (.inl s), some (.inl n), some (.inl i), some (.inl o), none, none] ω := by
  have h0 := h.1
  obtain ⟨e1, e2, e3, e4⟩ := inv_k h
  have b := fun k => rfz_bs (k := k) h0
  have p0 : ∃ f : Int, (f ≠ 0 ↔ (0 ≤ n ∧ n ≤ 40) ∧ ((0 ≤ i ∧ i < ck ω 1) ∧ (0 ≤ o ∧ o < ck ω 1) ∧ i ≠ o)) ∧ am_run (106, 0) 0 ([some (.inr (.inr 0)), some (.inl s), some (.inl n), some (.inl i), some (.inl o), none], [], ω) = am_run (106, 0) 29 ([some (.inr (.inr 0)), some (.inl s), some (.inl n), some (.inl i), some (.inl o), none], [(.inl f), (.inl s), (.inr (.inr 0))], ω) := by
    have q := pX6_met_0 0 s n i o ω (i_0 h0)
    simp only [am_bi_s, am_bl_s, am_ba_s, am_bv_s, Int.toNat_zero, Int.reduceToNat, Int.toNat_natCast, if_true, if_false, not_true, not_false_eq_true, Int.reduceEq, Int.reduceLT, Int.reduceLE, i_0 h0, i_1 h0, f_0_0 h0, f_0_3 h0, f_0_4 h0, f_1_1 h0, f_1_2 h0, f_1_4 h0, c_isFlight h0, c_hasPair h0 W1, pX6_met_28] at q
    by_cases g1 : (0 ≤ n ∧ n ≤ 40) ∧ (0 ≤ i ∧ i < ck ω 1)
    · rw [b01_pos g1, if_neg (by omega)] at q
      by_cases g2 : (0 ≤ i ∧ i < ck ω 1) ∧ (0 ≤ o ∧ o < ck ω 1) ∧ i ≠ o
      · rw [b01_pos g2, if_neg (by omega)] at q
        exact ⟨1, by omega, q⟩
      · rw [b01_neg g2, if_pos rfl] at q
        exact ⟨0, by omega, q⟩
    · rw [b01_neg g1, if_pos rfl] at q
      exact ⟨0, by omega, q⟩
  obtain ⟨f0, hf0, p1⟩ := p0
  rw [pX6_met_29 _ _ _ _ _ _ _ _ _ _ (i_0 h0)] at p1
  simp only [am_bi_s, am_bl_s, am_ba_s, am_bv_s, Int.toNat_zero, Int.reduceToNat, Int.toNat_natCast, if_true, if_false, not_true, not_false_eq_true, Int.reduceEq, Int.reduceLT, Int.reduceLE, i_0 h0, i_1 h0, f_0_0 h0, f_0_3 h0, f_0_4 h0, f_1_1 h0, f_1_2 h0, f_1_4 h0, c_bar h0 (s := s) (n := n) (f := f0) (X := (0 ≤ i ∧ i < ck ω 1) ∧ (0 ≤ o ∧ o < ck ω 1) ∧ i ≠ o) hf0] at p1
  have p16 : ∀ ω' (b' : Bs ω') (k' : mk ω' = ck ω 1), ∃ f : Int, (f = 0 ↔ ((0 ≤ i ∧ i < ck ω 1) ∧ (0 ≤ o ∧ o < ck ω 1) ∧ i ≠ o)) ∧ am_run (199, 0) 0 ([some (.inr (.inr 53)), some (.inl s), some (.inl n), some (.inl i), some (.inl o), none, none], [], ω') = am_run (199, 0) 18 ([some (.inr (.inr 53)), some (.inl s), some (.inl n), some (.inl i), some (.inl o), none, none], [(.inl f), (.inl n), (.inl s), (.inr (.inr 53))], ω') := fun ω' b' k' => by
    have q := pX7_met_0 53 s n i o ω' (i_53 b')
    simp only [am_bi_s, am_bl_s, am_ba_s, am_bv_s, Int.toNat_zero, Int.reduceToNat, Int.toNat_natCast, if_true, if_false, not_true, not_false_eq_true, Int.reduceEq, Int.reduceLT, Int.reduceLE, m_areTwo b' (by rw [k']; exact e3), k'] at q
    by_cases g : (0 ≤ i ∧ i < ck ω 1) ∧ (0 ≤ o ∧ o < ck ω 1) ∧ i ≠ o
    · rw [b01_pos g, if_pos (by omega)] at q
      exact ⟨0, by omega, q⟩
    · rw [b01_neg g, if_neg (by omega)] at q
      exact ⟨1, by omega, q⟩
  by_cases gR : rrF ((0 ≤ s ∧ s ≤ 7) ∧ (0 ≤ n ∧ n ≤ 40) ∧ ((0 ≤ i ∧ i < ck ω 1) ∧ (0 ≤ o ∧ o < ck ω 1) ∧ i ≠ o)) (am_get ω (37 + 2 * s.toNat) 0) (am_get ω (37 + 2 * s.toNat) 1) n = 0
  · obtain ⟨⟨hs, hn, hi, ho, hio⟩, c1, c2, c3⟩ := rr_0 gR
    obtain ⟨t, rfl⟩ : ∃ t : Nat, s = t := ⟨s.toNat, by omega⟩
    obtain ⟨N, rfl⟩ : ∃ N : Nat, n = N := ⟨n.toNat, by omega⟩
    obtain ⟨j, rfl⟩ : ∃ j : Nat, i = j := ⟨i.toNat, by omega⟩
    obtain ⟨x, rfl⟩ : ∃ x : Nat, o = x := ⟨o.toNat, by omega⟩
    obtain ⟨K, hK⟩ : ∃ K : Nat, ck ω 1 = K := ⟨(ck ω 1).toNat, by omega⟩
    have ht : t < 8 := by omega
    have hoj : (x : Int) < 0 ∨ ∃ y : Nat, (x : Int) = (y : Int) ∧ y < K ∧ y ≠ j := Or.inr ⟨x, rfl, by omega, by omega⟩
    rw [Int.toNat_natCast] at gR c1 c2 c3
    obtain ⟨u', r, E⟩ := c_fwc0 h ht (by omega) c3 hK (i := j) (by omega)
    rw [Int.toNat_natCast] at p1
    have B1 : Bs (setV ω 35 u') := h0.dc (setV_dc (i_35 h0))
    simp only [gR, am_bi_s, am_bl_s, am_ba_s, am_bv_s, Int.toNat_zero, Int.reduceToNat, Int.toNat_natCast, if_true, if_false, not_true, not_false_eq_true, Int.reduceEq, Int.reduceLT, Int.reduceLE, g_shelf h0 ht, ina_33 h0 (i := (t : Int)) (by omega) (by omega), r, i_0 B1, i_1 B1, f_0_0 B1, f_0_3 B1, f_0_4 B1, f_1_1 B1, f_1_2 B1, f_1_4 B1, g_shelf B1 ht, ina_33 B1 (i := (t : Int)) (by omega) (by omega), c_r5 B1] at p1
    have k1 : ∀ a k, 53 ≤ a → a ≠ 65 → am_get (setV ω 35 u') a k = am_get ω a k := fun a k g _ => congrFun (setV_o (by omega)) k
    by_cases gF : ff (fun m => ¬ codeF (cn ω 1) (cC ω 1) (flS (cn ω 1) (cC ω 1) (cT ω 1) K j (am_get ω (38 + 2 * t)) (cV ω 1) m j) (am_get ω (38 + 2 * t) m)) 0 N = -1
    · have ok : ∀ m, m < N → codeF (cn ω 1) (cC ω 1) (flS (cn ω 1) (cC ω 1) (cT ω 1) K j (am_get ω (38 + 2 * t)) (cV ω 1) m j) (am_get ω (38 + 2 * t) m) := fun m hm => Classical.byContradiction (ff_none N 0 gF m (by omega) (by omega))
      obtain ⟨u, w, rm⟩ := c_fm0 h u' ht (N := N) (by omega) c3 hK (i := j) (j := x) (by omega) (by omega) (by omega) ok
      rw [gF] at p1
      simp only [am_bi_s, am_bl_s, am_ba_s, am_bv_s, Int.toNat_zero, Int.reduceToNat, Int.toNat_natCast, if_true, if_false, not_true, not_false_eq_true, Int.reduceEq, Int.reduceLT, Int.reduceLE, rm] at p1
      have BW : Bs (WW ω u w) := h0.dc (WW_dc h0)
      have kW : ∀ a k, 53 ≤ a → a ≠ 65 → am_get (WW ω u w) a k = am_get ω a k := fun a k g _ => congrFun (WW_o (by omega)) k
      obtain ⟨f, hf, q⟩ := p16 _ BW ((kW _ _ (by omega) (by omega)).trans e1)
      obtain ⟨ω3, ω4, r3, B3, r4, D4, o4, m4, fl⟩ := m_flight h BW kW ht (N := N) (by omega) hK (i := j) (oj := (x : Int)) (by omega) hoj
      have B4 := BW.dc D4
      have bar := flight_bar h BW kW (s := (t : Int)) (n := (N : Int)) hf
      rw [Int.toNat_natCast, gR] at bar
      have q16 := pX7_met_18 53 t N j x 53 t N f none none (WW ω u w) (i_53 BW)
      have B2 : Bs (setV (WW ω u w) 67 (kpU (WW ω u w) 67)) := BW.dc (setA_dc (bs_sh BW (a := 67) rfl) (by omega))
      have y29 : am_get ω4 53 29 = _ := m4.trans ((fl gF).2 x rfl)
      simp only [bar, am_bi_s, am_bl_s, am_ba_s, am_bv_s, Int.toNat_zero, Int.reduceToNat, Int.toNat_natCast, if_true, if_false, not_true, not_false_eq_true, Int.reduceEq, Int.reduceLT, Int.reduceLE, i_53 BW, f_53_24 BW, m_keep_67 BW, i_53 B2, r3, i_53 B3, f_53_24 B3, r4, gF, i_53 B4, y29] at q16
      refine ⟨_, _, _, p1, BW, rfl, q.trans q16, D4.2.1, inv_scr h ((WW_dc h0).tr D4) (fun a k g => ?_)⟩
      unfold Sc at g
      rw [o4 a k (by omega) (by omega), WW_o (by omega)]
    · rw [if_neg gF] at p1
      have B1r : Bs (rfz (setV ω 35 u') 3) := rfz_bs B1
      have k1r : ∀ a k, 53 ≤ a → a ≠ 65 → am_get (rfz (setV ω 35 u') 3) a k = am_get ω a k := fun a k g g2 => (rfz_get (by omega)).trans (k1 a k g g2)
      obtain ⟨f, hf, q⟩ := p16 _ B1r ((k1r _ _ (by omega) (by omega)).trans e1)
      obtain ⟨ω3, ω4, r3, B3, r4, D4, o4, m4, fl⟩ := m_flight h B1r k1r ht (N := N) (by omega) hK (i := j) (oj := (x : Int)) (by omega) hoj
      have B4 := B1r.dc D4
      have bar := flight_bar h B1r k1r (s := (t : Int)) (n := (N : Int)) hf
      rw [Int.toNat_natCast, gR] at bar
      have q16 := pX7_met_18 53 t N j x 53 t N f none none (rfz (setV ω 35 u') 3) (i_53 B1r)
      have B2 : Bs (setV (rfz (setV ω 35 u') 3) 67 (kpU (rfz (setV ω 35 u') 3) 67)) := B1r.dc (setA_dc (bs_sh B1r (a := 67) rfl) (by omega))
      simp only [bar, am_bi_s, am_bl_s, am_ba_s, am_bv_s, Int.toNat_zero, Int.reduceToNat, Int.toNat_natCast, if_true, if_false, not_true, not_false_eq_true, Int.reduceEq, Int.reduceLT, Int.reduceLE, i_53 B1r, f_53_24 B1r, m_keep_67 B1r, i_53 B2, r3, i_53 B3, f_53_24 B3, r4, gF, i_53 B4, m_r5 B4] at q16
      have DD : Dc ω (noz ω4 3) := (setV_dc (i_35 h0)).tr ((rfz_dc B1).tr (D4.tr (noz_dc B4)))
      refine ⟨_, _, _, p1, B1r, rfl, q.trans q16, D4.2.1, inv_scr_ref h 3 DD (fun a k g => ?_) (fun j' hj' => ?_) (fun j' hj' => ?_)⟩
      · unfold Sc at g
        rw [show am_get (noz ω4 3) a k = am_get ω4 a k from gp_cell (by omega), o4 a k (by omega) (by omega), rfz_get (by omega), setV_o (by omega)]
      · rw [show am_get (noz ω4 3) 34 j' = am_get ω4 34 j' from gp_cell (by omega), o4 34 j' (by omega) (by omega)]
        by_cases z : j' = 3
        · rw [if_pos z, z]
          refine gp_same.trans ?_
          rw [show am_get (setV ω 35 u') 34 3 = am_get ω 34 3 from congrFun (setV_o (by omega)) 3]
        · rw [if_neg z]
          exact (gp_place z).trans (congrFun (setV_o (by omega)) j')
      · have o65 : ∀ k, am_get ω4 65 k = am_get ω 65 k := fun k => (o4 65 k (by omega) (by omega)).trans ((rfz_get (by omega)).trans (congrFun (setV_o (by omega)) k))
        by_cases z : j' = 3
        · rw [if_pos z, z]
          refine gp_same.trans ?_
          rw [o65]
        · rw [if_neg z]
          exact (gp_place (by omega)).trans (o65 _)
  · obtain ⟨κ, hκ, eR⟩ := rr_n gR
    rw [if_neg gR, bi_v (c_ref h0 (by omega) eR)] at p1
    refine pair_ref h κ (by omega) p1 ?_
    obtain ⟨f, hf, q⟩ := p16 _ (b κ) (by rw [mk_rfz, e1])
    have bar := flight_bar h (b κ) (rfz_k κ) (s := s) (n := n) hf
    have q16 := pX7_met_18 53 s n i o 53 s n f none none (rfz ω κ) (i_53 (b κ))
    rw [bi_v bar, if_neg (by omega), if_pos (i_53 (b κ)), bi_v (m_no (b κ) (by omega) eR)] at q16
    exact q.trans q16
end K44
