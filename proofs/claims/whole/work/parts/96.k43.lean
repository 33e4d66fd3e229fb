/-! ===== judge, flown, met: the pairs ===== -/
section K43
variable {ω : am_W}
theorem shelf_c (h : Inv ω) {s : Int} (hs : 0 ≤ s ∧ s ≤ 7) : am_get ω 54 s.toNat = am_get ω (37 + 2 * s.toNat) 0 ∧ (am_get ω (37 + 2 * s.toNat) 0 = -1 ∨ (0 ≤ am_get ω (37 + 2 * s.toNat) 0 ∧ am_get ω (37 + 2 * s.toNat) 0 ≤ 4) ∨ 10 ≤ am_get ω (37 + 2 * s.toNat) 0) ∧ (0 ≤ am_get ω (37 + 2 * s.toNat) 0 ∧ am_get ω (37 + 2 * s.toNat) 0 ≤ 4 → am_get ω 55 s.toNat = am_get ω (37 + 2 * s.toNat) 1) := by
  obtain ⟨q1, q2, q3⟩ := h.2.2.2.2.1 s.toNat (by omega)
  refine ⟨q1, ?_, ?_⟩
  · rcases q3 with q | q | q
    · exact Or.inl q
    · exact Or.inr (Or.inl ⟨q.1, q.2.1⟩)
    · exact Or.inr (Or.inr q.1)
  · intro g
    have g' : 0 ≤ ω.2.1 (37 + 2 * s.toNat) 0 ∧ ω.2.1 (37 + 2 * s.toNat) 0 ≤ 4 := g
    rcases q3 with q | q | q
    · omega
    · exact q.2.2.1
    · omega
/-- both sides find the same bar -/
theorem flight_bar (h : Inv ω) {ω1 : am_W} (hB : Bs ω1) (hk : ∀ a k, 53 ≤ a → a ≠ 65 → am_get ω1 a k = am_get ω a k) {s n f : Int} {X : Prop} (hX : f = 0 ↔ X) : am_run (195, 0) 0 ([some (.inr (.inr 53)), some (.inl s), some (.inl n), some (.inl f), none], [], ω1) = some (some (.inl (rrF ((0 ≤ s ∧ s ≤ 7) ∧ (0 ≤ n ∧ n ≤ 40) ∧ X) (am_get ω (37 + 2 * s.toNat) 0) (am_get ω (37 + 2 * s.toNat) 1) n)), ω1) := by
  have a := m_noFlight hB (s := s) (n := n) (f := f) (fun hs => by rw [hk _ _ (by omega) (by omega), (shelf_c h hs).1]; exact (shelf_c h hs).2.1)
  rw [a]
  congr 4
  rw [hk _ _ (by omega) (by omega), hk _ _ (by omega) (by omega)]
  by_cases hs : 0 ≤ s ∧ s ≤ 7
  · rw [(shelf_c h hs).1]
    exact rr_c (by rw [hX]) (shelf_c h hs).2.2 (fun _ => (shelf_c h hs).2.1)
  · rw [rrF_f (fun z => hs z.1), rrF_f (fun z => hs z.1)]
theorem c_bar (h : Bs ω) {s n f : Int} {X : Prop} (hX : f ≠ 0 ↔ (0 ≤ n ∧ n ≤ 40) ∧ X) : am_run (131, 0) 0 ([some (.inr (.inr 0)), some (.inl s), some (.inl f), some (.inl n), none], [], ω) = some (some (.inl (rrF ((0 ≤ s ∧ s ≤ 7) ∧ (0 ≤ n ∧ n ≤ 40) ∧ X) (am_get ω (37 + 2 * s.toNat) 0) (am_get ω (37 + 2 * s.toNat) 1) n)), ω) := by
  rw [c_rowRef h]
  rw [propext hX]
theorem b01_ne {p : Prop} : b01 p ≠ 0 ↔ p := by
  by_cases g : p
  · rw [b01_pos g]; simp [g]
  · rw [b01_neg g]; simp [g]
theorem rfz_k (k : Nat) : ∀ a j, 53 ≤ a → a ≠ 65 → am_get (rfz ω k) a j = am_get ω a j := fun a j h _ => rfz_get (by omega)
theorem k_judge (h : Inv ω) (s n i : Int) : Pair 104 197 [some (.inr (.inr 0)), some (.inl s), some (.inl n), some (.inl i), none] [some (.inr (.inr 53)), some (.inl s), some (.inl n), some (.inl i), none, none] ω := by
  have h0 := h.1
  obtain ⟨e1, e2, e3, e4⟩ := inv_k h
  have b := fun k => rfz_bs (k := k) h0
  have p1 := pX6_judge_0 0 s n i ω (i_0 h0)
  simp only [am_bi_s, am_bl_s, am_ba_s, am_bv_s, Int.toNat_zero, Int.reduceToNat, Int.toNat_natCast, if_true, if_false, not_true, not_false_eq_true, Int.reduceEq, Int.reduceLT, Int.reduceLE, i_0 h0, i_1 h0, f_0_0 h0, f_0_3 h0, f_0_4 h0, f_1_1 h0, f_1_2 h0, f_1_4 h0, c_isFlight h0, c_bar h0 (s := s) (n := n) (f := b01 ((0 ≤ n ∧ n ≤ 40) ∧ (0 ≤ i ∧ i < ck ω 1))) (X := 0 ≤ i ∧ i < ck ω 1) b01_ne] at p1
  have p2 := fun ω' (b' : Bs ω') (k' : mk ω' = ck ω 1) => pX7_judge_0 53 s n i ω' (i_53 b')
  have p16 : ∀ ω' (b' : Bs ω') (k' : mk ω' = ck ω 1), ∃ f : Int, (f = 0 ↔ (0 ≤ i ∧ i < ck ω 1)) ∧ am_run (197, 0) 0 ([some (.inr (.inr 53)), some (.inl s), some (.inl n), some (.inl i), none, none], [], ω') = am_run (197, 0) 16 ([some (.inr (.inr 53)), some (.inl s), some (.inl n), some (.inl i), none, none], [(.inl f), (.inl n), (.inl s), (.inr (.inr 53))], ω') := fun ω' b' k' => by
    have q := p2 ω' b' k'
    simp only [am_bi_s, am_bl_s, am_ba_s, am_bv_s, Int.toNat_zero, Int.reduceToNat, Int.toNat_natCast, if_true, if_false, not_true, not_false_eq_true, Int.reduceEq, Int.reduceLT, Int.reduceLE, m_isShip b' (by rw [k']; exact e3), k'] at q
    by_cases g : 0 ≤ i ∧ i < ck ω 1
    · rw [b01_pos g, if_pos (by omega)] at q
      exact ⟨0, by simp [g], q⟩
    · rw [b01_neg g, if_neg (by omega)] at q
      exact ⟨1, by simp [g], q⟩
  by_cases gR : rrF ((0 ≤ s ∧ s ≤ 7) ∧ (0 ≤ n ∧ n ≤ 40) ∧ (0 ≤ i ∧ i < ck ω 1)) (am_get ω (37 + 2 * s.toNat) 0) (am_get ω (37 + 2 * s.toNat) 1) n = 0
  · obtain ⟨⟨hs, hn, hi⟩, c1, c2, c3⟩ := rr_0 gR
    obtain ⟨t, rfl⟩ : ∃ t : Nat, s = t := ⟨s.toNat, by omega⟩
    obtain ⟨N, rfl⟩ : ∃ N : Nat, n = N := ⟨n.toNat, by omega⟩
    obtain ⟨j, rfl⟩ : ∃ j : Nat, i = j := ⟨i.toNat, by omega⟩
    obtain ⟨K, hK⟩ : ∃ K : Nat, ck ω 1 = K := ⟨(ck ω 1).toNat, by omega⟩
    have ht : t < 8 := by omega
    rw [Int.toNat_natCast] at gR c1 c2 c3
    obtain ⟨u', r, _⟩ := c_fwc0 h ht (by omega) c3 hK (i := j) (by omega)
    rw [Int.toNat_natCast] at p1
    simp only [gR, am_bi_s, am_bl_s, am_ba_s, am_bv_s, Int.toNat_zero, Int.reduceToNat, Int.toNat_natCast, if_true, if_false, not_true, not_false_eq_true, Int.reduceEq, Int.reduceLT, Int.reduceLE, g_shelf h0 ht, ina_33 h0 (i := (t : Int)) (by omega) (by omega), r] at p1
    have B1 : Bs (setV ω 35 u') := h0.dc (setV_dc (i_35 h0))
    have k1 : ∀ a k, 53 ≤ a → a ≠ 65 → am_get (setV ω 35 u') a k = am_get ω a k := fun a k g _ => congrFun (setV_o (by omega)) k
    obtain ⟨f, hf, q⟩ := p16 _ B1 ((k1 _ _ (by omega) (by omega)).trans e1)
    obtain ⟨ω3, ω4, r3, B3, r4, D4, o4, m4, _⟩ := m_flight h B1 k1 ht (N := N) (by omega) hK (i := j) (oj := -1) (by omega) (Or.inl (by omega))
    have bar := flight_bar h B1 k1 (s := (t : Int)) (n := (N : Int)) hf
    rw [Int.toNat_natCast, gR] at bar
    have q16 := pX7_judge_16 53 t N j 53 t N f none none (setV ω 35 u') (i_53 B1)
    simp only [bar, am_bi_s, am_bl_s, am_ba_s, am_bv_s, Int.toNat_zero, Int.reduceToNat, Int.toNat_natCast, if_true, if_false, not_true, not_false_eq_true, Int.reduceEq, Int.reduceLT, Int.reduceLE, i_53 B1, f_53_24 B1, m_keep_67 B1] at q16
    have B2 : Bs (setV (setV ω 35 u') 67 (kpU (setV ω 35 u') 67)) := B1.dc (setA_dc (bs_sh B1 (a := 67) rfl) (by omega))
    simp only [i_53 B2, r3, am_bi_s, am_bl_s, am_ba_s, am_bv_s, Int.toNat_zero, Int.reduceToNat, Int.toNat_natCast, if_true, if_false, not_true, not_false_eq_true, Int.reduceEq, Int.reduceLT, Int.reduceLE, i_53 B3, f_53_24 B3, r4] at q16
    refine ⟨_, _, _, p1, B1, rfl, q.trans q16, D4.2.1, inv_scr h ((setV_dc (i_35 h0)).tr D4) (fun a k g => ?_)⟩
    unfold Sc at g
    rw [o4 a k (by omega) (by omega), setV_o (by omega)]
  · obtain ⟨κ, hκ, eR⟩ := rr_n gR
    rw [if_neg gR, bi_v (c_ref h0 (by omega) eR)] at p1
    refine pair_ref h κ (by omega) p1 ?_
    obtain ⟨f, hf, q⟩ := p16 _ (b κ) (by rw [mk_rfz, e1])
    have bar := flight_bar h (b κ) (rfz_k κ) (s := s) (n := n) hf
    have q16 := pX7_judge_16 53 s n i 53 s n f none none (rfz ω κ) (i_53 (b κ))
    rw [bi_v bar, if_neg (by omega), if_pos (i_53 (b κ)), bi_v (m_no (b κ) (by omega) eR)] at q16
    exact q.trans q16
theorem k_flown (h : Inv ω) (s n i w : Int) : Pair 105 198 [some (.inr (.inr 0)), some (.inl s), some (.inl n), some (.inl i), some (.inl w), none] [some (.inr (.inr 53)), some (.inl s), some (.inl n), some (.inl i), some (.inl w), none, none, none] ω := by
  have h0 := h.1
  obtain ⟨e1, e2, e3, e4⟩ := inv_k h
  have b := fun k => rfz_bs (k := k) h0
  have p0 : ∃ f : Int, (f ≠ 0 ↔ (0 ≤ n ∧ n ≤ 40) ∧ ((0 ≤ i ∧ i < ck ω 1) ∧ (0 ≤ w ∧ w ≤ 3))) ∧ am_run (105, 0) 0 ([some (.inr (.inr 0)), some (.inl s), some (.inl n), some (.inl i), some (.inl w), none], [], ω) = am_run (105, 0) 27 ([some (.inr (.inr 0)), some (.inl s), some (.inl n), some (.inl i), some (.inl w), none], [(.inl f), (.inl s), (.inr (.inr 0))], ω) := by
    have q := pX6_flown_0 0 s n i w ω (i_0 h0)
    simp only [am_bi_s, am_bl_s, am_ba_s, am_bv_s, Int.toNat_zero, Int.reduceToNat, Int.toNat_natCast, if_true, if_false, not_true, not_false_eq_true, Int.reduceEq, Int.reduceLT, Int.reduceLE, c_isFlight h0, pX6_flown_26] at q
    by_cases g1 : (0 ≤ n ∧ n ≤ 40) ∧ (0 ≤ i ∧ i < ck ω 1)
    · rw [b01_pos g1, if_neg (by omega)] at q
      by_cases g2 : w < 0
      · rw [if_pos g2] at q
        exact ⟨0, by omega, q⟩
      · rw [if_neg g2] at q
        by_cases g3 : 3 < w
        · rw [if_pos g3] at q
          exact ⟨0, by omega, q⟩
        · rw [if_neg g3] at q
          exact ⟨1, by omega, q⟩
    · rw [b01_neg g1, if_pos rfl] at q
      exact ⟨0, by omega, q⟩
  obtain ⟨f0, hf0, p1⟩ := p0
  rw [pX6_flown_27 _ _ _ _ _ _ _ _ _ _ (i_0 h0)] at p1
  simp only [am_bi_s, am_bl_s, am_ba_s, am_bv_s, Int.toNat_zero, Int.reduceToNat, Int.toNat_natCast, if_true, if_false, not_true, not_false_eq_true, Int.reduceEq, Int.reduceLT, Int.reduceLE, i_0 h0, i_1 h0, f_0_0 h0, f_0_3 h0, f_0_4 h0, f_1_1 h0, f_1_2 h0, f_1_4 h0, c_bar h0 (s := s) (n := n) (f := f0) (X := (0 ≤ i ∧ i < ck ω 1) ∧ (0 ≤ w ∧ w ≤ 3)) hf0] at p1
  have p16 : ∀ ω' (b' : Bs ω') (k' : mk ω' = ck ω 1), ∃ f : Int, (f = 0 ↔ ((0 ≤ i ∧ i < ck ω 1) ∧ (0 ≤ w ∧ w ≤ 3))) ∧ am_run (198, 0) 0 ([some (.inr (.inr 53)), some (.inl s), some (.inl n), some (.inl i), some (.inl w), none, none, none], [], ω') = am_run (198, 0) 26 ([some (.inr (.inr 53)), some (.inl s), some (.inl n), some (.inl i), some (.inl w), none, none, none], [(.inl f), (.inl n), (.inl s), (.inr (.inr 53))], ω') := fun ω' b' k' => by
    have q := pX7_flown_0 53 s n i w ω' (i_53 b')
    simp only [am_bi_s, am_bl_s, am_ba_s, am_bv_s, Int.toNat_zero, Int.reduceToNat, Int.toNat_natCast, if_true, if_false, not_true, not_false_eq_true, Int.reduceEq, Int.reduceLT, Int.reduceLE, m_isShip b' (by rw [k']; exact e3), k', m_in1, pX7_flown_21] at q
    by_cases g : 0 ≤ i ∧ i < ck ω 1
    · rw [b01_pos g, if_neg (by omega)] at q
      by_cases g2 : 0 ≤ w ∧ w ≤ 3
      · rw [b01_pos g2, if_pos (by omega)] at q
        exact ⟨0, by omega, q⟩
      · rw [b01_neg g2, if_neg (by omega)] at q
        exact ⟨1, by omega, q⟩
    · rw [b01_neg g, if_pos rfl] at q
      exact ⟨1, by omega, q⟩
  by_cases gR : rrF ((0 ≤ s ∧ s ≤ 7) ∧ (0 ≤ n ∧ n ≤ 40) ∧ ((0 ≤ i ∧ i < ck ω 1) ∧ (0 ≤ w ∧ w ≤ 3))) (am_get ω (37 + 2 * s.toNat) 0) (am_get ω (37 + 2 * s.toNat) 1) n = 0
  · obtain ⟨⟨hs, hn, hi, hw⟩, c1, c2, c3⟩ := rr_0 gR
    obtain ⟨t, rfl⟩ : ∃ t : Nat, s = t := ⟨s.toNat, by omega⟩
    obtain ⟨N, rfl⟩ : ∃ N : Nat, n = N := ⟨n.toNat, by omega⟩
    obtain ⟨j, rfl⟩ : ∃ j : Nat, i = j := ⟨i.toNat, by omega⟩
    obtain ⟨K, hK⟩ : ∃ K : Nat, ck ω 1 = K := ⟨(ck ω 1).toNat, by omega⟩
    have ht : t < 8 := by omega
    rw [Int.toNat_natCast] at gR c1 c2 c3
    obtain ⟨u', r, E⟩ := c_fwc0 h ht (by omega) c3 hK (i := j) (by omega)
    rw [Int.toNat_natCast] at p1
    have B1 : Bs (setV ω 35 u') := h0.dc (setV_dc (i_35 h0))
    have g35 : am_get (setV ω 35 u') 35 = u' := setV_get
    simp only [gR, am_bi_s, am_bl_s, am_ba_s, am_bv_s, Int.toNat_zero, Int.reduceToNat, Int.toNat_natCast, if_true, if_false, not_true, not_false_eq_true, Int.reduceEq, Int.reduceLT, Int.reduceLE, g_shelf h0 ht, ina_33 h0 (i := (t : Int)) (by omega) (by omega), r, i_0 B1, f_0_6 B1, i_35 B1, g35, c_r5 B1] at p1
    have k1 : ∀ a k, 53 ≤ a → a ≠ 65 → am_get (setV ω 35 u') a k = am_get ω a k := fun a k g _ => congrFun (setV_o (by omega)) k
    by_cases gF : ff (fun m => ¬ codeF (cn ω 1) (cC ω 1) (flS (cn ω 1) (cC ω 1) (cT ω 1) K j (am_get ω (38 + 2 * t)) (cV ω 1) m j) (am_get ω (38 + 2 * t) m)) 0 N = -1
    · obtain ⟨f, hf, q⟩ := p16 _ B1 ((k1 _ _ (by omega) (by omega)).trans e1)
      obtain ⟨ω3, ω4, r3, B3, r4, D4, o4, m4, fl⟩ := m_flight h B1 k1 ht (N := N) (by omega) hK (i := j) (oj := -1) (by omega) (Or.inl (by omega))
      have bar := flight_bar h B1 k1 (s := (t : Int)) (n := (N : Int)) hf
      rw [Int.toNat_natCast, gR] at bar
      have q16 := pX7_flown_26 53 t N j w 53 t N f none none none (setV ω 35 u') (i_53 B1)
      have B2 : Bs (setV (setV ω 35 u') 67 (kpU (setV ω 35 u') 67)) := B1.dc (setA_dc (bs_sh B1 (a := 67) rfl) (by omega))
      simp only [bar, am_bi_s, am_bl_s, am_ba_s, am_bv_s, Int.toNat_zero, Int.reduceToNat, Int.toNat_natCast, if_true, if_false, not_true, not_false_eq_true, Int.reduceEq, Int.reduceLT, Int.reduceLE, i_53 B1, f_53_24 B1, m_keep_67 B1, i_53 B2, r3, i_53 B3, f_53_0 B3, f_53_1 B3, f_53_2 B3, f_53_4 B3, f_53_5 B3, f_53_7 B3, f_53_8 B3, f_53_9 B3, f_53_10 B3, f_53_11 B3, f_53_24 B3, n_59 B3 (i := (j : Int)) (by omega) (by omega), n_60 B3 (i := (j : Int)) (by omega) (by omega), n_61 B3 (i := (j : Int)) (by omega) (by omega), n_62 B3 (i := (j : Int)) (by omega) (by omega), n_63 B3 (i := (j : Int)) (by omega) (by omega), r4, gF] at q16
      rw [gF] at p1
      simp only [am_bi_s, am_bl_s, am_ba_s, am_bv_s, Int.toNat_zero, Int.reduceToNat, Int.toNat_natCast, if_true, if_false, not_true, not_false_eq_true, Int.reduceEq, Int.reduceLT, Int.reduceLE] at p1
      have ev := (fl gF).1
      have eu := E gF
      have y1 : am_get ω3 60 j = u' 1 := (ev 1 (by omega)).symm.trans (eu 1 (by omega))
      have y2 : am_get ω3 61 j = u' 2 := (ev 2 (by omega)).symm.trans (eu 2 (by omega))
      have y3 : am_get ω3 62 j = u' 3 := (ev 3 (by omega)).symm.trans (eu 3 (by omega))
      have y4 : am_get ω3 63 j = u' 4 := (ev 4 (by omega)).symm.trans (eu 4 (by omega))
      rw [y1, y2, y3, y4] at q16
      have inv : Inv ω4 := inv_scr h ((setV_dc (i_35 h0)).tr D4) (fun a k g => by
        unfold Sc at g
        rw [o4 a k (by omega) (by omega), setV_o (by omega)])
      have : w = 0 ∨ w = 1 ∨ w = 2 ∨ w = 3 := by omega
      rcases this with rfl | rfl | rfl | rfl
      · simp only [am_bi_s, am_bl_s, am_ba_s, am_bv_s, Int.toNat_zero, Int.reduceToNat, Int.toNat_natCast, if_true, if_false, not_true, not_false_eq_true, Int.reduceEq, Int.reduceLT, Int.reduceLE] at p1 q16
        exact ⟨_, _, _, p1, B1, rfl, q.trans q16, D4.2.1, inv⟩
      · simp only [am_bi_s, am_bl_s, am_ba_s, am_bv_s, Int.toNat_zero, Int.reduceToNat, Int.toNat_natCast, if_true, if_false, not_true, not_false_eq_true, Int.reduceEq, Int.reduceLT, Int.reduceLE] at p1 q16
        exact ⟨_, _, _, p1, B1, rfl, q.trans q16, D4.2.1, inv⟩
      · simp only [am_bi_s, am_bl_s, am_ba_s, am_bv_s, Int.toNat_zero, Int.reduceToNat, Int.toNat_natCast, if_true, if_false, not_true, not_false_eq_true, Int.reduceEq, Int.reduceLT, Int.reduceLE] at p1 q16
        exact ⟨_, _, _, p1, B1, rfl, q.trans q16, D4.2.1, inv⟩
      · simp only [am_bi_s, am_bl_s, am_ba_s, am_bv_s, Int.toNat_zero, Int.reduceToNat, Int.toNat_natCast, if_true, if_false, not_true, not_false_eq_true, Int.reduceEq, Int.reduceLT, Int.reduceLE] at p1 q16
        exact ⟨_, _, _, p1, B1, rfl, q.trans q16, D4.2.1, inv⟩
    · rw [if_neg gF] at p1
      have B1r : Bs (rfz (setV ω 35 u') 3) := rfz_bs B1
      have k1r : ∀ a k, 53 ≤ a → a ≠ 65 → am_get (rfz (setV ω 35 u') 3) a k = am_get ω a k := fun a k g g2 => (rfz_get (by omega)).trans (k1 a k g g2)
      obtain ⟨f, hf, q⟩ := p16 _ B1r ((k1r _ _ (by omega) (by omega)).trans e1)
      obtain ⟨ω3, ω4, r3, B3, r4, D4, o4, m4, fl⟩ := m_flight h B1r k1r ht (N := N) (by omega) hK (i := j) (oj := -1) (by omega) (Or.inl (by omega))
      have B4 := B1r.dc D4
      have bar := flight_bar h B1r k1r (s := (t : Int)) (n := (N : Int)) hf
      rw [Int.toNat_natCast, gR] at bar
      have q16 := pX7_flown_26 53 t N j w 53 t N f none none none (rfz (setV ω 35 u') 3) (i_53 B1r)
      have B2 : Bs (setV (rfz (setV ω 35 u') 3) 67 (kpU (rfz (setV ω 35 u') 3) 67)) := B1r.dc (setA_dc (bs_sh B1r (a := 67) rfl) (by omega))
      simp only [bar, am_bi_s, am_bl_s, am_ba_s, am_bv_s, Int.toNat_zero, Int.reduceToNat, Int.toNat_natCast, if_true, if_false, not_true, not_false_eq_true, Int.reduceEq, Int.reduceLT, Int.reduceLE, i_53 B1r, f_53_24 B1r, m_keep_67 B1r, i_53 B2, r3, i_53 B3, f_53_0 B3, f_53_1 B3, f_53_2 B3, f_53_4 B3, f_53_5 B3, f_53_7 B3, f_53_8 B3, f_53_9 B3, f_53_10 B3, f_53_11 B3, f_53_24 B3, n_59 B3 (i := (j : Int)) (by omega) (by omega), n_60 B3 (i := (j : Int)) (by omega) (by omega), n_61 B3 (i := (j : Int)) (by omega) (by omega), n_62 B3 (i := (j : Int)) (by omega) (by omega), n_63 B3 (i := (j : Int)) (by omega) (by omega), r4, gF, i_53 B4, m_r5 B4, ite_self] at q16
      have DD : Dc ω (noz ω4 3) := (setV_dc (i_35 h0)).tr ((rfz_dc B1).tr (D4.tr (noz_dc B4)))
      refine ⟨_, _, _, p1, B1r, rfl, q.trans q16, D4.2.1, inv_scr_ref h 3 DD (fun a k g => ?_) (fun j' hj' => ?_) (fun j' hj' => ?_)⟩
      · unfold Sc at g
        rw [show am_get (noz ω4 3) a k = am_get ω4 a k from gp_cell (by omega), o4 a k (by omega) (by omega), rfz_get (by omega), setV_o (by omega)]
      · rw [show am_get (noz ω4 3) 34 j' = am_get ω4 34 j' from gp_cell (by omega), o4 34 j' (by omega) (by omega)]
        by_cases z : j' = 3
        · rw [if_pos z, z]
          refine gp_same.trans ?_
          rw [show am_get (setV ω 35 u') 34 3 = am_get ω 34 3 from congrFun (setV_o (by omega)) 3]
        · rw [if_neg z]
          exact (gp_place z).trans (congrFun (setV_o (by omega)) j')
      · have o65 : ∀ k, am_get ω4 65 k = am_get ω 65 k := fun k => (o4 65 k (by omega) (by omega)).trans ((rfz_get (by omega)).trans (congrFun (setV_o (by omega)) k))
        by_cases z : j' = 3
        · rw [if_pos z, z]
          refine gp_same.trans ?_
          rw [o65]
        · rw [if_neg z]
          exact (gp_place (by omega)).trans (o65 _)
  · obtain ⟨κ, hκ, eR⟩ := rr_n gR
    rw [if_neg gR, bi_v (c_ref h0 (by omega) eR)] at p1
    refine pair_ref h κ (by omega) p1 ?_
    obtain ⟨f, hf, q⟩ := p16 _ (b κ) (by rw [mk_rfz, e1])
    have bar := flight_bar h (b κ) (rfz_k κ) (s := s) (n := n) hf
    have q16 := pX7_flown_26 53 s n i w 53 s n f none none none (rfz ω κ) (i_53 (b κ))
    rw [bi_v bar, if_neg (by omega), if_pos (i_53 (b κ)), bi_v (m_no (b κ) (by omega) eR)] at q16
    exact q.trans q16
end K43
