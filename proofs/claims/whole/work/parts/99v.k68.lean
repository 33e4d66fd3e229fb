/-! ===== cheapest, soonest ===== -/
section K68
variable {ω : am_W}
theorem ba_v {x : Option am_R} {z : Int} {ω' : am_W} {f : Int → am_W → Option am_R} (h : x = some (some (.inr (.inr z)), ω')) : am_ba x f = f z ω' := by rw [h]; rfl
theorem cV_5 {i : Nat} : cV ω 1 i = am_get ω (5 + i) := by
  unfold cV
  rw [show ((1 : Int) + 4 + (i : Int)).toNat = 5 + i by omega]
theorem bit_1 {o j : Nat} (ho : o < 6) (hj : j < 6) : bitI (am_shl 1 (o : Int)) j ↔ j = o := by
  have : ∀ o : Nat, o < 6 → ∀ j : Nat, j < 6 → (am_and (am_shl 1 (o : Int)) (am_shl 1 (j : Int)) ≠ 0 ↔ j = o) := by decide +kernel
  exact this o ho j hj
theorem gM_1 {o : Nat} (ho : o < 6) : ∀ k, k ≤ 6 → gM (bitI (am_shl 1 (o : Int))) k = if o < k then [o] else [] := by
  intro k
  induction k with
  | zero => intro _; rw [if_neg (by omega)]; rfl
  | succ k ih =>
    intro hk
    have e := ih (by omega)
    by_cases g : k = o
    · subst g
      rw [gM_y ⟨(bit_1 ho (by omega)).mpr rfl, by rw [e, if_neg (by omega)]; show 0 < 3; omega⟩, e, if_neg (by omega), if_pos (by omega)]
      rfl
    · rw [gM_n (fun z => g ((bit_1 ho (by omega)).mp z.1)), e]
      by_cases l : o < k
      · rw [if_pos l, if_pos (by omega)]
      · rw [if_neg l, if_neg (by omega)]
theorem gN_1 {o N : Nat} (ho : o < N) (hN : N ≤ 6) : gN (am_shl 1 (o : Int)) N = 1 ∧ gE (am_shl 1 (o : Int)) N 0 = o := by
  unfold gN gE
  rw [gM_1 (by omega) N hN, if_pos ho]
  exact ⟨rfl, rfl⟩
theorem hr_1 {T : Nat → Int} {V : Nat → Nat → Int} {mem : Nat → Nat} {o : Nat} (e : mem 0 = o) : ∀ t q m, hrF T V mem 1 t q m = orN (fun _ => (fun t : Nat => spF T (V o) (t : Int)) t = (q : Int)) 1 m := by
  intro t q m
  unfold hrF
  by_cases g : spF T (V o) (t : Int) = (q : Int)
  · rw [orN_y (Q := fun k => spF T (V (mem k)) (t : Int) = (q : Int)) (by rw [e]; exact g), orN_y g]
    rfl
  · rw [orN_n (Q := fun k => spF T (V (mem k)) (t : Int) = (q : Int)) (by rw [e]; exact g), orN_n g]
    rfl
theorem ms_of (h : Inv ω) {i o N : Nat} (hN : am_get ω 1 3 = (N : Int)) (hi : i < N) (ho : o < N) : MS ω i o (cn ω 1) (cT ω 1) (cC ω 1) (cV ω 1 i 0) (cV ω 1 o) (sQ (cV ω 1 i)) (sB (cV ω 1 i)) := by
  obtain ⟨e1, e2, e3, e4⟩ := inv_k h
  have kN : ck ω 1 = (N : Int) := hN
  obtain ⟨i6, s1, s2, s3, _⟩ := ship_q h hN hi
  obtain ⟨o6, _⟩ := ship_q h hN ho
  have Oi := inv_O h (i := i) (by omega)
  have Oo := inv_O h (i := o) (by omega)
  obtain ⟨on, oT, oC⟩ := osk h
  refine ⟨h.1, ⟨on, oT, oC, ?_, i6, e2, fun j hj => (inv_E6 h j hj).symm, fun j hj => (inv_EC h j hj).symm, ?_⟩, o6, ?_, ?_, s1, s3⟩
  · rw [cV_5]; exact Oi.1
  · rw [cV_5]; exact (inv_E5 h i6 0 (by omega)).symm
  · rw [cV_5]; exact inv_E5 h o6
  · rw [cV_5]; exact Oo
theorem m_begun (h : Inv ω) {i N : Nat} (hN : am_get ω 1 3 = (N : Int)) (hi : i < N) {n : Int} {T C : Nat → Int} {K : Int} : ∃ ω', am_run (201, 0) 0 ([some (.inr (.inr 53)), some (.inl ((i : Int))), some (.inl 0), none], [], ω) = some (none, ω') ∧ F89 ω ω' ∧ NI ω' n T C K (sQ (cV ω 1 i)) (sB (cV ω 1 i)) 0 := by
  obtain ⟨i6, s1, s2, s3, s4, s5, s6, s7⟩ := ship_q h hN hi
  have E := inv_E5 h i6
  have kN : ck ω 1 = (N : Int) := hN
  obtain ⟨o0, o1, o2, o3, o4⟩ := inv_O h (i := i) (by omega)
  have t2 := inv_Tok h (am_get ω (5 + i) 1).toNat (by obtain ⟨_, _, _, e4⟩ := inv_k h; omega)
  rw [cV_5] at s1 s2 s3 s4 s5 s6 s7 ⊢
  have eq : sQ (am_get ω (5 + i)) = (am_get ω (5 + i) 1).toNat * 20 + (am_get ω (5 + i) 2).toNat := by unfold sQ; omega
  rw [eq]
  exact m_begin h.1 i6 (by rw [← E 1 (by omega)]; omega) (by rw [← E 2 (by omega)]; omega) (by rw [← E 4 (by omega)]; exact s4) (by omega) (by omega) s3
theorem f89_inv {ω' : am_W} (h : Inv ω) (f : F89 ω ω') : Inv ω' := inv_scr h f.1 (fun a k z => f.2 a k (by unfold Sc at z; omega) (by unfold Sc at z; omega))
theorem k_cheapest (h : Inv ω) (s o t : Int) : Pair 107 206 [some (.inr (.inr 0)), some (.inl s), some (.inl o), some (.inl t)] [some (.inr (.inr 53)), some (.inl s), some (.inl o), some (.inl t), none] ω := by
  have h0 := h.1
  obtain ⟨e1, e2, e3, e4⟩ := inv_k h
  have b := fun k => rfz_bs (k := k) h0
  have p1 := pX6_cheapest_0 0 s o t ω (i_0 h0) (by simp only [Int.toNat_zero, f_0_0 h0]; exact i_1 h0)
  simp only [am_bi_s, am_bl_s, am_ba_s, am_bv_s, Int.toNat_zero, Int.reduceToNat, Int.toNat_natCast, if_true, if_false, not_true, not_false_eq_true, Int.reduceEq, Int.reduceLT, Int.reduceLE, i_0 h0, i_1 h0, f_0_0 h0, f_0_3 h0, f_0_4 h0, f_1_1 h0, f_1_2 h0, f_1_4 h0, c_hasPair h0 W1, c_r2 h0, c_steps] at p1
  by_cases hp : (0 ≤ s ∧ s < ck ω 1) ∧ (0 ≤ o ∧ o < ck ω 1) ∧ s ≠ o
  · by_cases ht : 0 ≤ t ∧ t ≤ 60
    · obtain ⟨i, rfl⟩ : ∃ i : Nat, s = i := ⟨s.toNat, by omega⟩
      obtain ⟨j, rfl⟩ : ∃ j : Nat, o = j := ⟨o.toNat, by omega⟩
      obtain ⟨last, rfl⟩ : ∃ N : Nat, t = N := ⟨t.toNat, by omega⟩
      obtain ⟨N, hN⟩ : ∃ N : Nat, ck ω 1 = N := ⟨(ck ω 1).toNat, by omega⟩
      rw [b01_pos hp, if_neg (by omega), b01_pos ht, if_pos (show ¬ (1 : Int) = 0 by omega)] at p1
      obtain ⟨ω1, p, r1, I1, P1, sc1, lo1⟩ := c_thinking h
      have hN1 : am_get ω1 1 3 = (N : Int) := (lo1 1 3 (by omega) (by omega)).trans hN
      have N6 : N ≤ 6 := by omega
      have iN : i < N := by omega
      have jN : j < N := by omega
      obtain ⟨ω2, r, r2, f2, L2⟩ := c_fewest I1 P1 hN1 iN (am_shl 1 (j : Int)) (last := last) (by omega)
      have w1 : am_get ω1 1 4 = 4 := w_S I1.1 (W := 1) (Or.inl rfl)
      have w2 : am_ina ω1 4 (i : Int) = true := ina_S I1.1 (W := 1) (Or.inl rfl) (Int.natCast_nonneg _) (by omega)
      have w3 : am_get ω1 4 i = 1 + 4 + (i : Int) := w_V I1.1 (W := 1) (Or.inl rfl) (by omega)
      rw [ba_v r1] at p1
      simp only [am_bi_s, am_bl_s, am_ba_s, am_bv_s, Int.toNat_zero, Int.reduceToNat, Int.toNat_natCast, if_true, if_false, not_true, not_false_eq_true, Int.reduceEq, Int.reduceLT, Int.reduceLE, i_0 I1.1, f_0_0 I1.1, i_1 I1.1, w1, w2, w3, pl_is P1, r2] at p1
      have I2 := f2.inv I1
      have hN2 : am_get ω2 1 3 = (N : Int) := (f2.2 1 3 (by omega)).trans hN1
      obtain ⟨a1, a2, a3, a4⟩ := inv_k I2
      have kk : mk ω2 = ck ω 1 := by rw [a1, hN]; exact hN2
      obtain ⟨ω3, r3, f3, N3⟩ := m_begun I2 hN2 iN (n := cn ω2 1) (T := cT ω2 1) (C := cC ω2 1) (K := cV ω2 1 i 0)
      have ms := ms_of I2 hN2 iN jN
      obtain ⟨ω4, z, r4, f4, L4⟩ := m_least0 (ms.kp f3) (last := last) (by omega) (last + 1) 0 (by omega) ω3 10000 none none F89.rf (Or.inl ⟨rfl, N3⟩) (Or.inl ⟨rfl, fun t' ht' => absurd ht' (Nat.not_lt_zero _)⟩)
      have I4 := f89_inv (f89_inv I2 f3) f4
      have q1 := pX7_least_0 53 i j last 9999 0 ω2 (i_53 I2.1)
      rw [bv_v r3] at q1
      have r4' : am_run (205, 0) 14 ([some (.inr (.inr 53)), some (.inl ((i : Int))), some (.inl ((j : Int))), some (.inl ((last : Int))), some (.inl 9999), some (.inl 0), some (.inl 10000), some (.inl 0), none, none], [], ω3) = some (some (.inl z), ω4) := r4
      have q2 := q1.trans r4'
      have p2 := pX7_cheapest_0 53 i j last ω2 (i_53 I2.1)
      simp only [m_areTwo I2.1 (by rw [a1]; exact a3), kk, b01_pos hp, m_in1, b01_pos ht, am_bi_s, am_bl_s, am_ba_s, am_bv_s, Int.toNat_zero, Int.reduceToNat, Int.toNat_natCast, if_true, if_false, not_true, not_false_eq_true, Int.reduceEq, Int.reduceLT, Int.reduceLE, i_53 I2.1, q2] at p2
      -- the two answers are one
      obtain ⟨g1, g2⟩ := gN_1 jN N6
      have eq : r = if z = 10000 then -1 else z := by
        have en : cn ω2 1 = cn ω1 1 := f2.2 _ _ (by decide)
        have eT : cT ω2 1 = cT ω1 1 := funext fun k => f2.2 _ _ (by decide)
        have eC : cC ω2 1 = cC ω1 1 := funext fun k => f2.2 _ _ (by decide)
        have eV : ∀ k, k < 6 → cV ω2 1 k = cV ω1 1 k := fun k hk => funext fun f => f2.2 _ _ (by omega)
        rw [en, eT, eC, eV i (by omega), eV j (by omega)] at L4
        rw [g1] at L2
        exact Lst_u (fun t d w => mw_of (hr_1 g2) t d w) (fun t d w => mw_to (hr_1 g2) w) L2 L4
      have fin : am_run (206, 0) 0 ([some (.inr (.inr 53)), some (.inl ((i : Int))), some (.inl ((j : Int))), some (.inl ((last : Int))), none], [], ω2) = some (some (.inl r), ω4) := by
        rw [p2, eq]
        by_cases g : z = 10000
        · rw [if_neg (fun y => y g), if_pos g]
        · rw [if_pos g, if_neg g]
      exact ⟨_, _, _, p1, I2.1, f2.1.2.1.trans sc1, fin, (f4.1.2.1.trans (f3.1.2.1.trans (f2.1.2.1.trans sc1))), I4⟩
    · rw [b01_pos hp, if_neg (by omega), b01_neg ht, if_neg (fun z => z rfl)] at p1
      refine pair_ref h 0 (by omega) p1 ?_
      rw [pX7_cheapest_0 _ _ _ _ _ (i_53 (b 0))]
      simp only [m_areTwo (b 0) (by rw [mk_rfz, e1]; exact e3), mk_rfz, e1, b01_pos hp, m_in1, b01_neg ht, am_bi_s, am_bl_s, am_ba_s, am_bv_s, Int.toNat_zero, Int.reduceToNat, Int.toNat_natCast, if_true, if_false, not_true, not_false_eq_true, Int.reduceEq, Int.reduceLT, Int.reduceLE, i_53 (b 0), m_r2 (b 0)]
  · rw [b01_neg hp, if_pos rfl] at p1
    refine pair_ref h 0 (by omega) p1 ?_
    rw [pX7_cheapest_0 _ _ _ _ _ (i_53 (b 0))]
    simp only [m_areTwo (b 0) (by rw [mk_rfz, e1]; exact e3), mk_rfz, e1, b01_neg hp, am_bi_s, am_bl_s, am_ba_s, am_bv_s, Int.toNat_zero, Int.reduceToNat, Int.toNat_natCast, if_true, if_false, not_true, not_false_eq_true, Int.reduceEq, Int.reduceLT, Int.reduceLE, i_53 (b 0), m_r2 (b 0)]
end K68
