/-! ===== queue ===== -/
section K33
variable {ω : am_W} {W : Int}
noncomputable def orF (p : Nat → Prop) : Nat → Int
  | 0 => 0
  | i + 1 => @ite _ (p i) (Classical.propDecidable _) (am_or (orF p i) (am_shl 1 (i : Int))) (orF p i)
theorem orF_y {p : Nat → Prop} {i : Nat} (h : p i) : orF p (i + 1) = am_or (orF p i) (am_shl 1 (i : Int)) := @if_pos _ (Classical.propDecidable _) h _ _ _
theorem orF_n {p : Nat → Prop} {i : Nat} (h : ¬ p i) : orF p (i + 1) = orF p i := @if_neg _ (Classical.propDecidable _) h _ _ _
theorem orF_c {p q : Nat → Prop} {n : Nat} (h : ∀ i, i < n → (p i ↔ q i)) : orF p n = orF q n := by
  induction n with
  | zero => rfl
  | succ n ih =>
    have := ih (fun i hi => h i (by omega))
    by_cases g : p n
    · rw [orF_y g, orF_y ((h n (by omega)).mp g), this]
    · rw [orF_n g, orF_n (fun z => g ((h n (by omega)).mpr z)), this]
def ab (x : Int) : Int := if 0 ≤ x then x else -x
theorem ab_b {x : Int} {m : Int} (h : -m ≤ x ∧ x ≤ m) : 0 ≤ ab x ∧ ab x ≤ m := by
  unfold ab
  by_cases g : 0 ≤ x
  · rw [if_pos g]; omega
  · rw [if_neg g]; omega
theorem j_abs {x : Int} (h : -1000 ≤ x ∧ x ≤ 1000) : am_run (235, 0) 0 ([some (.inl x)], [], ω) = some (some (.inl (ab x)), ω) := by
  rw [pJ9_abs_0f7a4_0]
  unfold ab
  by_cases g : 0 ≤ x
  · rw [if_pos g, if_pos g]
  · rw [if_neg g, if_neg g, am_w_s (by omega) (by omega)]
def mi2 (a b : Int) : Int := if b < a then b else a
theorem j_min {a b : Int} : am_run (237, 0) 0 ([some (.inl a), some (.inl b)], [], ω) = some (some (.inl (mi2 a b)), ω) := by
  rw [pJ9_min_7cf53_0]
  unfold mi2
  by_cases g : b < a
  · rw [if_pos g, if_pos g]
  · rw [if_neg g, if_neg g]
def quF (V : Nat → Nat → Int) (t g : Int) (st i : Nat) : Prop := i ≠ st ∧ V i 1 = V st 1 ∧ V i 4 ≤ 0 ∧ mi2 (ab (V i 2 - V st 2)) (t - ab (V i 2 - V st 2)) < g
theorem quF_c {V V' : Nat → Nat → Int} {t g : Int} {st i : Nat} (hs : E5 (V st) (V' st)) (hi : E5 (V i) (V' i)) : quF V t g st i ↔ quF V' t g st i := by
  unfold quF
  rw [hs 1 (by omega), hs 2 (by omega), hi 1 (by omega), hi 2 (by omega), hi 4 (by omega)]
theorem k_queue (h : Inv ω) (s w : Int) : Pair 114 215 [some (.inr (.inr 0)), some (.inl s), some (.inl w)] [some (.inr (.inr 53)), some (.inl s), some (.inl w), none, none, none] ω := by
  have h0 := h.1
  obtain ⟨e1, e2, e3, e4⟩ := inv_k h
  have b := fun k => rfz_bs (k := k) h0
  have p1 := pX6_queue_0 0 s w ω (i_0 h0) (by simp only [Int.toNat_zero, f_0_0 h0]; exact i_1 h0)
  simp only [am_bi_s, am_bl_s, am_ba_s, am_bv_s, Int.toNat_zero, Int.reduceToNat, Int.toNat_natCast, if_true, if_false, not_true, not_false_eq_true, Int.reduceEq, Int.reduceLT, Int.reduceLE, i_0 h0, i_1 h0, f_0_0 h0, f_0_3 h0, f_0_4 h0, f_1_1 h0, f_1_2 h0, f_1_4 h0, c_hasShip h0 W1, c_r2 h0] at p1
  by_cases hs : 0 ≤ s ∧ s < ck ω 1
  · by_cases hw : 0 ≤ w ∧ w ≤ 20
    · obtain ⟨i, rfl⟩ : ∃ i : Nat, s = i := ⟨s.toNat, by omega⟩
      obtain ⟨K, hK⟩ : ∃ K : Nat, ck ω 1 = K := ⟨(ck ω 1).toNat, by omega⟩
      have hK1 : am_get ω 1 3 = (K : Int) := hK
      have K6 : K ≤ 6 := by omega
      have Y : ∀ j d : Nat, j + (d + 1) = K → j < 6 ∧ j < 32 ∧ ¬ (K : Int) ≤ (j : Int) ∧ (j : Int) < ck ω 1 ∧ am_w ((j : Int) + 1) = ((j + 1 : Nat) : Int) ∧ (j + 1) + d = K ∧ (0 : Int) ≤ (j : Int) ∧ (j : Int) < 6 := fun j d hj => ⟨by omega, by omega, by omega, by omega, (am_w_s (by omega) (by omega)).trans (by omega), by omega, by omega, by omega⟩
      have ine : ∀ j : Nat, j ≠ i → ¬ (j : Int) = (i : Int) := fun j hj => by omega
      have ieq : ∀ j : Nat, ¬ (j : Int) = (i : Int) → j ≠ i := fun j hj => by omega
      have hK2 : am_get ω 53 6 = (K : Int) := e1.trans hK
      have hi : i < 6 := by omega
      have eV : am_get ω 4 i = 1 + 4 + (i : Int) := w_V h0 W1 hi
      have iS : am_ina ω 4 (i : Int) = true := ina_S h0 W1 (by omega) (by omega)
      have iV := is_V h0 W1 hi
      have O := inv_O h hs.2
      have o1 := O.2.1
      have o2 := O.2.2.1
      have tt := inv_Tok h (am_get ω (5 + i) 1).toNat (by omega)
      simp only [b01_pos hs, am_bi_s, am_bl_s, am_ba_s, am_bv_s, Int.toNat_zero, Int.reduceToNat, Int.toNat_natCast, if_true, if_false, not_true, not_false_eq_true, Int.reduceEq, Int.reduceLT, Int.reduceLE, i_0 h0, i_1 h0, f_0_0 h0, f_0_3 h0, f_0_4 h0, f_1_1 h0, f_1_2 h0, f_1_4 h0, if_neg (show ¬ w < 0 by omega), if_pos hw.2, eV, iS, iV, V_at, c_r5 h0] at p1
      have x0 : am_get ω 59 i = am_get ω (5 + i) 0 := (inv_E5 h hi 0 (by omega)).symm
      by_cases gk : am_get ω (5 + i) 0 = 4
      · rw [if_pos gk] at p1
        have cv : ∀ j f, cV ω 1 j f = am_get ω (5 + j) f := fun j f => by unfold cV; rw [V_at]
        have q0 := pX6_queueAt_0 0 (i : Int) w ω (i_0 h0) (by simp only [Int.toNat_zero, f_0_0 h0]; exact i_1 h0)
        simp only [am_bi_s, am_bl_s, am_ba_s, am_bv_s, Int.toNat_zero, Int.reduceToNat, Int.toNat_natCast, if_true, if_false, not_true, not_false_eq_true, Int.reduceEq, Int.reduceLT, Int.reduceLE, i_0 h0, i_1 h0, f_0_0 h0, f_0_3 h0, f_0_4 h0, f_1_1 h0, f_1_2 h0, f_1_4 h0, eV, iS, iV, V_at, c_timeOf h0 W1 o1.1 o1.2 e4.2, c_idleOn h0 W1 hK (by omega)] at q0
        have cl : ∀ d j : Nat, j + d = K → ∀ o8 o9 : Option am_V, am_run (135, 0) 42 ([some (.inr (.inr 0)), some (.inl ((i : Int))), some (.inl w), some (.inr (.inr (1 + 4 + (i : Int)))), some (.inl (cT ω 1 (am_get ω (5 + i) 1).toNat)), some (.inl (idF (cV ω 1) (am_get ω (5 + i) 1) K)), some (.inl (orF (quF (cV ω 1) (cT ω 1 (am_get ω (5 + i) 1).toNat) w i) j)), some (.inl ((j : Int))), o8, o9], [], ω) = some (some (.inl (orF (quF (cV ω 1) (cT ω 1 (am_get ω (5 + i) 1).toNat) w i) K)), ω) := by
          intro d
          induction d with
          | zero =>
            intro j hj o8 o9
            obtain rfl : j = K := by omega
            rw [pX6_queueAt_42 _ _ _ _ _ _ _ _ _ _ _ (i_0 h0) (by simp only [Int.toNat_zero, f_0_0 h0]; exact i_1 h0) iV]
            simp only [am_bi_s, am_bl_s, am_ba_s, am_bv_s, Int.toNat_zero, Int.reduceToNat, Int.toNat_natCast, if_true, if_false, not_true, not_false_eq_true, Int.reduceEq, Int.reduceLT, Int.reduceLE, i_0 h0, i_1 h0, f_0_0 h0, f_0_3 h0, f_0_4 h0, f_1_1 h0, f_1_2 h0, f_1_4 h0, hK1]
            rw [if_pos (by omega)]
          | succ d ih =>
            intro j hj o8 o9
            obtain ⟨j6, j32, jK, jk, j1, jd, j0, j6'⟩ := Y j d hj
            have eU : am_get ω 4 j = 1 + 4 + (j : Int) := w_V h0 W1 j6
            have jS : am_ina ω 4 (j : Int) = true := ina_S h0 W1 j0 j6'
            have jV := is_V h0 W1 (i := j) j6
            have P := inv_O h (i := j) jk
            have r1 := P.2.1
            have r2 := P.2.2.1
            have tj := inv_Tok h (am_get ω (5 + j) 1).toNat (by clear o1 o2 tt; omega)
            obtain ⟨dv1, dv2⟩ : -20 ≤ am_get ω (5 + j) 2 - am_get ω (5 + i) 2 ∧ am_get ω (5 + j) 2 - am_get ω (5 + i) 2 ≤ 20 := by clear r1 o1; omega
            have bb := ab_b (x := am_get ω (5 + j) 2 - am_get ω (5 + i) 2) (m := 20) ⟨dv1, dv2⟩
            rw [pX6_queueAt_42 _ _ _ _ _ _ _ _ _ _ _ (i_0 h0) (by simp only [Int.toNat_zero, f_0_0 h0]; exact i_1 h0) iV]
            simp only [am_bi_s, am_bl_s, am_ba_s, am_bv_s, Int.toNat_zero, Int.reduceToNat, Int.toNat_natCast, if_true, if_false, not_true, not_false_eq_true, Int.reduceEq, Int.reduceLT, Int.reduceLE, i_0 h0, i_1 h0, f_0_0 h0, f_0_3 h0, f_0_4 h0, f_1_1 h0, f_1_2 h0, f_1_4 h0, hK1, if_neg jK, eU, jS, jV, V_at, am_w_s (z := am_get ω (5 + j) 2 - am_get ω (5 + i) 2) (by omega) (by omega), j_abs (x := am_get ω (5 + j) 2 - am_get ω (5 + i) 2) (by omega), am_w_s (z := cT ω 1 (am_get ω (5 + i) 1).toNat - ab (am_get ω (5 + j) 2 - am_get ω (5 + i) 2)) (by omega) (by omega), j_min, pX6_queueAt_96, j1, and_bit j6, bt_id K6 j32]
            by_cases q : quF (cV ω 1) (cT ω 1 (am_get ω (5 + i) 1).toNat) w i j
            · obtain ⟨q1, q2, q3, q4⟩ := id q
              simp only [cv] at q2 q3 q4
              have jlt : j < K := by clear q1 q2 q3 q4 q bb dv1 dv2 tj r1 r2 o1 o2 tt; omega
              rw [if_neg (Int.not_le.mpr q4), if_neg (ine j q1)]
              have dd : ¬ (decide (j < K ∧ cV ω 1 j 1 = am_get ω (5 + i) 1 ∧ cV ω 1 j 4 ≤ 0) = false) := by simp only [cv]; simp [q2, q3, jlt]
              rw [if_neg dd, ← ih (j + 1) jd (some (.inl (ab (am_get ω (5 + j) 2 - am_get ω (5 + i) 2)))) (some (.inl 1)), orF_y q]
            · have fin : ∀ o, am_run (135, 0) 42 ([some (.inr (.inr 0)), some (.inl ((i : Int))), some (.inl w), some (.inr (.inr (1 + 4 + (i : Int)))), some (.inl (cT ω 1 (am_get ω (5 + i) 1).toNat)), some (.inl (idF (cV ω 1) (am_get ω (5 + i) 1) K)), some (.inl (orF (quF (cV ω 1) (cT ω 1 (am_get ω (5 + i) 1).toNat) w i) j)), some (.inl (((j + 1 : Nat) : Int))), some (.inl (ab (am_get ω (5 + j) 2 - am_get ω (5 + i) 2))), o], [], ω) = some (some (.inl (orF (quF (cV ω 1) (cT ω 1 (am_get ω (5 + i) 1).toNat) w i) K)), ω) := fun o => by
                rw [← ih (j + 1) jd (some (.inl (ab (am_get ω (5 + j) 2 - am_get ω (5 + i) 2)))) o, orF_n q]
              by_cases g1 : w ≤ mi2 (ab (am_get ω (5 + j) 2 - am_get ω (5 + i) 2)) (cT ω 1 (am_get ω (5 + i) 1).toNat - ab (am_get ω (5 + j) 2 - am_get ω (5 + i) 2))
              · rw [if_pos g1, fin, ite_self, ite_self]
              · rw [if_neg g1]
                by_cases g2 : (j : Int) = (i : Int)
                · rw [if_pos g2, fin]
                · rw [if_neg g2]
                  have dd : decide (j < K ∧ cV ω 1 j 1 = am_get ω (5 + i) 1 ∧ cV ω 1 j 4 ≤ 0) = false := by
                    refine decide_eq_false (fun z => q ⟨ieq j g2, ?_, z.2.2, ?_⟩)
                    · rw [cv i 1]; exact z.2.1
                    · rw [cv, cv]; exact Int.not_le.mp g1
                  rw [if_pos dd, fin]
        have ml : ∀ d j : Nat, j + d = K → ∀ o5 : Option am_V, am_run (215, 0) 47 ([some (.inr (.inr 53)), some (.inl ((i : Int))), some (.inl w), some (.inl (orF (quF (mV ω) (cT ω 1 (am_get ω (5 + i) 1).toNat) w i) j)), some (.inl ((j : Int))), o5], [], ω) = some (some (.inl (orF (quF (mV ω) (cT ω 1 (am_get ω (5 + i) 1).toNat) w i) K)), ω) := by
          intro d
          induction d with
          | zero =>
            intro j hj o5
            obtain rfl : j = K := by omega
            rw [pX7_queue_47 _ _ _ _ _ _ _ (i_53 h0)]
            simp only [am_bi_s, am_bl_s, am_ba_s, am_bv_s, Int.toNat_zero, Int.reduceToNat, Int.toNat_natCast, if_true, if_false, not_true, not_false_eq_true, Int.reduceEq, Int.reduceLT, Int.reduceLE, hK2]
            rw [if_pos (by omega)]
          | succ d ih =>
            intro j hj o5
            obtain ⟨j6, j32, jK, jk, j1, jd, j0, j6'⟩ := Y j d hj
            clear o1 o2 tt
            have mP := inv_mO h (i := j) jk
            have mO := inv_mO h hs.2
            have t1 := inv_mTok h (mV ω j 1).toNat (by have := mP.2.1; omega)
            have t2 := inv_mTok h (mV ω i 1).toNat (by have := mO.2.1; omega)
            have a1 := mP.2.2.1
            have a2 := mO.2.2.1
            have a3 := mO.2.1
            have a36 : mV ω i 1 < 6 := by omega
            have i6' : (i : Int) < 6 := by omega
            have i0' : (0 : Int) ≤ (i : Int) := by omega
            obtain ⟨dv1, dv2⟩ : -20 ≤ mV ω j 2 - mV ω i 2 ∧ mV ω j 2 - mV ω i 2 ≤ 20 := by omega
            have y1 : am_get ω 60 j = mV ω j 1 := rfl
            have y2 : am_get ω 61 j = mV ω j 2 := rfl
            have y4 : am_get ω 63 j = mV ω j 4 := rfl
            have z1 : am_get ω 60 i = mV ω i 1 := rfl
            have z2 : am_get ω 61 i = mV ω i 2 := rfl
            have eT : am_get ω 57 (mV ω i 1).toNat = cT ω 1 (am_get ω (5 + i) 1).toNat := by
              have := inv_E6 h (mV ω i 1).toNat (by omega)
              rw [inv_E5 h hi 1 (by omega)]
              exact this.symm
            have tc : 2 ≤ cT ω 1 (am_get ω (5 + i) 1).toNat ∧ cT ω 1 (am_get ω (5 + i) 1).toNat ≤ 20 := by rw [← eT]; exact t2
            clear t1 t2 a1 a2
            have bb := ab_b (x := mV ω j 2 - mV ω i 2) (m := 20) ⟨dv1, dv2⟩
            rw [pX7_queue_47 _ _ _ _ _ _ _ (i_53 h0)]
            simp only [am_bi_s, am_bl_s, am_ba_s, am_bv_s, Int.toNat_zero, Int.reduceToNat, Int.toNat_natCast, if_true, if_false, not_true, not_false_eq_true, Int.reduceEq, Int.reduceLT, Int.reduceLE, i_53 h0, f_53_0 h0, f_53_1 h0, f_53_2 h0, f_53_4 h0, f_53_5 h0, f_53_7 h0, f_53_8 h0, f_53_9 h0, f_53_10 h0, f_53_11 h0, hK2, if_neg jK, n_60 h0 i0' i6', n_61 h0 i0' i6', n_60 h0 j0 j6', n_61 h0 j0 j6', n_63 h0 j0 j6', y1, y2, y4, z1, z2, j1, am_w_s (z := mV ω j 2 - mV ω i 2) (by omega) (by omega), j_abs (x := mV ω j 2 - mV ω i 2) (by omega), n_57 h0 a3.1 a36, eT, am_w_s (z := cT ω 1 (am_get ω (5 + i) 1).toNat - ab (mV ω j 2 - mV ω i 2)) (by omega) (by omega), j_min]
            by_cases q : quF (mV ω) (cT ω 1 (am_get ω (5 + i) 1).toNat) w i j
            · obtain ⟨q1, q2, q3, q4⟩ := id q
              rw [if_neg (ine j q1), if_neg (Int.not_lt.mpr q3), if_pos q2, if_neg (Int.not_le.mpr q4), ← ih (j + 1) jd (some (.inl (ab (mV ω j 2 - mV ω i 2)))), orF_y q]
            · have fin : ∀ o, am_run (215, 0) 47 ([some (.inr (.inr 53)), some (.inl ((i : Int))), some (.inl w), some (.inl (orF (quF (mV ω) (cT ω 1 (am_get ω (5 + i) 1).toNat) w i) j)), some (.inl (((j + 1 : Nat) : Int))), o], [], ω) = some (some (.inl (orF (quF (mV ω) (cT ω 1 (am_get ω (5 + i) 1).toNat) w i) K)), ω) := fun o => by
                rw [← ih (j + 1) jd o, orF_n q]
              by_cases g1 : (j : Int) = (i : Int)
              · rw [if_pos g1, fin]
              · rw [if_neg g1]
                by_cases g2 : 0 < mV ω j 4
                · rw [if_pos g2, fin]
                · rw [if_neg g2]
                  by_cases g3 : mV ω j 1 = mV ω i 1
                  · rw [if_pos g3, if_pos (by
                      by_cases g4 : w ≤ mi2 (ab (mV ω j 2 - mV ω i 2)) (cT ω 1 (am_get ω (5 + i) 1).toNat - ab (mV ω j 2 - mV ω i 2))
                      · exact g4
                      · exact absurd ⟨ieq j g1, g3, Int.not_lt.mp g2, Int.not_le.mp g4⟩ q), fin]
                  · rw [if_neg g3, fin]
        have c0 := cl K 0 (by omega) none none
        have m0 := ml K 0 (by omega) none
        rw [show (some (.inl ((0 : Nat) : Int)) : Option am_V) = some (.inl 0) from rfl, show orF (quF (cV ω 1) (cT ω 1 (am_get ω (5 + i) 1).toNat) w i) 0 = 0 from rfl] at c0
        rw [show (some (.inl ((0 : Nat) : Int)) : Option am_V) = some (.inl 0) from rfl, show orF (quF (mV ω) (cT ω 1 (am_get ω (5 + i) 1).toNat) w i) 0 = 0 from rfl, orF_c (p := quF (mV ω) (cT ω 1 (am_get ω (5 + i) 1).toNat) w i) (q := quF (cV ω 1) (cT ω 1 (am_get ω (5 + i) 1).toNat) w i) (n := K) (fun j hj => quF_c (fun f hf => inv_V h hi hf) (fun f hf => inv_V h (by omega) hf))] at m0
        rw [q0, c0] at p1
        simp only [am_bi_s, am_bl_s, am_ba_s, am_bv_s, Int.toNat_zero, Int.reduceToNat, Int.toNat_natCast, if_true, if_false, not_true, not_false_eq_true, Int.reduceEq, Int.reduceLT, Int.reduceLE] at p1
        refine pair_same h p1 ?_
        rw [pX7_queue_0 _ _ _ _ (i_53 h0)]
        simp only [m_isShip h0 (by rw [e1]; exact e3), e1, b01_pos hs, m_in1, b01_pos hw, am_bi_s, am_bl_s, am_ba_s, am_bv_s, Int.toNat_zero, Int.reduceToNat, Int.toNat_natCast, if_true, if_false, not_true, not_false_eq_true, Int.reduceEq, Int.reduceLT, Int.reduceLE, i_53 h0, f_53_0 h0, f_53_1 h0, f_53_2 h0, f_53_4 h0, f_53_5 h0, f_53_7 h0, f_53_8 h0, f_53_9 h0, f_53_10 h0, f_53_11 h0, n_59 h0 (i := (i : Int)) (by omega) (by omega), n_60 h0 (i := (i : Int)) (by omega) (by omega), n_61 h0 (i := (i : Int)) (by omega) (by omega), n_62 h0 (i := (i : Int)) (by omega) (by omega), n_63 h0 (i := (i : Int)) (by omega) (by omega), x0, gk]
        exact m0
      · rw [if_neg gk] at p1
        refine pair_ref h 3 (by omega) p1 ?_
        have y0 : am_get (rfz ω 3) 59 i = am_get ω (5 + i) 0 := (rfz_get (by omega)).trans x0
        rw [pX7_queue_0 _ _ _ _ (i_53 (b 3))]
        simp only [m_isShip (b 3) (by rw [mk_rfz, e1]; exact e3), mk_rfz, e1, b01_pos hs, m_in1, b01_pos hw, am_bi_s, am_bl_s, am_ba_s, am_bv_s, Int.toNat_zero, Int.reduceToNat, Int.toNat_natCast, if_true, if_false, not_true, not_false_eq_true, Int.reduceEq, Int.reduceLT, Int.reduceLE, i_53 (b 3), f_53_0 (b 3), f_53_1 (b 3), f_53_2 (b 3), f_53_4 (b 3), f_53_5 (b 3), f_53_7 (b 3), f_53_8 (b 3), f_53_9 (b 3), f_53_10 (b 3), f_53_11 (b 3), n_59 (b 3) (i := (i : Int)) (by omega) (by omega), n_60 (b 3) (i := (i : Int)) (by omega) (by omega), n_61 (b 3) (i := (i : Int)) (by omega) (by omega), n_62 (b 3) (i := (i : Int)) (by omega) (by omega), n_63 (b 3) (i := (i : Int)) (by omega) (by omega), y0, if_neg gk, m_r5 (b 3)]
    · have p1' : am_run (114, 0) 0 ([some (.inr (.inr 0)), some (.inl s), some (.inl w)], [], ω) = some (some (.inl (-2)), rfz ω 0) := by
        rw [p1, b01_pos hs, if_neg (by omega)]
        by_cases g : w < 0
        · rw [if_pos g]
        · rw [if_neg g, if_neg (by omega)]
      refine pair_ref h 0 (by omega) p1' ?_
      rw [pX7_queue_0 _ _ _ _ (i_53 (b 0))]
      simp only [m_isShip (b 0) (by rw [mk_rfz, e1]; exact e3), mk_rfz, e1, b01_pos hs, m_in1, b01_neg hw, am_bi_s, am_bl_s, am_ba_s, am_bv_s, Int.toNat_zero, Int.reduceToNat, Int.toNat_natCast, if_true, if_false, not_true, not_false_eq_true, Int.reduceEq, Int.reduceLT, Int.reduceLE, i_53 (b 0), m_r2 (b 0)]
  · rw [b01_neg hs] at p1
    simp only [if_true] at p1
    refine pair_ref h 0 (by omega) p1 ?_
    rw [pX7_queue_0 _ _ _ _ (i_53 (b 0))]
    simp only [m_isShip (b 0) (by rw [mk_rfz, e1]; exact e3), mk_rfz, e1, b01_neg hs, am_bi_s, am_bl_s, am_ba_s, am_bv_s, Int.toNat_zero, Int.reduceToNat, Int.toNat_natCast, if_true, if_false, not_true, not_false_eq_true, Int.reduceEq, Int.reduceLT, Int.reduceLE, i_53 (b 0), m_r2 (b 0)]
end K33
