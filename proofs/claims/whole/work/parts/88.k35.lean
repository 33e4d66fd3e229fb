/-! ===== again ===== -/
section K35
variable {ω : am_W} {W : Int}
theorem am_wl_s {z : Int} (h1 : -9223372036854775808 ≤ z) (h2 : z < 9223372036854775808) : am_wl z = z := by
  unfold am_wl
  rw [Int.bmod_def]
  omega
theorem cmp0 {x y : Int} : am_cmp x y = 0 ↔ x = y := by unfold am_cmp; by_cases a : x < y <;> by_cases b : x = y <;> simp [a, b] <;> omega
theorem lcm_at {a t i : Nat} (ha : 1 ≤ a) (ht : 1 ≤ t) (hi : 1 ≤ i) (h1 : t ∣ a * i) (h2 : ∀ k, 1 ≤ k → k < i → ¬ t ∣ a * k) : Nat.lcm a t = a * i := by
  obtain ⟨k, hk⟩ := Nat.dvd_lcm_left a t
  have pos : 0 < Nat.lcm a t := Nat.lcm_pos (by omega) (by omega)
  have k1 : 1 ≤ k := by
    rcases Nat.eq_zero_or_pos k with q | q
    · rw [q, Nat.mul_zero] at hk; omega
    · exact q
  have d : t ∣ a * k := by rw [← hk]; exact Nat.dvd_lcm_right a t
  have le : a * k ≤ a * i := by rw [← hk]; exact Nat.le_of_dvd (Nat.mul_pos (by omega) (by omega)) (Nat.lcm_dvd (Nat.dvd_mul_right a i) h1)
  have ki : k ≤ i := Nat.le_of_mul_le_mul_left le (by omega)
  have : k = i := by
    by_cases q : k < i
    · exact absurd d (h2 k k1 q)
    · omega
  rw [hk, this]
theorem lcm_le' {a t : Nat} (ha : 1 ≤ a) (ht : 1 ≤ t) : 1 ≤ Nat.lcm a t ∧ Nat.lcm a t ≤ a * t := ⟨Nat.lcm_pos (by omega) (by omega), Nat.le_of_dvd (Nat.mul_pos (by omega) (by omega)) (Nat.lcm_dvd (Nat.dvd_mul_right a t) (Nat.dvd_mul_left t a))⟩
theorem mul20 {a i : Nat} (ha : a ≤ 1000000000) (hi : i ≤ 20) : a * i ≤ 20000000000 := by
  have := Nat.mul_le_mul ha hi
  omega
theorem c_lcm {a t : Nat} (ha : 1 ≤ a ∧ a ≤ 1000000000) (ht : 2 ≤ t ∧ t ≤ 20) : am_run (146, 0) 0 ([some (.inr (.inl ((a : Int)))), none, some (.inl ((t : Int))), none], [], ω) = some (some (.inr (.inl (Nat.lcm a t : Nat))), ω) := by
  have lp : ∀ d i : Nat, i + d = t → 1 ≤ i → (∀ k, 1 ≤ k → k < i → ¬ t ∣ a * k) → am_run (146, 0) 15 ([some (.inr (.inl ((a : Int)))), none, some (.inl ((t : Int))), some (.inl ((i : Int)))], [], ω) = some (some (.inr (.inl (Nat.lcm a t : Nat))), ω) := by
    intro d
    induction d with
    | zero =>
      intro i hi h1 hk
      obtain rfl : i = t := by omega
      have b := mul20 ha.2 ht.2
      have e : (a : Int) * (i : Int) = ((a * i : Nat) : Int) := by rw [Int.natCast_mul]
      rw [pX6_leastCommonMultiple_15, if_pos (by omega), e, am_wl_s (by omega) (by omega), lcm_at ha.1 (by omega) h1 (Nat.dvd_mul_left i a) hk]
    | succ d ih =>
      intro i hi h1 hk
      have b := mul20 (i := i) ha.2 (by omega)
      have e : (a : Int) * (i : Int) = ((a * i : Nat) : Int) := by rw [Int.natCast_mul]
      have e2 : (((a * i : Nat) : Int)).tmod (t : Int) = ((a * i % t : Nat) : Int) := by rw [Int.tmod_eq_emod_of_nonneg (by omega), Int.natCast_emod]
      rw [pX6_leastCommonMultiple_15, if_neg (by omega), if_neg (by omega), e, am_wl_s (by omega) (by omega), e2]
      simp only [cmp0]
      by_cases g : t ∣ a * i
      · have : a * i % t = 0 := Nat.mod_eq_zero_of_dvd g
        rw [if_neg (by rw [this]; omega), lcm_at ha.1 (by omega) h1 g hk]
      · have : ¬ a * i % t = 0 := fun z => g (Nat.dvd_of_mod_eq_zero z)
        rw [if_pos (by omega), am_w_s (by omega) (by omega), show (i : Int) + 1 = ((i + 1 : Nat) : Int) by omega]
        refine ih (i + 1) (by omega) (by omega) (fun k k1 k2 => ?_)
        by_cases q : k = i
        · rw [q]; exact g
        · exact hk k k1 (by omega)
  have cm : ¬ am_cmp (a : Int) 1 < 0 := by
    unfold am_cmp
    rw [if_neg (by omega)]
    by_cases q : (a : Int) = 1
    · rw [if_pos q]; omega
    · rw [if_neg q]; omega
  rw [pX6_leastCommonMultiple_0, if_neg cm, if_pos (by omega)]
  exact lp (t - 1) 1 (by omega) (by omega) (fun k h1 h2 => by omega)
theorem lcm_div {a t : Nat} (ha : 1 ≤ a) : a / Nat.gcd a t * t = Nat.lcm a t := by
  have g0 : 0 < Nat.gcd a t := Nat.gcd_pos_of_pos_left t (by omega)
  obtain ⟨q, hq⟩ := Nat.gcd_dvd_left a t
  have e1 : a / Nat.gcd a t = q := Nat.div_eq_of_eq_mul_right g0 hq
  rw [e1]
  unfold Nat.lcm
  have : a * t = Nat.gcd a t * (q * t) := by
    have h2 : a * t = (Nat.gcd a t * q) * t := congrArg (· * t) hq
    rw [h2, Nat.mul_assoc]
  rw [this, Nat.mul_div_cancel_left _ g0]
theorem m_gcd (h : Bs ω) {s : Nat} {l1 c t : Int} (hs : s < 6) (hc : am_get ω 60 s = c) (hc0 : 0 ≤ c ∧ c < 6) (ht : am_get ω 57 c.toNat = t) : ∀ y x : Nat, 1 ≤ x ∨ 1 ≤ y → ∀ o8 o9 : Option am_V, ∃ o8' o9', am_run (213, 0) 53 ([some (.inr (.inr 53)), some (.inr (.inl l1)), none, some (.inl ((s : Int))), some (.inr (.inl ((x : Int)))), none, some (.inr (.inl ((y : Int)))), none, o8, o9], [], ω) = am_run (213, 0) 15 ([some (.inr (.inr 53)), some (.inr (.inl (am_wl ((am_wl (l1.tdiv (Nat.gcd x y : Nat))) * t)))), none, some (.inl (((s + 1 : Nat) : Int))), some (.inr (.inl ((Nat.gcd x y : Nat)))), none, some (.inr (.inl 0)), none, o8', o9'], [], ω) := by
  intro y
  induction y using Nat.strongRecOn with
  | _ y ih =>
    intro x hxy o8 o9
    rw [pX7_again_53 _ _ _ _ _ _ _ _ (i_53 h)]
    simp only [cmp0]
    by_cases g : y = 0
    · subst g
      rw [Nat.gcd_zero_right, if_pos (by rfl), if_neg (by omega)]
      simp only [am_bi_s, am_bl_s, am_ba_s, am_bv_s, Int.toNat_zero, Int.reduceToNat, Int.toNat_natCast, if_true, if_false, not_true, not_false_eq_true, Int.reduceEq, Int.reduceLT, Int.reduceLE, i_53 h, f_53_0 h, f_53_1 h, f_53_2 h, f_53_4 h, f_53_5 h, f_53_7 h, f_53_8 h, f_53_9 h, f_53_10 h, f_53_11 h, n_60 h (i := (s : Int)) (by omega) (by omega), hc, n_57 h hc0.1 hc0.2, ht, am_w_s (z := (s : Int) + 1) (by omega) (by omega)]
      exact ⟨o8, o9, rfl⟩
    · rw [if_neg (by omega), if_neg (by omega)]
      have e : ((x : Int)).tmod (y : Int) = ((x % y : Nat) : Int) := by rw [Int.tmod_eq_emod_of_nonneg (by omega), Int.natCast_emod]
      rw [e]
      obtain ⟨o8', o9', hh⟩ := ih (x % y) (Nat.mod_lt x (by omega)) y (Or.inl (by omega)) (some (.inr (.inl ((x % y : Nat) : Int)))) none
      refine ⟨o8', o9', hh.trans ?_⟩
      rw [show Nat.gcd y (x % y) = Nat.gcd x y by rw [Nat.gcd_comm y, ← Nat.gcd_rec, Nat.gcd_comm]]
def lcmF (T : Nat → Int) (V : Nat → Nat → Int) : Nat → Nat
  | 0 => 1
  | s + 1 => Nat.lcm (lcmF T V s) (T (V s 1).toNat).toNat
theorem lcmF_b {n : Int} {T : Nat → Int} {V : Nat → Nat → Int} {K : Nat} (hn : n ≤ 6) (hT : Tok T) (O : OV n T K V) : ∀ s, s ≤ K → 1 ≤ lcmF T V s ∧ lcmF T V s ≤ 20 ^ s := by
  intro s
  induction s with
  | zero => intro _; exact ⟨Nat.le_refl 1, Nat.le_refl 1⟩
  | succ s ih =>
    intro hs
    have b := ih (by omega)
    have o1 := (O s (by omega)).2.1
    have t := hT (V s 1).toNat (by omega)
    have l := lcm_le' (a := lcmF T V s) (t := (T (V s 1).toNat).toNat) b.1 (by omega)
    refine ⟨l.1, Nat.le_trans l.2 ?_⟩
    rw [Nat.pow_succ]
    exact Nat.mul_le_mul b.2 (by omega)
theorem lcmF_c {T T' : Nat → Int} {V V' : Nat → Nat → Int} {K : Nat} (h : ∀ i, i < K → T (V i 1).toNat = T' (V' i 1).toNat) : lcmF T V K = lcmF T' V' K := by
  induction K with
  | zero => rfl
  | succ K ih => show Nat.lcm (lcmF T V K) _ = Nat.lcm (lcmF T' V' K) _; rw [h K (by omega), ih (fun i hi => h i (by omega))]
theorem p20 {s : Nat} (hs : s ≤ 6) : 20 ^ s ≤ 1000000000 := Nat.le_trans (Nat.pow_le_pow_right (by omega) hs) (by decide)
theorem k_again (h : Inv ω) : Pair 112 213 [some (.inr (.inr 0)), none, none, none, none] [some (.inr (.inr 53)), none, none, none, none, none, none, none, none, none] ω := by
  have h0 := h.1
  obtain ⟨e1, e2, e3, e4⟩ := inv_k h
  obtain ⟨K, hK⟩ : ∃ K : Nat, ck ω 1 = K := ⟨(ck ω 1).toNat, by omega⟩
  have hK1 : am_get ω 1 3 = (K : Int) := hK
  have hK2 : am_get ω 53 6 = (K : Int) := e1.trans hK
  have p1 := pX6_again_0 0 ω (i_0 h0) (by simp only [Int.toNat_zero, f_0_0 h0]; exact i_1 h0)
  have p2 := pX7_again_0 53 ω (i_53 h0)
  simp only [am_bi_s, am_bl_s, am_ba_s, am_bv_s, Int.toNat_zero, Int.reduceToNat, Int.toNat_natCast, if_true, if_false, not_true, not_false_eq_true, Int.reduceEq, Int.reduceLT, Int.reduceLE, i_0 h0, i_1 h0, f_0_0 h0, f_0_3 h0, f_0_4 h0, f_1_1 h0, f_1_2 h0, f_1_4 h0, hK1] at p1
  simp only [am_bi_s, am_bl_s, am_ba_s, am_bv_s, Int.toNat_zero, Int.reduceToNat, Int.toNat_natCast, if_true, if_false, not_true, not_false_eq_true, Int.reduceEq, Int.reduceLT, Int.reduceLE, hK2] at p2
  by_cases g0 : (K : Int) = 0
  · rw [if_neg (fun z => z g0)] at p1 p2
    exact pair_same h p1 p2
  · rw [if_pos g0] at p1 p2
    have O : OV (cn ω 1) (cT ω 1) K (cV ω 1) := fun i hi => by
      have := inv_O h (i := i) (by omega)
      rw [← V_at] at this
      exact this
    have key : ∀ d s : Nat, s + d = K → ∃ r : Int, (∀ o4 : Option am_V, am_run (112, 0) 18 ([some (.inr (.inr 0)), some (.inr (.inl ((lcmF (cT ω 1) (cV ω 1) s : Nat)))), none, some (.inl ((s : Int))), o4], [], ω) = some (some (.inr (.inl r)), ω)) ∧ ∀ o4 o5 o6 o7 o8 o9 : Option am_V, am_run (213, 0) 15 ([some (.inr (.inr 53)), some (.inr (.inl ((lcmF (cT ω 1) (cV ω 1) s : Nat)))), none, some (.inl ((s : Int))), o4, o5, o6, o7, o8, o9], [], ω) = some (some (.inr (.inl r)), ω) := by
      intro d
      induction d with
      | zero =>
        intro s hs
        obtain rfl : s = K := by omega
        refine ⟨(lcmF (cT ω 1) (cV ω 1) s : Nat), fun o4 => ?_, fun o4 o5 o6 o7 o8 o9 => ?_⟩
        · rw [pX6_again_18 _ _ _ _ _ (i_0 h0) (by simp only [Int.toNat_zero, f_0_0 h0]; exact i_1 h0)]
          simp only [am_bi_s, am_bl_s, am_ba_s, am_bv_s, Int.toNat_zero, Int.reduceToNat, Int.toNat_natCast, if_true, if_false, not_true, not_false_eq_true, Int.reduceEq, Int.reduceLT, Int.reduceLE, i_0 h0, i_1 h0, f_0_0 h0, f_0_3 h0, f_0_4 h0, f_1_1 h0, f_1_2 h0, f_1_4 h0, hK1]
          rw [if_pos (by omega)]
        · rw [pX7_again_15 _ _ _ _ _ _ _ _ _ _ (i_53 h0)]
          simp only [am_bi_s, am_bl_s, am_ba_s, am_bv_s, Int.toNat_zero, Int.reduceToNat, Int.toNat_natCast, if_true, if_false, not_true, not_false_eq_true, Int.reduceEq, Int.reduceLT, Int.reduceLE, hK2]
          rw [if_pos (by omega)]
      | succ d ih =>
        intro s hs
        have s6 : s < 6 := by omega
        have eV : am_get ω 4 s = 1 + 4 + (s : Int) := w_V h0 W1 s6
        have iS : am_ina ω 4 (s : Int) = true := ina_S h0 W1 (by omega) (by omega)
        have iV := is_V h0 W1 s6
        have Os := inv_O h (i := s) (by omega)
        have o1 := Os.2.1
        have tt := inv_Tok h (am_get ω (5 + s) 1).toNat (by omega)
        have cv : cV ω 1 s 1 = am_get ω (5 + s) 1 := by unfold cV; rw [V_at]
        have q1 := fun o4 => pX6_again_18 0 (lcmF (cT ω 1) (cV ω 1) s : Nat) s o4 ω (i_0 h0) (by simp only [Int.toNat_zero, f_0_0 h0]; exact i_1 h0)
        have q2 := fun o4 o5 o6 o7 o8 o9 => pX7_again_15 53 (lcmF (cT ω 1) (cV ω 1) s : Nat) s o4 o6 o8 o5 o7 o9 ω (i_53 h0)
        have x1 : am_get ω 60 s = am_get ω (5 + s) 1 := (inv_E5 h s6 1 (by omega)).symm
        have x4 : am_get ω 63 s = am_get ω (5 + s) 4 := (inv_E5 h s6 4 (by omega)).symm
        have xT : am_get ω 57 (am_get ω (5 + s) 1).toNat = cT ω 1 (am_get ω (5 + s) 1).toNat := inv_T h (by omega)
        simp only [am_bi_s, am_bl_s, am_ba_s, am_bv_s, Int.toNat_zero, Int.reduceToNat, Int.toNat_natCast, if_true, if_false, not_true, not_false_eq_true, Int.reduceEq, Int.reduceLT, Int.reduceLE, i_0 h0, i_1 h0, f_0_0 h0, f_0_3 h0, f_0_4 h0, f_1_1 h0, f_1_2 h0, f_1_4 h0, hK1, if_neg (show ¬ (K : Int) ≤ (s : Int) by omega), eV, iS, iV, V_at] at q1
        simp only [am_bi_s, am_bl_s, am_ba_s, am_bv_s, Int.toNat_zero, Int.reduceToNat, Int.toNat_natCast, if_true, if_false, not_true, not_false_eq_true, Int.reduceEq, Int.reduceLT, Int.reduceLE, i_53 h0, f_53_0 h0, f_53_1 h0, f_53_2 h0, f_53_4 h0, f_53_5 h0, f_53_7 h0, f_53_8 h0, f_53_9 h0, f_53_10 h0, f_53_11 h0, hK2, if_neg (show ¬ (K : Int) ≤ (s : Int) by omega), n_59 h0 (i := (s : Int)) (by omega) (by omega), n_60 h0 (i := (s : Int)) (by omega) (by omega), n_61 h0 (i := (s : Int)) (by omega) (by omega), n_62 h0 (i := (s : Int)) (by omega) (by omega), n_63 h0 (i := (s : Int)) (by omega) (by omega), x1, x4, n_57 h0 o1.1 (show am_get ω (5 + s) 1 < 6 by omega), xT] at q2
        by_cases gb : am_get ω (5 + s) 4 ≤ 0
        · obtain ⟨tn, htn⟩ : ∃ tn : Nat, cT ω 1 (am_get ω (5 + s) 1).toNat = tn := ⟨(cT ω 1 (am_get ω (5 + s) 1).toNat).toNat, by omega⟩
          have lb := lcmF_b e4.2 (inv_Tok h) O s (by omega)
          have l9 := Nat.le_trans lb.2 (p20 (s := s) (by omega))
          have nx : lcmF (cT ω 1) (cV ω 1) (s + 1) = Nat.lcm (lcmF (cT ω 1) (cV ω 1) s) tn := by
            show Nat.lcm (lcmF (cT ω 1) (cV ω 1) s) (cT ω 1 (cV ω 1 s 1).toNat).toNat = _
            rw [cv, htn, Int.toNat_natCast]
          obtain ⟨r, r1, r2⟩ := ih (s + 1) (by omega)
          rw [nx] at r1 r2
          have s1 : am_w ((s : Int) + 1) = ((s + 1 : Nat) : Int) := (am_w_s (by omega) (by omega)).trans (by omega)
          refine ⟨r, fun o4 => ?_, fun o4 o5 o6 o7 o8 o9 => ?_⟩
          · rw [q1 o4, if_pos gb]
            simp only [am_bi_s, am_bl_s, am_ba_s, am_bv_s, Int.toNat_zero, Int.reduceToNat, Int.toNat_natCast, if_true, if_false, not_true, not_false_eq_true, Int.reduceEq, Int.reduceLT, Int.reduceLE, c_timeOf h0 W1 o1.1 o1.2 e4.2, htn, c_lcm ⟨lb.1, l9⟩ (t := tn) (by omega), s1, r1]
          · rw [q2 o4 o5 o6 o7 o8 o9, if_pos gb, htn]
            obtain ⟨o8', o9', hh⟩ := m_gcd h0 (l1 := (lcmF (cT ω 1) (cV ω 1) s : Nat)) (t := cT ω 1 (am_get ω (5 + s) 1).toNat) s6 x1 (by omega) xT tn (lcmF (cT ω 1) (cV ω 1) s) (Or.inl lb.1) o8 o9
            rw [hh, htn]
            have e3' : (((lcmF (cT ω 1) (cV ω 1) s : Nat) : Int)).tdiv (Nat.gcd (lcmF (cT ω 1) (cV ω 1) s) tn : Nat) = ((lcmF (cT ω 1) (cV ω 1) s / Nat.gcd (lcmF (cT ω 1) (cV ω 1) s) tn : Nat) : Int) := by rw [Int.tdiv_eq_ediv_of_nonneg (by omega), Int.natCast_ediv]
            have dl : lcmF (cT ω 1) (cV ω 1) s / Nat.gcd (lcmF (cT ω 1) (cV ω 1) s) tn ≤ 1000000000 := Nat.le_trans (Nat.div_le_self _ _) l9
            have m20 := mul20 (i := tn) dl (by omega)
            have dl0 : (0 : Int) ≤ ((lcmF (cT ω 1) (cV ω 1) s / Nat.gcd (lcmF (cT ω 1) (cV ω 1) s) tn : Nat) : Int) := Int.natCast_nonneg _
            have dl1 : ((lcmF (cT ω 1) (cV ω 1) s / Nat.gcd (lcmF (cT ω 1) (cV ω 1) s) tn : Nat) : Int) ≤ 1000000000 := Int.ofNat_le.mpr dl
            rw [e3', am_wl_s (z := ((lcmF (cT ω 1) (cV ω 1) s / Nat.gcd (lcmF (cT ω 1) (cV ω 1) s) tn : Nat) : Int)) (by omega) (by omega), ← Int.natCast_mul, am_wl_s (by omega) (by omega), lcm_div lb.1]
            exact r2 _ _ _ _ _ _
        · refine ⟨-1, fun o4 => ?_, fun o4 o5 o6 o7 o8 o9 => ?_⟩
          · rw [q1 o4, if_neg gb]
          · rw [q2 o4 o5 o6 o7 o8 o9, if_neg gb]
    obtain ⟨r, r1, r2⟩ := key K 0 (by omega)
    exact pair_same h (p1.trans (r1 none)) (p2.trans (r2 none none none none none none))
end K35
