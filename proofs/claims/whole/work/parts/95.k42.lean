/-! ===== judge, flown, met ===== -/
section K42
variable {ω : am_W}
theorem ff_none {p : Nat → Prop} : ∀ d t, ff p t d = -1 → ∀ x, t ≤ x → x < t + d → ¬ p x := by
  intro d
  induction d with
  | zero => intro t _ x h1 h2; omega
  | succ d ih =>
    intro t h x h1 h2
    by_cases g : p t
    · rw [ff_y g] at h; omega
    · rw [ff_n g] at h
      by_cases e : x = t
      · rw [e]; exact g
      · exact ih (t + 1) h x (by omega) (by omega)
theorem rr_0 {ok : Prop} {c z n : Int} (h : rrF ok c z n = 0) : ok ∧ c < 10 ∧ c ≠ -1 ∧ n ≤ z := by
  by_cases g : ok
  · rw [rrF_t g] at h
    by_cases g1 : 10 ≤ c
    · rw [if_pos g1] at h; omega
    · rw [if_neg g1] at h
      by_cases g2 : c = -1
      · rw [if_pos g2] at h; omega
      · rw [if_neg g2] at h
        by_cases g3 : z < n
        · rw [if_pos g3] at h; omega
        · exact ⟨g, by omega, g2, by omega⟩
  · rw [rrF_f g] at h; omega
theorem rr_n {ok : Prop} {c z n : Int} (h : ¬ rrF ok c z n = 0) : ∃ k : Nat, k < 3 ∧ rrF ok c z n = -2 - (k : Int) := by
  by_cases g : ok
  · rw [rrF_t g] at h ⊢
    by_cases g1 : 10 ≤ c
    · rw [if_pos g1]; exact ⟨1, by omega, rfl⟩
    · rw [if_neg g1] at h ⊢
      by_cases g2 : c = -1
      · rw [if_pos g2]; exact ⟨2, by omega, rfl⟩
      · rw [if_neg g2] at h ⊢
        by_cases g3 : z < n
        · rw [if_pos g3]; exact ⟨0, by omega, rfl⟩
        · rw [if_neg g3] at h; exact absurd rfl h
  · rw [rrF_f g]; exact ⟨0, by omega, rfl⟩
theorem rr_c {p q : Prop} {c z z' n : Int} (h : p ↔ q) (hz : 0 ≤ c ∧ c ≤ 4 → z = z') (hc : q → c = -1 ∨ (0 ≤ c ∧ c ≤ 4) ∨ 10 ≤ c) : rrF p c z n = rrF q c z' n := by
  by_cases g : q
  · rw [rrF_t g, rrF_t (h.mpr g)]
    by_cases g1 : 10 ≤ c
    · rw [if_pos g1, if_pos g1]
    · rw [if_neg g1, if_neg g1]
      by_cases g2 : c = -1
      · rw [if_pos g2, if_pos g2]
      · rw [if_neg g2, if_neg g2, hz (by have := hc g; omega)]
  · rw [rrF_f g, rrF_f (fun z => g (h.mp z))]
theorem c_isFlight (h : Bs ω) {n s : Int} : am_run (138, 0) 0 ([some (.inr (.inr 0)), some (.inl n), some (.inl s)], [], ω) = some (some (.inl (b01 ((0 ≤ n ∧ n ≤ 40) ∧ (0 ≤ s ∧ s < ck ω 1)))), ω) := by
  rw [pX6_isFlight_0 _ _ _ _ (i_0 h) (by simp only [Int.toNat_zero]; rw [f_0_0 h]; exact i_1 h)]
  simp only [am_bi_s, am_bl_s, am_ba_s, am_bv_s, Int.toNat_zero, Int.reduceToNat, Int.toNat_natCast, if_true, if_false, not_true, not_false_eq_true, Int.reduceEq, Int.reduceLT, Int.reduceLE, f_0_0 h, c_hasShip h W1]
  by_cases g1 : n < 0
  · rw [if_pos g1, b01_neg (by omega)]
  · rw [if_neg g1]
    by_cases g2 : 40 < n
    · rw [if_pos g2, b01_neg (by omega)]
    · rw [if_neg g2]
      by_cases g3 : 0 ≤ s ∧ s < ck ω 1
      · rw [b01_pos g3, if_neg (by omega), b01_pos (by omega)]
      · rw [b01_neg g3, if_pos rfl, b01_neg (by omega)]
theorem m_noFlight (h : Bs ω) {s n f : Int} (hc : 0 ≤ s ∧ s ≤ 7 → am_get ω 54 s.toNat = -1 ∨ (0 ≤ am_get ω 54 s.toNat ∧ am_get ω 54 s.toNat ≤ 4) ∨ 10 ≤ am_get ω 54 s.toNat) : am_run (195, 0) 0 ([some (.inr (.inr 53)), some (.inl s), some (.inl n), some (.inl f), none], [], ω) = some (some (.inl (rrF ((0 ≤ s ∧ s ≤ 7) ∧ (0 ≤ n ∧ n ≤ 40) ∧ f = 0) (am_get ω 54 s.toNat) (am_get ω 55 s.toNat) n)), ω) := by
  rw [pX7_noFlight_0]
  simp only [m_in1, am_bi_s]
  by_cases hs : 0 ≤ s ∧ s ≤ 7
  · rw [b01_pos hs, if_neg (by omega)]
    by_cases hn : 0 ≤ n ∧ n ≤ 40
    · rw [b01_pos hn, if_neg (by omega)]
      by_cases hf : f = 0
      · rw [if_pos hf, if_pos (i_53 h), rrF_t ⟨hs, hn, hf⟩]
        obtain ⟨t, rfl⟩ : ∃ t : Nat, s = t := ⟨s.toNat, by omega⟩
        rw [Int.toNat_natCast] at hc ⊢
        rcases hc hs with q | q | q
        · rw [bi_v (m_noRow_n h (by omega) (by omega)), if_neg (by omega), if_neg (by omega), if_pos q]
        · rw [bi_v (m_noRow_r h (by omega) q), if_pos (by omega)]
          simp only [am_bi_s, am_bl_s, am_ba_s, am_bv_s, Int.toNat_zero, Int.reduceToNat, Int.toNat_natCast, if_true, if_false, not_true, not_false_eq_true, Int.reduceEq, Int.reduceLT, Int.reduceLE, i_53 h, f_53_0 h, f_53_1 h, f_53_2 h, f_53_4 h, f_53_5 h, f_53_7 h, f_53_8 h, f_53_9 h, f_53_10 h, f_53_11 h, n_55 h (i := (t : Int)) (by omega) (by omega)]
          rw [if_neg (show ¬ 10 ≤ am_get ω 54 t by omega), if_neg (show ¬ am_get ω 54 t = -1 by omega)]
          by_cases g : n ≤ am_get ω 55 t
          · rw [if_pos g, if_neg (by omega)]
          · rw [if_neg g, if_pos (by omega)]
        · rw [bi_v (m_noRow_o h (by omega) (by omega)), if_neg (by omega), if_pos q]
      · rw [if_neg hf, rrF_f (fun z => hf z.2.2)]
    · rw [b01_neg hn, if_pos rfl, rrF_f (fun z => hn z.2.1)]
  · rw [b01_neg hs, if_pos rfl, rrF_f (fun z => hs z.1)]
/-- the class flies a ship in thought -/
theorem c_fwc0 (h : Inv ω) {s N K i : Nat} (hs : s < 8) (hN : N ≤ 40) (hz : (N : Int) ≤ am_get ω (37 + 2 * s) 1) (hK : ck ω 1 = (K : Int)) (hi : i < K) : ∃ u', am_run (133, 0) 0 ([some (.inr (.inr 0)), some (.inr (.inr (((37 + 2 * s : Nat) : Int)))), some (.inl ((N : Int))), some (.inl ((i : Int))), none], [], ω) = some (some (.inl (ff (fun m => ¬ codeF (cn ω 1) (cC ω 1) (flS (cn ω 1) (cC ω 1) (cT ω 1) K i (am_get ω (38 + 2 * s)) (cV ω 1) m i) (am_get ω (38 + 2 * s) m)) 0 N)), setV ω 35 u') ∧ (ff (fun m => ¬ codeF (cn ω 1) (cC ω 1) (flS (cn ω 1) (cC ω 1) (cT ω 1) K i (am_get ω (38 + 2 * s)) (cV ω 1) m i) (am_get ω (38 + 2 * s) m)) 0 N = -1 → E5 (flS (cn ω 1) (cC ω 1) (cT ω 1) K i (am_get ω (38 + 2 * s)) (cV ω 1) N i) u') := by
  have h0 := h.1
  obtain ⟨e1, e2, e3, e4⟩ := inv_k h
  have i6 : i < 6 := by omega
  have eV : am_get ω 4 i = 1 + 4 + (i : Int) := w_V h0 W1 i6
  have iS : am_ina ω 4 (i : Int) = true := ina_S h0 W1 (by omega) (by omega)
  have O := inv_O h (i := i) (by omega)
  have vb := c_vbecome (v := 35) (u := 1 + 4 + (i : Int)) (i_35 h0) (is_V h0 W1 i6) (by omega)
  rw [V_at] at vb
  have q := pX6_firstWrongCode_0 0 ((37 + 2 * s : Nat) : Int) N i ω (i_0 h0) (by simp only [Int.toNat_zero]; rw [f_0_0 h0]; exact i_1 h0) (by simp only [Int.toNat_zero]; rw [f_0_6 h0]; exact i_35 h0)
  simp only [am_bi_s, am_bl_s, am_ba_s, am_bv_s, Int.toNat_zero, Int.reduceToNat, Int.toNat_natCast, if_true, if_false, not_true, not_false_eq_true, Int.reduceEq, Int.reduceLT, Int.reduceLE, i_0 h0, i_1 h0, f_0_0 h0, f_0_3 h0, f_0_4 h0, f_1_1 h0, f_1_2 h0, f_1_4 h0, f_0_6 h0, eV, iS] at q
  rw [bv_v vb] at q
  have cv : cV ω 1 i = am_get ω (5 + i) := by funext f; unfold cV; rw [V_at]
  obtain ⟨u', r, E⟩ := c_fwc h0 e4 (inv_Cok h) (inv_Tok h) hs hN hz hi (cV ω 1) N 0 (by omega) (cp5 (am_get ω (5 + i)) (am_get ω (Int.toNat 35))) (by show E5 (cV ω 1 i) _; rw [cv]; exact fun f hf => (cp5_E _ _ f hf).symm) (by show O_ship _ _ (cV ω 1 i); rw [cv]; exact O)
  exact ⟨u', q.trans r, E⟩
/-- the model flies, all the others drift, and all is as it was -/
theorem m_flight (h : Inv ω) {ω1 : am_W} (hB : Bs ω1) (hk : ∀ a k, 53 ≤ a → a ≠ 65 → am_get ω1 a k = am_get ω a k) {s N K i : Nat} {oj : Int} (hs : s < 8) (hN : N ≤ 40) (hK : ck ω 1 = (K : Int)) (hi : i < K) (hoj : oj < 0 ∨ ∃ j : Nat, oj = (j : Int) ∧ j < K ∧ j ≠ i) : ∃ ω3 ω4, am_run (196, 0) 0 ([some (.inr (.inr 53)), some (.inl ((s : Int))), some (.inl ((N : Int))), some (.inl ((i : Int))), some (.inl oj), none, none, none, none], [], (setV ω1 67 (kpU ω1 67))) = some (some (.inl (ff (fun m => ¬ codeF (cn ω 1) (cC ω 1) (flS (cn ω 1) (cC ω 1) (cT ω 1) K i (am_get ω (38 + 2 * s)) (cV ω 1) m i) (am_get ω (38 + 2 * s) m)) 0 N)), ω3) ∧ Bs ω3 ∧ am_run (230, 0) 0 ([some (.inr (.inr 53)), some (.inr (.inr 67)), none], [], ω3) = some (none, ω4) ∧ Dc ω1 ω4 ∧ (∀ a k, ¬ a = 67 → ¬ (a = 53 ∧ k = 29) → am_get ω4 a k = am_get ω1 a k) ∧ am_get ω4 53 29 = am_get ω3 53 29 ∧ (ff (fun m => ¬ codeF (cn ω 1) (cC ω 1) (flS (cn ω 1) (cC ω 1) (cT ω 1) K i (am_get ω (38 + 2 * s)) (cV ω 1) m i) (am_get ω (38 + 2 * s) m)) 0 N = -1 → E5 (flS (cn ω 1) (cC ω 1) (cT ω 1) K i (am_get ω (38 + 2 * s)) (cV ω 1) N i) (mV ω3 i) ∧ ∀ j : Nat, oj = (j : Int) → am_get ω3 53 29 = ff (fun m => fW (flS (cn ω 1) (cC ω 1) (cT ω 1) K i (am_get ω (38 + 2 * s)) (cV ω 1) m i) (flS (cn ω 1) (cC ω 1) (cT ω 1) K i (am_get ω (38 + 2 * s)) (cV ω 1) m j)) 0 (N + 1)) := by
  obtain ⟨e1, e2, e3, e4⟩ := inv_k h
  have D2 : Dc ω1 (setV ω1 67 (kpU ω1 67)) := setA_dc (bs_sh hB (a := 67) rfl) (by omega)
  have B2 := hB.dc D2
  have o2 : ∀ a k, 53 ≤ a → a ≠ 65 → a ≠ 67 → am_get (setV ω1 67 (kpU ω1 67)) a k = am_get ω a k := fun a k g1 g2 g3 => (congrFun (setV_o g3) k).trans (hk a k g1 g2)
  have O : OV (cn ω 1) (cT ω 1) K (cV ω 1) := fun k hk => by
    have := inv_O h (i := k) (by omega)
    rw [← V_at] at this
    exact this
  have EV0 : EV 6 (cV ω 1) (mV (setV ω1 67 (kpU ω1 67))) := fun k hk f hf => (inv_V h hk hf).symm.trans (o2 _ _ (by omega) (by omega) (by omega)).symm
  have run27 : ∀ x, (∀ j : Nat, oj = (j : Int) → x = ff (fun m => fW (flS (cn ω 1) (cC ω 1) (cT ω 1) K i (am_get ω (38 + 2 * s)) (cV ω 1) m i) (flS (cn ω 1) (cC ω 1) (cT ω 1) K i (am_get ω (38 + 2 * s)) (cV ω 1) m j)) 0 1) → ∃ ω3, am_run (196, 0) 27 ([some (.inr (.inr 53)), some (.inl ((s : Int))), some (.inl ((N : Int))), some (.inl ((i : Int))), some (.inl oj), some (.inl 0), none, none, none], [], (am_put (setV ω1 67 (kpU ω1 67)) 53 29 x)) = some (some (.inl (ff (fun m => ¬ codeF (cn ω 1) (cC ω 1) (flS (cn ω 1) (cC ω 1) (cT ω 1) K i (am_get ω (38 + 2 * s)) (cV ω 1) m i) (am_get ω (38 + 2 * s) m)) 0 N)), ω3) ∧ FrF (setV ω1 67 (kpU ω1 67)) ω3 ∧ (ff (fun m => ¬ codeF (cn ω 1) (cC ω 1) (flS (cn ω 1) (cC ω 1) (cT ω 1) K i (am_get ω (38 + 2 * s)) (cV ω 1) m i) (am_get ω (38 + 2 * s) m)) 0 N = -1 → E5 (flS (cn ω 1) (cC ω 1) (cT ω 1) K i (am_get ω (38 + 2 * s)) (cV ω 1) N i) (mV ω3 i) ∧ ∀ j : Nat, oj = (j : Int) → am_get ω3 53 29 = ff (fun m => fW (flS (cn ω 1) (cC ω 1) (cT ω 1) K i (am_get ω (38 + 2 * s)) (cV ω 1) m i) (flS (cn ω 1) (cC ω 1) (cT ω 1) K i (am_get ω (38 + 2 * s)) (cV ω 1) m j)) 0 (N + 1)) := fun x hx => by
    have F := FrF.put B2 (x := x)
    have o3 : ∀ a k, 53 ≤ a → a ≠ 65 → a ≠ 67 → ¬ (a = 53 ∧ k = 29) → am_get (am_put (setV ω1 67 (kpU ω1 67)) 53 29 x) a k = am_get ω a k := fun a k g1 g2 g3 g4 => (if_neg g4).trans (o2 a k g1 g2 g3)
    obtain ⟨ω3, r, F3, c3⟩ := m_fly (n := cn ω 1) (C := cC ω 1) (T := cT ω 1) (L := am_get ω (38 + 2 * s)) (s := s) (N := N) (K := K) (i := i) (V := cV ω 1) (oj := oj) (by omega) e4 (inv_Tok h) (inv_Cok h) hs hN hi hoj N 0 (by omega) (am_put (setV ω1 67 (kpU ω1 67)) 53 29 x) none none none (B2.dc F.1) ((o3 _ _ (by omega) (by omega) (by omega) (by omega)).trans e2) (fun j hj => (inv_E6 h j hj).trans (o3 _ _ (by omega) (by omega) (by omega) (by omega)).symm) (fun j hj => (inv_EC h j hj).trans (o3 _ _ (by omega) (by omega) (by omega) (by omega)).symm) ((o3 _ _ (by omega) (by omega) (by omega) (by omega)).trans (e1.trans hK)) (fun x hx => (o3 _ _ (by omega) (by omega) (by omega) (by omega)).trans ((h.2.2.2.2.1 s hs).2.1 x hx)) O (fun k hk f hf => (EV0 k hk f hf).trans (gp_cell (by omega)).symm) (fun j z => by rw [gp_same]; exact hx j z)
    exact ⟨ω3, r, F.tr F3, c3⟩
  have st : ∃ ω3, am_run (196, 0) 0 ([some (.inr (.inr 53)), some (.inl ((s : Int))), some (.inl ((N : Int))), some (.inl ((i : Int))), some (.inl oj), none, none, none, none], [], (setV ω1 67 (kpU ω1 67))) = some (some (.inl (ff (fun m => ¬ codeF (cn ω 1) (cC ω 1) (flS (cn ω 1) (cC ω 1) (cT ω 1) K i (am_get ω (38 + 2 * s)) (cV ω 1) m i) (am_get ω (38 + 2 * s) m)) 0 N)), ω3) ∧ FrF (setV ω1 67 (kpU ω1 67)) ω3 ∧ (ff (fun m => ¬ codeF (cn ω 1) (cC ω 1) (flS (cn ω 1) (cC ω 1) (cT ω 1) K i (am_get ω (38 + 2 * s)) (cV ω 1) m i) (am_get ω (38 + 2 * s) m)) 0 N = -1 → E5 (flS (cn ω 1) (cC ω 1) (cT ω 1) K i (am_get ω (38 + 2 * s)) (cV ω 1) N i) (mV ω3 i) ∧ ∀ j : Nat, oj = (j : Int) → am_get ω3 53 29 = ff (fun m => fW (flS (cn ω 1) (cC ω 1) (cT ω 1) K i (am_get ω (38 + 2 * s)) (cV ω 1) m i) (flS (cn ω 1) (cC ω 1) (cT ω 1) K i (am_get ω (38 + 2 * s)) (cV ω 1) m j)) 0 (N + 1)) := by
    rw [pX7_fly_0 _ _ _ _ _ _ (i_53 B2)]
    rcases hoj with z | ⟨j, z, jK, jn⟩
    · rw [if_pos z]
      exact run27 (-1) (fun j w => by omega)
    · rw [if_neg (by omega), z]
      have mm := m_meet B2 (i := i) (j := j) (by omega) (by omega)
      have fe := fW_c (EV0 i (by omega)) (EV0 j (by omega))
      rw [bi_v mm]
      by_cases gq : fW (cV ω 1 i) (cV ω 1 j)
      · rw [b01_pos (fe.mp gq), if_neg (by omega), if_pos (i_53 B2), ← z]
        refine run27 0 (fun j' w => ?_)
        obtain rfl : j' = j := by omega
        exact (ff_y (p := fun m => fW (flS (cn ω 1) (cC ω 1) (cT ω 1) K i (am_get ω (38 + 2 * s)) (cV ω 1) m i) (flS (cn ω 1) (cC ω 1) (cT ω 1) K i (am_get ω (38 + 2 * s)) (cV ω 1) m j')) (t := 0) (d := 0) gq).symm
      · rw [b01_neg (fun w => gq (fe.mpr w)), if_pos rfl, if_pos (i_53 B2), ← z]
        refine run27 (-1) (fun j' w => ?_)
        obtain rfl : j' = j := by omega
        exact (ff_n (p := fun m => fW (flS (cn ω 1) (cC ω 1) (cT ω 1) K i (am_get ω (38 + 2 * s)) (cV ω 1) m i) (flS (cn ω 1) (cC ω 1) (cT ω 1) K i (am_get ω (38 + 2 * s)) (cV ω 1) m j')) (t := 0) (d := 0) gq).symm
  obtain ⟨ω3, r3, F3, c3⟩ := st
  have B3 := B2.dc F3.1
  have s67 : ∀ k, am_get ω3 67 k = kpU ω1 67 k := fun k => (F3.2 67 k (by omega) (by omega)).trans (congrFun setV_get k)
  refine ⟨ω3, agF ω3 67, r3, B3, m_again_67 B3, D2.tr (F3.1.tr (agF_dc B3)), fun a k g1 g2 => ?_, ?_, c3⟩
  · by_cases q : (57 ≤ a ∧ a ≤ 63) ∧ k < 6
    · rw [agF_V q.1 q.2, s67, kpU_V (by omega) q.2, show 57 + (a - 57) = a by omega]
    · by_cases q2 : a = 53 ∧ (k = 3 ∨ k = 6 ∨ k = 12 ∨ k = 13 ∨ k = 14)
      · obtain ⟨rfl, q2⟩ := q2
        rcases q2 with rfl | rfl | rfl | rfl | rfl
        · rw [agF_3, s67]; rfl
        · rw [agF_6, s67]; rfl
        · rw [agF_12, s67]; rfl
        · rw [agF_13, s67]; rfl
        · rw [agF_14, s67]; rfl
      · have : am_get (agF ω3 67) a k = am_get ω3 a k := by
          by_cases q3 : 57 ≤ a ∧ a ≤ 63
          · exact (if_neg (fun z => q z)).trans ((if_neg (by omega)).trans ((if_neg (by omega)).trans ((if_neg (by omega)).trans ((if_neg (by omega)).trans (if_neg (by omega))))))
          · exact agF_o q3 q2
        rw [this, F3.2 a k (by omega) g2, setV_o g1]
  · exact agF_o (by omega) (by omega)
end K42
