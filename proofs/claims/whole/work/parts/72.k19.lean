/-! ===== alike ships; change, hand, hurl ===== -/
section K19
variable {ω ω' : am_W} {W : Int}
def E5 (u u' : Nat → Int) : Prop := ∀ f, f < 5 → u f = u' f
def E6 (T T' : Nat → Int) : Prop := ∀ j, j < 6 → T j = T' j
section PURE
variable {n : Int} {T T' C C' u u' : Nat → Int} {d : Int}
theorem E5.up (h : E5 u u') {f : Nat} {x x' : Int} (hx : x = x') : E5 (up u f x) (up u' f x') := fun g hg => by
  subst hx
  by_cases q : g = f
  · subst q; rw [up_s, up_s]
  · rw [up_o q, up_o q]; exact h g hg
theorem O_c (hn : n ≤ 6) (hu : E5 u u') (hT : E6 T T') (O : O_ship n T u) : O_ship n T' u' := by
  obtain ⟨o0, o1, o2, o3, o4⟩ := O
  unfold O_ship
  rw [← hu 0 (by omega), ← hu 1 (by omega), ← hu 2 (by omega), ← hu 3 (by omega), ← hu 4 (by omega), ← hT (u 1).toNat (by omega)]
  exact ⟨o0, o1, o2, o3, o4⟩
theorem dr_c (hn : n ≤ 6) (O : O_ship n T u) (hu : E5 u u') (hT : E6 T T') : E5 (drF T u) (drF T' u') := by
  have o1 := O.2.1
  have e1 := hu 1 (by omega)
  have e4 := hu 4 (by omega)
  by_cases h : 0 < u 4
  · rw [dr_b h, dr_b (by rw [← e4]; exact h)]
    exact hu.up (by rw [e4])
  · rw [dr_p h, dr_p (by rw [← e4]; exact h)]
    exact hu.up (by rw [hu 2 (by omega), ← e1, hT _ (by omega)])
theorem send_c (hn : n ≤ 6) (O : O_ship n T u) (ht : 0 ≤ nxt (u 1) d ∧ nxt (u 1) d < n) (hu : E5 u u') (hT : E6 T T') : E5 (sendF T u d) (sendF T' u' d) := by
  have o1 := O.2.1
  have e1 := hu 1 (by omega)
  unfold sendF
  rw [← e1, ← hu 2 (by omega), hT (u 1).toNat (by omega), hT (nxt (u 1) d).toNat (by omega)]
  exact ((hu.up rfl).up rfl).up rfl
theorem can_c (hn : n ≤ 6) (hu : E5 u u') (hC : ∀ j, j < 5 → C j = C' j) : canF n C u d ↔ canF n C' u' d := by
  unfold canF
  rw [← hu 0 (by omega), ← hu 1 (by omega), ← hu 3 (by omega), ← hu 4 (by omega), prF_c hn hC]
theorem act_c (hn : n ≤ 6) (hd : d = 1 ∨ d = 2) (O : O_ship n T u) (hc : canF n C u d) (hu : E5 u u') (hT : E6 T T') (hC : ∀ j, j < 5 → C j = C' j) : E5 (actF n C T u d) (actF n C' T' u' d) := by
  have o1 := O.2.1
  have e1 := hu 1 (by omega)
  unfold actF sendF
  rw [show up u 3 (u 3 - prF n C (u 0) (low (u 1) d)) 1 = u 1 from rfl, show up u' 3 (u' 3 - prF n C' (u' 0) (low (u' 1) d)) 1 = u' 1 from rfl, show up u 3 (u 3 - prF n C (u 0) (low (u 1) d)) 2 = u 2 from rfl, show up u' 3 (u' 3 - prF n C' (u' 0) (low (u' 1) d)) 2 = u' 2 from rfl, ← hu 0 (by omega), ← hu 1 (by omega), ← hu 2 (by omega), ← hu 3 (by omega), prF_c hn hC, hT (u 1).toNat (by omega), hT (nxt (u 1) d).toNat (by have := low_nxt hd (can_low hc); omega)]
  exact (((hu.up rfl).up rfl).up rfl).up rfl
theorem code_c (hn : n ≤ 6) (hu : E5 u u') (hC : ∀ j, j < 5 → C j = C' j) : codeF n C u d ↔ codeF n C' u' d := by
  unfold codeF
  rw [can_c hn hu hC]
theorem fly_c (hn : n ≤ 6) (hTk : Tok T) (hCk : Cok C) (O : O_ship n T u) (hc : codeF n C u d) (hu : E5 u u') (hT : E6 T T') (hC : ∀ j, j < 5 → C j = C' j) : E5 (flyF n C T u d) (flyF n C' T' u' d) := by
  unfold flyF
  rcases hc with rfl | ⟨hd, hc⟩
  · rw [if_pos rfl, if_pos rfl]; exact dr_c hn O hu hT
  · rw [if_neg (by omega), if_neg (by omega)]; exact dr_c hn (act_O hn hTk hCk O hd hc) (act_c hn hd O hc hu hT hC) hT
end PURE
theorem inv_O (h : Inv ω) {i : Nat} (hi : (i : Int) < ck ω 1) : O_ship (cn ω 1) (cT ω 1) (am_get ω (5 + i)) := by
  have := h.2.2.1.2.2.2.2.1 i hi
  rw [show 1 + 4 + i = 5 + i by omega] at this
  exact this
theorem inv_Tok (h : Inv ω) : Tok (cT ω 1) := fun j hj => h.2.2.1.2.2.1 j hj
theorem inv_Cok (h : Inv ω) : Cok (cC ω 1) := fun j hj => h.2.2.1.2.2.2.1 j hj
theorem inv_E5 (h : Inv ω) {i : Nat} (hi : i < 6) : E5 (am_get ω (5 + i)) (mV ω i) := fun f hf => (h.2.1.1 i hi f hf).symm
theorem inv_E6 (h : Inv ω) : E6 (cT ω 1) (mT ω) := fun j hj => (inv_T h hj).symm
theorem inv_EC (h : Inv ω) : ∀ j, j < 5 → cC ω 1 j = mC ω j := fun j hj => (inv_C h hj).symm
theorem inv_mO (h : Inv ω) {i : Nat} (hi : (i : Int) < ck ω 1) : O_ship (mn ω) (mT ω) (mV ω i) := by
  obtain ⟨e1, e2, e3, e4⟩ := inv_k h
  rw [e2]
  exact O_c e4.2 (inv_E5 h (by omega)) (inv_E6 h) (inv_O h hi)
theorem inv_mTok (h : Inv ω) : Tok (mT ω) := fun j hj => by rw [← inv_E6 h j hj]; exact inv_Tok h j hj
theorem inv_mCok (h : Inv ω) : Cok (mC ω) := fun j hj => by rw [← inv_EC h j hj]; exact inv_Cok h j hj
theorem V_at {i : Nat} : ((1 : Int) + 4 + (i : Int)).toNat = 5 + i := by omega
theorem setVM {i b : Nat} {u w : Nat → Int} (h : b < 59) : setM (setV ω b w) i u = setV (setM ω i u) b w := by
  refine Prod.ext rfl (Prod.ext (funext fun a' => funext fun k' => ?_) rfl)
  show (if (59 ≤ a' ∧ a' ≤ 63) ∧ k' = i then u (a' - 59) else if a' = b then w k' else ω.2.1 a' k') = if a' = b then w k' else if (59 ≤ a' ∧ a' ≤ 63) ∧ k' = i then u (a' - 59) else ω.2.1 a' k'
  by_cases g : a' = b
  · rw [if_pos g, if_neg (by omega), if_pos g]
  · rw [if_neg g, if_neg g]
/-- one ship has changed alike in the present and the model's -/
theorem inv_one (h : Inv ω) {i : Nat} (hi : i < 6) {u u' : Nat → Int} (hu : E5 u u') (hO : O_ship (cn ω 1) (cT ω 1) u) : Inv (setM (setV ω (5 + i) u) i u') := by
  have h0 := h.1
  obtain ⟨e1, e2, e3, e4⟩ := inv_k h
  have iV := is_V h0 W1 hi
  have d1 : Dc ω (setV ω (5 + i) u) := by rw [← V_at]; exact setV_dc iV
  have d : Dc ω (setM (setV ω (5 + i) u) i u') := d1.tr (setM_dc (h0.dc d1))
  refine inv_ships h d (fun a j g => ?_) (fun j hj f hf => ?_) (fun j hj => ?_)
  · rw [setM_o (by omega), setV_o (by omega)]
  · by_cases q : j = i
    · subst q
      rw [show am_get (setM (setV ω (5 + j) u) j u') (59 + f) j = u' f from setM_V hf, setM_o (by omega), setV_get]
      exact (hu f hf).symm
    · rw [setM_o (by omega), setM_o (by omega), setV_o (by omega), setV_o (by omega)]
      exact h.2.1.1 j hj f hf
  · by_cases q : j = i
    · subst q
      have : am_get (setM (setV ω (5 + j) u) j u') (5 + j) = u := funext fun f => by rw [setM_o (by omega), setV_get]
      rw [this]
      exact hO
    · have : am_get (setM (setV ω (5 + i) u) i u') (5 + j) = am_get ω (5 + j) := funext fun f => by rw [setM_o (by omega), setV_o (by omega)]
      rw [this]
      exact inv_O h hj
theorem one_c {i : Nat} (hi : i < 6) {u u' : Nat → Int} : cn (setM (setV ω (5 + i) u) i u') 1 = cn ω 1 ∧ ck (setM (setV ω (5 + i) u) i u') 1 = ck ω 1 ∧ cT (setM (setV ω (5 + i) u) i u') 1 = cT ω 1 := by
  refine ⟨?_, ?_, funext fun j => ?_⟩
  · unfold cn; rw [setM_o (by omega), setV_o (by omega)]
  · unfold ck; rw [setM_o (by omega), setV_o (by omega)]
  · unfold cT; rw [setM_o (by omega), setV_o (by omega)]
/-- what the model reads is not touched by a change of the present -/
theorem setV_m {b : Nat} (hb : b < 53) {w : Nat → Int} : mn (setV ω b w) = mn ω ∧ mk (setV ω b w) = mk ω ∧ mT (setV ω b w) = mT ω ∧ mC (setV ω b w) = mC ω ∧ mV (setV ω b w) = mV ω := by
  have e : ∀ a, 53 ≤ a → am_get (setV ω b w) a = am_get ω a := fun a ha => setV_o (by omega)
  refine ⟨congrFun (e 53 (by omega)) 3, congrFun (e 53 (by omega)) 6, e 57 (by omega), e 58 (by omega), funext fun i => funext fun f => congrFun (e (59 + f) (by omega)) i⟩
theorem k_change (h : Inv ω) (s d : Int) : Pair 120 223 [some (.inr (.inr 0)), some (.inl s), some (.inl d), none, none] [some (.inr (.inr 53)), some (.inl s), some (.inl d), none] ω := by
  have h0 := h.1
  obtain ⟨e1, e2, e3, e4⟩ := inv_k h
  have b := fun k => rfz_bs (k := k) h0
  have p1 := pX6_change_0 0 s d ω (i_0 h0) (by simp only [Int.toNat_zero, f_0_0 h0]; exact i_1 h0)
  simp only [am_bi_s, am_bl_s, am_ba_s, am_bv_s, Int.toNat_zero, Int.reduceToNat, Int.toNat_natCast, if_true, if_false, not_true, not_false_eq_true, Int.reduceEq, Int.reduceLT, Int.reduceLE, i_0 h0, i_1 h0, f_0_0 h0, f_0_3 h0, f_0_4 h0, f_1_1 h0, f_1_2 h0, f_1_4 h0, c_hasShip h0 W1, c_change, c_r2 h0, c_r5 h0] at p1
  by_cases hs : 0 ≤ s ∧ s < ck ω 1
  · by_cases hd : 1 ≤ d ∧ d ≤ 2
    · have hd' : d = 1 ∨ d = 2 := by omega
      obtain ⟨i, rfl⟩ : ∃ i : Nat, s = i := ⟨s.toNat, by omega⟩
      have hi : i < 6 := by omega
      have eV : am_get ω 4 i = 1 + 4 + (i : Int) := w_V h0 W1 hi
      have iS : am_ina ω 4 (i : Int) = true := ina_S h0 W1 (by omega) (by omega)
      have iV := is_V h0 W1 hi
      have O := inv_O h hs.2
      have o1 := O.2.1
      have o3 := O.2.2.2.1
      have a1 := c_isAble h0 W1 e4 (inv_Cok h) iV (d := d) (by rw [V_at]; omega) hd'
      have a2 := c_price h0 W1 e4 (inv_Cok h) iV (c := am_get ω (5 + i) 1) (d := d) (by omega) hd'
      rw [V_at] at a1 a2
      have mO := inv_mO h hs.2
      simp only [b01_pos hs, b01_pos hd, am_bi_s, am_bl_s, am_ba_s, am_bv_s, Int.toNat_zero, Int.reduceToNat, Int.toNat_natCast, if_true, if_false, not_true, not_false_eq_true, Int.reduceEq, Int.reduceLT, Int.reduceLE, eV, iS, iV, V_at, a1, a2] at p1
      have eC := can_c (d := d) e4.2 (inv_E5 h hi) (inv_EC h)
      by_cases q : canF (cn ω 1) (cC ω 1) (am_get ω (5 + i)) d
      · obtain ⟨-, g2, g3⟩ := prF_ok e4.2 (inv_Cok h) (k := am_get ω (5 + i) 0) (can_low q)
        have g4 := q.2.2.2
        have eP : prF (mn ω) (mC ω) (mV ω i 0) (low (mV ω i 1) d) = prF (cn ω 1) (cC ω 1) (am_get ω (5 + i) 0) (low (am_get ω (5 + i) 1) d) := by
          rw [e2, ← inv_E5 h hi 0 (by omega), ← inv_E5 h hi 1 (by omega)]
          exact (prF_c e4.2 (inv_EC h)).symm
        rw [b01_pos q] at p1
        simp only [am_bi_s, am_bl_s, am_ba_s, am_bv_s, Int.toNat_zero, Int.reduceToNat, Int.toNat_natCast, if_true, if_false, not_true, not_false_eq_true, Int.reduceEq, Int.reduceLT, Int.reduceLE, i_0 h0, i_1 h0, f_0_0 h0, f_0_3 h0, f_0_4 h0, f_1_1 h0, f_1_2 h0, f_1_4 h0, iV, a2, V_at, put_setV] at p1
        rw [am_w_s (by omega) (by omega)] at p1
        have dA := fun u => setV_dc iV (u := u)
        rw [V_at] at dA
        have bA := fun u => h0.dc (dA u)
        have kA := fun u => setV_W h0 W1 iV (u := u)
        rw [V_at] at kA
        simp only [am_bi_s, am_bl_s, am_ba_s, am_bv_s, Int.toNat_zero, Int.reduceToNat, Int.toNat_natCast, if_true, if_false, not_true, not_false_eq_true, Int.reduceEq, Int.reduceLT, Int.reduceLE, i_0 (bA _), i_1 (bA _), f_0_0 (bA _), f_0_3 (bA _), f_0_4 (bA _), f_1_1 (bA _), f_1_2 (bA _), f_1_4 (bA _), setV_is, iV, i_0 h0] at p1
        have s1 := c_sendV (bA (up (am_get ω (5 + i)) 3 (am_get ω (5 + i) 3 - prF (cn ω 1) (cC ω 1) (am_get ω (5 + i) 0) (low (am_get ω (5 + i) 1) d)))) W1 (by rw [(kA _).1]; exact e4.2) (by rw [(kA _).2.2.1]; exact inv_Tok h) (v := 1 + 4 + (i : Int)) (d := d) iV (by rw [(kA _).1, (kA _).2.2.1, V_at, setV_get]; exact ⟨O.1, O.2.1, O.2.2.1, by show 0 ≤ am_get ω (5 + i) 3 - prF (cn ω 1) (cC ω 1) (am_get ω (5 + i) 0) (low (am_get ω (5 + i) 1) d) ∧ am_get ω (5 + i) 3 - prF (cn ω 1) (cC ω 1) (am_get ω (5 + i) 0) (low (am_get ω (5 + i) 1) d) ≤ 99; omega, O.2.2.2.2⟩) (by rw [(kA _).1, V_at, setV_get]; have z := low_nxt hd' (can_low q); exact z)
        rw [V_at, setV_get, setV_setV, (kA _).2.2.1] at s1
        rw [bv_v s1] at p1
        have O2 := act_O e4.2 (inv_Tok h) (inv_Cok h) O hd' q
        have bB := bA (actF (cn ω 1) (cC ω 1) (cT ω 1) (am_get ω (5 + i)) d)
        have m0 := setV_m (ω := ω) (b := 5 + i) (by omega) (w := actF (cn ω 1) (cC ω 1) (cT ω 1) (am_get ω (5 + i)) d)
        obtain ⟨m1, m2, m3, m4, m5⟩ := m0
        have q2 : canF (mn ω) (mC ω) (mV ω i) d := by rw [e2]; exact eC.mp q
        have y1 := m_isCode bB (by rw [m1, e2]; exact e4) (by rw [m4]; exact inv_mCok h) hi (by rw [m5]; exact mO.1) (by rw [m1, m5]; exact mO.2.1) (by rw [m5]; exact mO.2.2.2.2.1) hd'
        have y2 := m_priceOf bB (by rw [m1, e2]; exact e4) (by rw [m4]; exact inv_mCok h) hi (d := d) (by rw [m1, m5]; exact can_low q2)
        have y3 := m_actsM bB (by rw [m1, e2]; exact e4) (by rw [m3]; exact inv_mTok h) (by rw [m4]; exact inv_mCok h) hi hd' (by rw [m1, m3, m5]; exact mO) (by rw [m1, m4, m5]; exact q2)
        rw [m1, m4, m5] at y1 y2 y3
        rw [m3] at y3
        have p2 := pX7_change_0 53 i d _ (i_53 bB)
        simp only [m_isShip bB (by rw [m2, e1]; exact e3), m2, e1, b01_pos hs, b01_pos hd, am_bi_s, am_bl_s, am_ba_s, am_bv_s, Int.toNat_zero, Int.reduceToNat, Int.toNat_natCast, if_true, if_false, not_true, not_false_eq_true, Int.reduceEq, Int.reduceLT, Int.reduceLE, m_in1, i_53 bB, y1, b01_pos q2, y2, y3, eP] at p2
        refine ⟨_, _, _, p1, bB, rfl, p2, rfl, ?_⟩
        refine inv_one h hi ?_ O2
        rw [e2]
        exact act_c e4.2 hd' O q (inv_E5 h hi) (inv_E6 h) (inv_EC h)
      · rw [b01_neg q] at p1
        simp only [am_bi_s, am_bl_s, am_ba_s, am_bv_s, Int.toNat_zero, Int.reduceToNat, Int.toNat_natCast, if_true, if_false, not_true, not_false_eq_true, Int.reduceEq, Int.reduceLT, Int.reduceLE, i_0 h0, i_1 h0, f_0_0 h0, f_0_3 h0, f_0_4 h0, f_1_1 h0, f_1_2 h0, f_1_4 h0, c_r5 h0] at p1
        refine pair_ref h 3 (by omega) p1 ?_
        have y1 := m_isCode (b 3) (i := i) (d := d) (by rw [mn_rfz, e2]; exact e4) (by rw [mC_rfz]; exact inv_mCok h) hi (by rw [mV_rfz]; exact mO.1) (by rw [mn_rfz, mV_rfz]; exact mO.2.1) (by rw [mV_rfz]; exact mO.2.2.2.2.1) hd'
        rw [mn_rfz, mC_rfz, mV_rfz, e2, b01_neg (fun z => q (eC.mpr z))] at y1
        rw [pX7_change_0 _ _ _ _ (i_53 (b 3))]
        simp only [m_isShip (b 3) (by rw [mk_rfz, e1]; exact e3), mk_rfz, e1, b01_pos hs, b01_pos hd, am_bi_s, am_bl_s, am_ba_s, am_bv_s, Int.toNat_zero, Int.reduceToNat, Int.toNat_natCast, if_true, if_false, not_true, not_false_eq_true, Int.reduceEq, Int.reduceLT, Int.reduceLE, m_in1, i_53 (b 3), y1, m_r5 (b 3)]
    · rw [b01_neg hd] at p1
      simp only [b01_pos hs, am_bi_s, am_bl_s, am_ba_s, am_bv_s, Int.toNat_zero, Int.reduceToNat, Int.toNat_natCast, if_true, if_false, not_true, not_false_eq_true, Int.reduceEq, Int.reduceLT, Int.reduceLE, i_0 h0, i_1 h0, f_0_0 h0, f_0_3 h0, f_0_4 h0, f_1_1 h0, f_1_2 h0, f_1_4 h0, c_r2 h0] at p1
      refine pair_ref h 0 (by omega) p1 ?_
      rw [pX7_change_0 _ _ _ _ (i_53 (b 0))]
      simp only [m_isShip (b 0) (by rw [mk_rfz, e1]; exact e3), mk_rfz, e1, b01_pos hs, am_bi_s, am_bl_s, am_ba_s, am_bv_s, Int.toNat_zero, Int.reduceToNat, Int.toNat_natCast, if_true, if_false, not_true, not_false_eq_true, Int.reduceEq, Int.reduceLT, Int.reduceLE, m_in1, b01_neg hd, i_53 (b 0), m_r2 (b 0)]
  · rw [b01_neg hs] at p1
    simp only [if_true] at p1
    refine pair_ref h 0 (by omega) p1 ?_
    rw [pX7_change_0 _ _ _ _ (i_53 (b 0))]
    simp only [m_isShip (b 0) (by rw [mk_rfz, e1]; exact e3), am_bi_s, am_bl_s, am_ba_s, am_bv_s, Int.toNat_zero, Int.reduceToNat, Int.toNat_natCast, if_true, if_false, not_true, not_false_eq_true, Int.reduceEq, Int.reduceLT, Int.reduceLE, mk_rfz, e1, b01_neg hs, i_53 (b 0), m_r2 (b 0)]
end K19
