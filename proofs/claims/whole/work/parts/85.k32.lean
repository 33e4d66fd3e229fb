/-! ===== home; bits; queue ===== -/
section K32
variable {ω : am_W} {W : Int}
def fd (f : Nat → Int) : Nat → Int → Int
  | 0, x => x
  | c + 1, x => fd f c (am_w (x + f (c + 1)))
theorem fd_s {f : Nat → Int} {c : Nat} {x : Int} : fd f (c + 1) x = fd f c (am_w (x + f (c + 1))) := rfl
theorem fd_c {f g : Nat → Int} : ∀ (c : Nat) (x : Int), (∀ i, 1 ≤ i → i ≤ c → f i = g i) → fd f c x = fd g c x := by
  intro c
  induction c with
  | zero => intro x _; rfl
  | succ c ih => intro x h; rw [fd_s, fd_s, h (c + 1) (by omega) (by omega), ih _ (fun i h1 h2 => h i h1 (by omega))]
theorem k_home (h : Inv ω) (s w : Int) : Pair 111 212 [some (.inr (.inr 0)), some (.inl s), some (.inl w), none, none, none, none] [some (.inr (.inr 53)), some (.inl s), some (.inl w), none, none, none] ω := by
  have h0 := h.1
  obtain ⟨e1, e2, e3, e4⟩ := inv_k h
  have b := fun k => rfz_bs (k := k) h0
  have p1 := pX6_home_0 0 s w ω (i_0 h0) (by simp only [Int.toNat_zero, f_0_0 h0]; exact i_1 h0)
  simp only [am_bi_s, am_bl_s, am_ba_s, am_bv_s, Int.toNat_zero, Int.reduceToNat, Int.toNat_natCast, if_true, if_false, not_true, not_false_eq_true, Int.reduceEq, Int.reduceLT, Int.reduceLE, i_0 h0, i_1 h0, f_0_0 h0, f_0_3 h0, f_0_4 h0, f_1_1 h0, f_1_2 h0, f_1_4 h0, c_hasShip h0 W1, c_r2 h0] at p1
  by_cases hs : 0 ≤ s ∧ s < ck ω 1
  · by_cases hw : 0 ≤ w ∧ w ≤ 1
    · obtain ⟨i, rfl⟩ : ∃ i : Nat, s = i := ⟨s.toNat, by omega⟩
      have hi : i < 6 := by omega
      have eV : am_get ω 4 i = 1 + 4 + (i : Int) := w_V h0 W1 hi
      have iS : am_ina ω 4 (i : Int) = true := ina_S h0 W1 (by omega) (by omega)
      have iV := is_V h0 W1 hi
      have O := inv_O h hs.2
      have mO := inv_mO h hs.2
      obtain ⟨o0, o1, o2, o3, o4⟩ := O
      obtain ⟨c, hc⟩ : ∃ c : Nat, am_get ω (5 + i) 1 = c := ⟨(am_get ω (5 + i) 1).toNat, by omega⟩
      have cs := c_steers iV
      simp only [V_at] at cs
      simp only [b01_pos hs, am_bi_s, am_bl_s, am_ba_s, am_bv_s, Int.toNat_zero, Int.reduceToNat, Int.toNat_natCast, if_true, if_false, not_true, not_false_eq_true, Int.reduceEq, Int.reduceLT, Int.reduceLE, i_0 h0, i_1 h0, f_0_0 h0, f_0_3 h0, f_0_4 h0, f_1_1 h0, f_1_2 h0, f_1_4 h0, if_neg (show ¬ w < 0 by omega), if_pos hw.2, eV, iS, iV, V_at, cs, c_r5 h0, hc] at p1
      have x0 : am_get ω 59 i = am_get ω (5 + i) 0 := (inv_E5 h hi 0 (by omega)).symm
      have x1 : am_get ω 60 i = (c : Int) := (inv_E5 h hi 1 (by omega)).symm.trans hc
      have x4 : am_get ω 63 i = am_get ω (5 + i) 4 := (inv_E5 h hi 4 (by omega)).symm
      have cl : ∀ c : Nat, (c : Int) < cn ω 1 → ∀ dr st : Int, am_run (111, 0) 73 ([some (.inr (.inr 0)), some (.inl ((i : Int))), some (.inl w), some (.inr (.inr (1 + 4 + (i : Int)))), some (.inl dr), some (.inl st), some (.inl ((c : Int)))], [], ω) = some (some (.inl (if ¬ w = 0 then fd (fun c => cT ω 1 c / 2) c st else fd (fun c => fP (am_get ω (5 + i) 0) (cC ω 1 (c - 1))) c dr)), ω) := by
        intro c
        induction c with
        | zero =>
          intro hc dr st
          rw [pX6_home_73 _ _ _ _ _ _ _ _ (i_0 h0) (by simp only [Int.toNat_zero, f_0_0 h0]; exact i_1 h0), if_pos (by omega)]
          by_cases g : w = 0
          · rw [if_neg (fun z => z g), if_neg (fun z => z g)]; rfl
          · rw [if_pos g, if_pos g]; rfl
        | succ c ih =>
          intro hc dr st
          have a1 := c_price h0 W1 e4 (inv_Cok h) iV (c := ((c + 1 : Nat) : Int)) (d := 2) (by omega) (Or.inr rfl)
          have a2 := c_crossing h0 W1 e4.2 (inv_Tok h) (c := ((c + 1 : Nat) : Int)) (by omega)
          have lo : low ((c + 1 : Nat) : Int) 2 = (c : Int) := by unfold low; rw [if_neg (by omega)]; omega
          obtain ⟨pe, -, -⟩ := prF_ok e4.2 (inv_Cok h) (k := am_get ω (5 + i) 0) (l := (c : Int)) (by omega)
          rw [V_at, lo, pe, Int.toNat_natCast] at a1
          rw [Int.toNat_natCast] at a2
          rw [pX6_home_73 _ _ _ _ _ _ _ _ (i_0 h0) (by simp only [Int.toNat_zero, f_0_0 h0]; exact i_1 h0), if_neg (by omega)]
          simp only [am_bi_s, am_bl_s, am_ba_s, am_bv_s, Int.toNat_zero, Int.reduceToNat, Int.toNat_natCast, if_true, if_false, not_true, not_false_eq_true, Int.reduceEq, Int.reduceLT, Int.reduceLE, i_0 h0, i_1 h0, f_0_0 h0, f_0_3 h0, f_0_4 h0, f_1_1 h0, f_1_2 h0, f_1_4 h0, a1, a2]
          rw [show am_w (((c + 1 : Nat) : Int) + (-1)) = (c : Int) from (am_w_s (by omega) (by omega)).trans (by omega), ih (by omega)]
          rfl
      have ml : ∀ c : Nat, (c : Int) < cn ω 1 → ∀ dr st : Int, am_run (212, 0) 72 ([some (.inr (.inr 53)), some (.inl ((i : Int))), some (.inl w), some (.inl dr), some (.inl st), some (.inl ((c : Int)))], [], ω) = some (some (.inl (if ¬ w = 0 then fd (fun c => cT ω 1 c / 2) c st else fd (fun c => fP (am_get ω (5 + i) 0) (cC ω 1 (c - 1))) c dr)), ω) := by
        intro c
        induction c with
        | zero =>
          intro hc dr st
          rw [pX7_home_72 _ _ _ _ _ _ _ (i_53 h0), if_pos (by omega)]
          by_cases g : w = 0
          · rw [if_neg (fun z => z g), if_neg (fun z => z g)]; rfl
          · rw [if_pos g, if_pos g]; rfl
        | succ c ih =>
          intro hc dr st
          have a1 := m_price h0 (inv_mCok h) hi (l := (c : Int)) (by omega) (by omega)
          rw [Int.toNat_natCast, ← inv_EC h c (by omega), ← inv_E5 h hi 0 (by omega)] at a1
          have a2 := m_halfOf (ω := ω) (t := mT ω (c + 1)) (inv_mTok h _ (by omega))
          rw [← inv_E6 h (c + 1) (by omega)] at a2
          have eT : am_get ω 57 (c + 1) = cT ω 1 (c + 1) := (inv_E6 h (c + 1) (by omega)).symm
          rw [pX7_home_72 _ _ _ _ _ _ _ (i_53 h0), if_neg (by omega), show am_w (((c + 1 : Nat) : Int) - 1) = (c : Int) from (am_w_s (by omega) (by omega)).trans (by omega)]
          simp only [am_bi_s, am_bl_s, am_ba_s, am_bv_s, Int.toNat_zero, Int.reduceToNat, Int.toNat_natCast, if_true, if_false, not_true, not_false_eq_true, Int.reduceEq, Int.reduceLT, Int.reduceLE, i_53 h0, f_53_0 h0, f_53_1 h0, f_53_2 h0, f_53_4 h0, f_53_5 h0, f_53_7 h0, f_53_8 h0, f_53_9 h0, f_53_10 h0, f_53_11 h0, a1, n_57 h0 (i := ((c + 1 : Nat) : Int)) (by omega) (by omega), eT, a2]
          rw [show am_w (((c + 1 : Nat) : Int) + (-1)) = (c : Int) from (am_w_s (by omega) (by omega)).trans (by omega), ih (by omega)]
          rfl
      have p2 := fun ω' (b' : Bs ω') => pX7_home_0 53 i w ω' (i_53 b')
      by_cases gc : (c : Int) ≤ 0
      · rw [if_pos gc, cl c (by omega)] at p1
        refine pair_same h p1 ?_
        rw [p2 ω h0]
        simp only [m_isShip h0 (by rw [e1]; exact e3), e1, b01_pos hs, m_in1, b01_pos hw, am_bi_s, am_bl_s, am_ba_s, am_bv_s, Int.toNat_zero, Int.reduceToNat, Int.toNat_natCast, if_true, if_false, not_true, not_false_eq_true, Int.reduceEq, Int.reduceLT, Int.reduceLE, i_53 h0, f_53_0 h0, f_53_1 h0, f_53_2 h0, f_53_4 h0, f_53_5 h0, f_53_7 h0, f_53_8 h0, f_53_9 h0, f_53_10 h0, f_53_11 h0, n_59 h0 (i := (i : Int)) (by omega) (by omega), n_60 h0 (i := (i : Int)) (by omega) (by omega), n_61 h0 (i := (i : Int)) (by omega) (by omega), n_62 h0 (i := (i : Int)) (by omega) (by omega), n_63 h0 (i := (i : Int)) (by omega) (by omega), x0, x1, x4, if_pos gc]
        exact ml c (by omega) _ _
      · rw [if_neg gc] at p1
        by_cases gk : am_get ω (5 + i) 0 = 0 ∨ am_get ω (5 + i) 0 = 1 ∨ am_get ω (5 + i) 0 = 5
        · rw [b01_pos gk] at p1
          simp only [am_bi_s, am_bl_s, am_ba_s, am_bv_s, Int.toNat_zero, Int.reduceToNat, Int.toNat_natCast, if_true, if_false, not_true, not_false_eq_true, Int.reduceEq, Int.reduceLT, Int.reduceLE, iV, cl c (show (c : Int) < cn ω 1 by omega)] at p1
          refine pair_same h p1 ?_
          rw [p2 ω h0]
          simp only [m_isShip h0 (by rw [e1]; exact e3), e1, b01_pos hs, m_in1, b01_pos hw, am_bi_s, am_bl_s, am_ba_s, am_bv_s, Int.toNat_zero, Int.reduceToNat, Int.toNat_natCast, if_true, if_false, not_true, not_false_eq_true, Int.reduceEq, Int.reduceLT, Int.reduceLE, i_53 h0, f_53_0 h0, f_53_1 h0, f_53_2 h0, f_53_4 h0, f_53_5 h0, f_53_7 h0, f_53_8 h0, f_53_9 h0, f_53_10 h0, f_53_11 h0, n_59 h0 (i := (i : Int)) (by omega) (by omega), n_60 h0 (i := (i : Int)) (by omega) (by omega), n_61 h0 (i := (i : Int)) (by omega) (by omega), n_62 h0 (i := (i : Int)) (by omega) (by omega), n_63 h0 (i := (i : Int)) (by omega) (by omega), x0, x1, x4, if_neg gc, b01_neg (show ¬ (2 ≤ am_get ω (5 + i) 0 ∧ am_get ω (5 + i) 0 ≤ 4) by omega)]
          exact ml c (by omega) _ _
        · rw [b01_neg gk] at p1
          simp only [am_bi_s, am_bl_s, am_ba_s, am_bv_s, Int.toNat_zero, Int.reduceToNat, Int.toNat_natCast, if_true, if_false, not_true, not_false_eq_true, Int.reduceEq, Int.reduceLT, Int.reduceLE, i_0 h0, i_1 h0, f_0_0 h0, f_0_3 h0, f_0_4 h0, f_1_1 h0, f_1_2 h0, f_1_4 h0, c_r5 h0] at p1
          refine pair_ref h 3 (by omega) p1 ?_
          have y0 : am_get (rfz ω 3) 59 i = am_get ω (5 + i) 0 := (rfz_get (by omega)).trans x0
          have y1 : am_get (rfz ω 3) 60 i = (c : Int) := (rfz_get (by omega)).trans x1
          rw [p2 _ (b 3)]
          simp only [m_isShip (b 3) (by rw [mk_rfz, e1]; exact e3), mk_rfz, e1, b01_pos hs, m_in1, b01_pos hw, am_bi_s, am_bl_s, am_ba_s, am_bv_s, Int.toNat_zero, Int.reduceToNat, Int.toNat_natCast, if_true, if_false, not_true, not_false_eq_true, Int.reduceEq, Int.reduceLT, Int.reduceLE, i_53 (b 3), f_53_0 (b 3), f_53_1 (b 3), f_53_2 (b 3), f_53_4 (b 3), f_53_5 (b 3), f_53_7 (b 3), f_53_8 (b 3), f_53_9 (b 3), f_53_10 (b 3), f_53_11 (b 3), n_59 (b 3) (i := (i : Int)) (by omega) (by omega), n_60 (b 3) (i := (i : Int)) (by omega) (by omega), n_61 (b 3) (i := (i : Int)) (by omega) (by omega), n_62 (b 3) (i := (i : Int)) (by omega) (by omega), n_63 (b 3) (i := (i : Int)) (by omega) (by omega), y0, y1, if_neg gc, b01_pos (show 2 ≤ am_get ω (5 + i) 0 ∧ am_get ω (5 + i) 0 ≤ 4 by omega), m_r5 (b 3)]
    · have p1' : am_run (111, 0) 0 ([some (.inr (.inr 0)), some (.inl s), some (.inl w), none, none, none, none], [], ω) = some (some (.inl (-2)), rfz ω 0) := by
        rw [p1, b01_pos hs, if_neg (by omega)]
        by_cases g : w < 0
        · rw [if_pos g]
        · rw [if_neg g, if_neg (by omega)]
      refine pair_ref h 0 (by omega) p1' ?_
      rw [pX7_home_0 _ _ _ _ (i_53 (b 0))]
      simp only [m_isShip (b 0) (by rw [mk_rfz, e1]; exact e3), mk_rfz, e1, b01_pos hs, m_in1, b01_neg hw, am_bi_s, am_bl_s, am_ba_s, am_bv_s, Int.toNat_zero, Int.reduceToNat, Int.toNat_natCast, if_true, if_false, not_true, not_false_eq_true, Int.reduceEq, Int.reduceLT, Int.reduceLE, i_53 (b 0), m_r2 (b 0)]
  · rw [b01_neg hs] at p1
    simp only [if_true] at p1
    refine pair_ref h 0 (by omega) p1 ?_
    rw [pX7_home_0 _ _ _ _ (i_53 (b 0))]
    simp only [m_isShip (b 0) (by rw [mk_rfz, e1]; exact e3), mk_rfz, e1, b01_neg hs, am_bi_s, am_bl_s, am_ba_s, am_bv_s, Int.toNat_zero, Int.reduceToNat, Int.toNat_natCast, if_true, if_false, not_true, not_false_eq_true, Int.reduceEq, Int.reduceLT, Int.reduceLE, i_53 (b 0), m_r2 (b 0)]
/-! ===== bits ===== -/
def bt (x : Int) (i : Nat) : Bool := (Int32.ofInt x).toBitVec.getLsbD i
theorem bt_and {a b : Int} {i : Nat} : bt (am_and a b) i = (bt a i && bt b i) := by
  unfold bt am_and
  rw [Int32.ofInt_toInt, Int32.toBitVec_and, BitVec.getLsbD_and]
theorem bt_or {a b : Int} {i : Nat} : bt (am_or a b) i = (bt a i || bt b i) := by
  unfold bt am_or
  rw [Int32.ofInt_toInt, Int32.toBitVec_or, BitVec.getLsbD_or]
theorem bt_not {a : Int} {i : Nat} (hi : i < 32) : bt (am_xor a (-1)) i = !(bt a i) := by
  unfold bt am_xor
  rw [Int32.ofInt_toInt, Int32.toBitVec_xor, BitVec.getLsbD_xor]
  have : ∀ i, i < 32 → (Int32.ofInt (-1)).toBitVec.getLsbD i = true := by decide
  rw [this i hi]
  simp
theorem bt_shl {i j : Nat} (hi : i < 6) (hj : j < 32) : bt (am_shl 1 (i : Int)) j = decide (j = i) := by
  have : ∀ i : Nat, i < 6 → ∀ j : Nat, j < 32 → bt (am_shl 1 (i : Int)) j = decide (j = i) := by decide +kernel
  exact this i hi j hj
theorem bt_0 {i : Nat} : bt 0 i = false := by
  unfold bt
  simp
theorem bt_eq {x y : Int} (hx : (Int32.ofInt x).toInt = x) (hy : (Int32.ofInt y).toInt = y) (h : ∀ i, i < 32 → bt x i = bt y i) : x = y := by
  rw [← hx, ← hy]
  congr 1
  apply Int32.toBitVec_inj.mp
  exact BitVec.eq_of_getLsbD_eq (fun i hi => h i hi)
theorem and_bit {L : Int} {i : Nat} (hi : i < 6) : am_and L (am_shl 1 (i : Int)) = 0 ↔ bt L i = false := by
  constructor
  · intro h
    have := bt_and (a := L) (b := am_shl 1 (i : Int)) (i := i)
    rw [h, bt_0, bt_shl hi (by omega)] at this
    simpa using this.symm
  · intro h
    refine bt_eq (by unfold am_and; rw [Int32.ofInt_toInt]) (by rfl) (fun j hj => ?_)
    rw [bt_and, bt_0, bt_shl hi hj]
    by_cases g : j = i
    · rw [g, h]; rfl
    · simp [g]
theorem bt_on {V : Nat → Nat → Int} {c : Int} : ∀ (K : Nat), K ≤ 6 → ∀ j, j < 32 → bt (fOn V c K) j = decide (j < K ∧ V j 1 = c) := by
  intro K
  induction K with
  | zero => intro _ j hj; show bt 0 j = _; rw [bt_0]; simp
  | succ K ih =>
    intro hK j hj
    have := ih (by omega) j hj
    rw [fOn_s]
    by_cases g : V K 1 = c
    · rw [if_pos g, bt_or, this, bt_shl (by omega) hj]
      by_cases q : j = K
      · subst q; simp [g]
      · have : (j < K + 1) = (j < K) := propext (by omega)
        simp [q, this]
    · rw [if_neg g, this]
      by_cases q : j = K
      · subst q; simp [g]
      · have : (j < K + 1) = (j < K) := propext (by omega)
        simp [this]
theorem bt_bz {V : Nat → Nat → Int} : ∀ (K : Nat), K ≤ 6 → ∀ j, j < 32 → bt (fBz V K) j = decide (j < K ∧ ¬ V j 4 ≤ 0) := by
  intro K
  induction K with
  | zero => intro _ j hj; show bt 0 j = _; rw [bt_0]; simp
  | succ K ih =>
    intro hK j hj
    have := ih (by omega) j hj
    show bt (if V K 4 ≤ 0 then fBz V K else am_or (fBz V K) (am_shl 1 (K : Int))) j = _
    by_cases g : V K 4 ≤ 0
    · rw [if_pos g, this]
      by_cases q : j = K
      · subst q; simp [g]
      · have : (j < K + 1) = (j < K) := propext (by omega)
        simp [this]
    · rw [if_neg g, bt_or, this, bt_shl (by omega) hj]
      by_cases q : j = K
      · subst q; simp [g]
      · have : (j < K + 1) = (j < K) := propext (by omega)
        simp [q, this]
def idF (V : Nat → Nat → Int) (c : Int) (K : Nat) : Int := am_and (fOn V c K) (am_xor (fBz V K) (-1))
theorem bt_id {V : Nat → Nat → Int} {c : Int} {K : Nat} (hK : K ≤ 6) {j : Nat} (hj : j < 32) : bt (idF V c K) j = decide (j < K ∧ V j 1 = c ∧ V j 4 ≤ 0) := by
  unfold idF
  rw [bt_and, bt_not hj, bt_on K hK j hj, bt_bz K hK j hj]
  by_cases g : j < K <;> by_cases g1 : V j 1 = c <;> by_cases g2 : V j 4 ≤ 0 <;> simp [g, g1, g2]
theorem c_idleOn (h : Bs ω) (hw : isW W) {K : Nat} (hK : ck ω W = (K : Int)) (h6 : K ≤ 6) {c : Int} : am_run (66, 0) 0 ([some (.inr (.inr W)), some (.inl c)], [], ω) = some (some (.inl (idF (cV ω W) c K)), ω) := by
  have a := c_shipsOn h hw (by omega) (c := c)
  rw [hK, Int.toNat_natCast] at a
  rw [pX5_idleOn_0 _ _ _ (w_is h hw), bi_v a, if_pos (w_is h hw), bi_v (c_busyShips h hw hK h6)]
  rfl
end K32
