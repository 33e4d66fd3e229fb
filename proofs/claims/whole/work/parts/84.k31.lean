/-! ===== fullest, status ===== -/
section K31
variable {ω : am_W} {W : Int}
theorem j_bc : ∃ f : Int → Int, ∀ (x : Int) (ω : am_W), am_run (234, 0) 0 ([some (.inl x)], [], ω) = some (some (.inl (f x)), ω) := ⟨_, fun x ω => pJ6_bitCount_0f7a4_0 x ω⟩
noncomputable def bcF : Int → Int := Classical.choose j_bc
theorem j_bitCount {x : Int} : am_run (234, 0) 0 ([some (.inl x)], [], ω) = some (some (.inl (bcF x)), ω) := Classical.choose_spec j_bc x ω
noncomputable def fuF (f : Int → Int) : Nat → Int → Int → Int
  | 0, a, _ => a
  | d + 1, a, c => if f c ≤ f a then fuF f d a (c + 1) else fuF f d c (c + 1)
theorem fuF_y {f : Int → Int} {d : Nat} {a c : Int} (h : f c ≤ f a) : fuF f (d + 1) a c = fuF f d a (c + 1) := if_pos h
theorem fuF_n {f : Int → Int} {d : Nat} {a c : Int} (h : ¬ f c ≤ f a) : fuF f (d + 1) a c = fuF f d c (c + 1) := if_neg h
theorem k_fullest (h : Inv ω) : Pair 115 216 [some (.inr (.inr 0)), none, none] [some (.inr (.inr 53)), none, none] ω := by
  have h0 := h.1
  obtain ⟨e1, e2, e3, e4⟩ := inv_k h
  obtain ⟨N, hN⟩ : ∃ N : Nat, cn ω 1 = N := ⟨(cn ω 1).toNat, by omega⟩
  have hN1 : am_get ω 1 0 = (N : Int) := hN
  have hN2 : am_get ω 53 3 = (N : Int) := e2.trans hN
  have cl : ∀ d c : Nat, c + d = N → ∀ a : Int, am_run (115, 0) 4 ([some (.inr (.inr 0)), some (.inl a), some (.inl ((c : Int)))], [], ω) = some (some (.inl (fuF (fun c => bcF (fOn (cV ω 1) c (ck ω 1).toNat)) d a (c : Int))), ω) := by
    intro d
    induction d with
    | zero =>
      intro c hc a
      rw [pX6_fullest_4 _ _ _ _ (i_0 h0) (by simp only [Int.toNat_zero, f_0_0 h0]; exact i_1 h0)]
      simp only [am_bi_s, am_bl_s, am_ba_s, am_bv_s, Int.toNat_zero, Int.reduceToNat, Int.toNat_natCast, if_true, if_false, not_true, not_false_eq_true, Int.reduceEq, Int.reduceLT, Int.reduceLE, i_0 h0, i_1 h0, f_0_0 h0, f_0_3 h0, f_0_4 h0, f_1_1 h0, f_1_2 h0, f_1_4 h0, hN1]
      rw [if_pos (by omega)]
      rfl
    | succ d ih =>
      intro c hc a
      rw [pX6_fullest_4 _ _ _ _ (i_0 h0) (by simp only [Int.toNat_zero, f_0_0 h0]; exact i_1 h0)]
      simp only [am_bi_s, am_bl_s, am_ba_s, am_bv_s, Int.toNat_zero, Int.reduceToNat, Int.toNat_natCast, if_true, if_false, not_true, not_false_eq_true, Int.reduceEq, Int.reduceLT, Int.reduceLE, i_0 h0, i_1 h0, f_0_0 h0, f_0_3 h0, f_0_4 h0, f_1_1 h0, f_1_2 h0, f_1_4 h0, hN1, c_shipsOn h0 W1 e3, j_bitCount, am_w_s (z := (c : Int) + 1) (by omega) (by omega), if_neg (show ¬ (N : Int) ≤ (c : Int) by omega)]
      rw [show (c : Int) + 1 = ((c + 1 : Nat) : Int) by omega, ih (c + 1) (by omega), ih (c + 1) (by omega)]
      by_cases g : bcF (fOn (cV ω 1) (c : Int) (ck ω 1).toNat) ≤ bcF (fOn (cV ω 1) a (ck ω 1).toNat)
      · rw [if_pos g, fuF_y (f := fun c => bcF (fOn (cV ω 1) c (ck ω 1).toNat)) g]; rfl
      · rw [if_neg g, fuF_n (f := fun c => bcF (fOn (cV ω 1) c (ck ω 1).toNat)) g]; rfl
  have ml : ∀ d c : Nat, c + d = N → ∀ a : Int, am_run (216, 0) 4 ([some (.inr (.inr 53)), some (.inl a), some (.inl ((c : Int)))], [], ω) = some (some (.inl (fuF (fun c => bcF (fOn (cV ω 1) c (ck ω 1).toNat)) d a (c : Int))), ω) := by
    intro d
    induction d with
    | zero =>
      intro c hc a
      rw [pX7_fullest_4 _ _ _ _ (i_53 h0)]
      simp only [am_bi_s, am_bl_s, am_ba_s, am_bv_s, Int.toNat_zero, Int.reduceToNat, Int.toNat_natCast, if_true, if_false, not_true, not_false_eq_true, Int.reduceEq, Int.reduceLT, Int.reduceLE, hN2]
      rw [if_pos (by omega)]
      rfl
    | succ d ih =>
      intro c hc a
      rw [pX7_fullest_4 _ _ _ _ (i_53 h0)]
      simp only [am_bi_s, am_bl_s, am_ba_s, am_bv_s, Int.toNat_zero, Int.reduceToNat, Int.toNat_natCast, if_true, if_false, not_true, not_false_eq_true, Int.reduceEq, Int.reduceLT, Int.reduceLE, hN2, m_those h0 (by omega), inv_on h, i_53 h0, j_bitCount, am_w_s (z := (c : Int) + 1) (by omega) (by omega), if_neg (show ¬ (N : Int) ≤ (c : Int) by omega)]
      rw [show (c : Int) + 1 = ((c + 1 : Nat) : Int) by omega, ih (c + 1) (by omega), ih (c + 1) (by omega)]
      by_cases g : bcF (fOn (cV ω 1) (c : Int) (ck ω 1).toNat) ≤ bcF (fOn (cV ω 1) a (ck ω 1).toNat)
      · rw [if_pos g, fuF_y (f := fun c => bcF (fOn (cV ω 1) c (ck ω 1).toNat)) g]; rfl
      · rw [if_neg g, fuF_n (f := fun c => bcF (fOn (cV ω 1) c (ck ω 1).toNat)) g]; rfl
  have c0 := cl (N - 1) 1 (by omega) 0
  have m0 := ml (N - 1) 1 (by omega) 0
  exact pair_same h ((pX6_fullest_0 0 ω).trans c0) ((pX7_fullest_0 53 ω).trans m0)
/-- all drops, the busy ships -/
def sumD (V : Nat → Nat → Int) : Nat → Int
  | 0 => 0
  | i + 1 => am_w (sumD V i + V i 3)
def fBz (V : Nat → Nat → Int) : Nat → Int
  | 0 => 0
  | i + 1 => if V i 4 ≤ 0 then fBz V i else am_or (fBz V i) (am_shl 1 (i : Int))
theorem sumD_c {V V' : Nat → Nat → Int} {n : Nat} (h : ∀ i, i < n → V i 3 = V' i 3) : sumD V n = sumD V' n := by
  induction n with
  | zero => rfl
  | succ n ih => show am_w (sumD V n + V n 3) = am_w (sumD V' n + V' n 3); rw [h n (by omega), ih (fun i hi => h i (by omega))]
theorem fBz_c {V V' : Nat → Nat → Int} {n : Nat} (h : ∀ i, i < n → V i 4 = V' i 4) : fBz V n = fBz V' n := by
  induction n with
  | zero => rfl
  | succ n ih =>
    show (if V n 4 ≤ 0 then fBz V n else am_or (fBz V n) (am_shl 1 (n : Int))) = if V' n 4 ≤ 0 then fBz V' n else am_or (fBz V' n) (am_shl 1 (n : Int))
    rw [h n (by omega), ih (fun i hi => h i (by omega))]
theorem c_allDrops (h : Bs ω) (hw : isW W) {K : Nat} (hK : ck ω W = (K : Int)) (h6 : K ≤ 6) : am_run (67, 0) 0 ([some (.inr (.inr W)), none, none], [], ω) = some (some (.inl (sumD (cV ω W) K)), ω) := by
  have hK' : am_get ω W.toNat 3 = (K : Int) := hK
  have lp : ∀ d i : Nat, i + d = K → am_run (67, 0) 4 ([some (.inr (.inr W)), some (.inl (sumD (cV ω W) i)), some (.inl ((i : Int)))], [], ω) = some (some (.inl (sumD (cV ω W) K)), ω) := by
    intro d
    induction d with
    | zero =>
      intro i hi
      obtain rfl : i = K := by omega
      rw [pX5_allDrops_4 _ _ _ _ (w_is h hw), hK', if_pos (by omega)]
    | succ d ih =>
      intro i hi
      rw [pX5_allDrops_4 _ _ _ _ (w_is h hw), hK', if_neg (by omega), w_S h hw, if_pos (ina_S h hw (by omega) (by omega)), Int.toNat_natCast, w_V h hw (by omega), if_pos (is_V h hw (by omega)), am_w_s (z := (i : Int) + 1) (by omega) (by omega), show (i : Int) + 1 = ((i + 1 : Nat) : Int) by omega]
      exact ih (i + 1) (by omega)
  exact (pX5_allDrops_0 W ω).trans (lp K 0 (by omega))
theorem c_busyShips (h : Bs ω) (hw : isW W) {K : Nat} (hK : ck ω W = (K : Int)) (h6 : K ≤ 6) : am_run (65, 0) 0 ([some (.inr (.inr W)), none, none], [], ω) = some (some (.inl (fBz (cV ω W) K)), ω) := by
  have hK' : am_get ω W.toNat 3 = (K : Int) := hK
  have lp : ∀ d i : Nat, i + d = K → am_run (65, 0) 4 ([some (.inr (.inr W)), some (.inl (fBz (cV ω W) i)), some (.inl ((i : Int)))], [], ω) = some (some (.inl (fBz (cV ω W) K)), ω) := by
    intro d
    induction d with
    | zero =>
      intro i hi
      obtain rfl : i = K := by omega
      rw [pX5_busyShips_4 _ _ _ _ (w_is h hw), hK', if_pos (by omega)]
    | succ d ih =>
      intro i hi
      rw [pX5_busyShips_4 _ _ _ _ (w_is h hw), hK', if_neg (by omega), w_S h hw, if_pos (ina_S h hw (by omega) (by omega)), Int.toNat_natCast, w_V h hw (by omega), if_pos (is_V h hw (by omega)), am_w_s (z := (i : Int) + 1) (by omega) (by omega), show (i : Int) + 1 = ((i + 1 : Nat) : Int) by omega, ← ih (i + 1) (by omega)]
      show (if cV ω W i 4 ≤ 0 then _ else _) = am_run (65, 0) 4 ([some (.inr (.inr W)), some (.inl (if cV ω W i 4 ≤ 0 then fBz (cV ω W) i else am_or (fBz (cV ω W) i) (am_shl 1 (i : Int)))), some (.inl ((i + 1 : Nat) : Int))], [], ω)
      by_cases g : cV ω W i 4 ≤ 0
      · rw [if_pos g, if_pos g]
      · rw [if_neg g, if_neg g]
  exact (pX5_busyShips_0 W ω).trans (lp K 0 (by omega))
def cntS (c : Nat → Int) : Nat → Int
  | 0 => 0
  | i + 1 => if c i = -1 then cntS c i else am_w (cntS c i + 1)
theorem cntS_c {c c' : Nat → Int} {n : Nat} (h : ∀ i, i < n → c i = c' i) : cntS c n = cntS c' n := by
  induction n with
  | zero => rfl
  | succ n ih =>
    show (if c n = -1 then cntS c n else am_w (cntS c n + 1)) = if c' n = -1 then cntS c' n else am_w (cntS c' n + 1)
    rw [h n (by omega), ih (fun i hi => h i (by omega))]
theorem c_shelvesInUse (h : Bs ω) : am_run (130, 0) 0 ([some (.inr (.inr 0)), none, none], [], ω) = some (some (.inl (cntS (fun s => am_get ω (37 + 2 * s) 0) 8)), ω) := by
  have lp : ∀ d i : Nat, i + d = 8 → am_run (130, 0) 4 ([some (.inr (.inr 0)), some (.inl (cntS (fun s => am_get ω (37 + 2 * s) 0) i)), some (.inl ((i : Int)))], [], ω) = some (some (.inl (cntS (fun s => am_get ω (37 + 2 * s) 0) 8)), ω) := by
    intro d
    induction d with
    | zero =>
      intro i hi
      obtain rfl : i = 8 := by omega
      rw [pX6_shelvesInUse_4 _ _ _ _ (i_0 h), if_pos (by omega)]
    | succ d ih =>
      intro i hi
      have eS := g_shelf h (s := i) (by omega)
      have iS := is_shelf h (s := i) (by omega)
      have aS := ina_33 h (i := (i : Int)) (by omega) (by omega)
      rw [pX6_shelvesInUse_4 _ _ _ _ (i_0 h), if_neg (by omega)]
      simp only [am_bi_s, am_bl_s, am_ba_s, am_bv_s, Int.toNat_zero, Int.reduceToNat, Int.toNat_natCast, if_true, if_false, not_true, not_false_eq_true, Int.reduceEq, Int.reduceLT, Int.reduceLE, i_0 h, i_1 h, f_0_0 h, f_0_3 h, f_0_4 h, f_1_1 h, f_1_2 h, f_1_4 h, eS, iS, aS, pX2_isEmpty_0 _ _ iS, am_w_s (z := (i : Int) + 1) (by omega) (by omega)]
      rw [show (i : Int) + 1 = ((i + 1 : Nat) : Int) by omega, ← ih (i + 1) (by omega)]
      show _ = am_run (130, 0) 4 ([some (.inr (.inr 0)), some (.inl (if am_get ω (37 + 2 * i) 0 = -1 then cntS (fun s => am_get ω (37 + 2 * s) 0) i else am_w (cntS (fun s => am_get ω (37 + 2 * s) 0) i + 1))), some (.inl ((i + 1 : Nat) : Int))], [], ω)
      by_cases g : am_get ω (37 + 2 * i) 0 = -1
      · rw [if_neg (fun z => z g), if_pos g]; rfl
      · rw [if_pos g, if_neg g]; rfl
  exact (pX6_shelvesInUse_0 0 ω).trans (lp 8 0 (by omega))
theorem k_status (h : Inv ω) (w : Int) (hw : am_R32 w) : Pair 127 233 [some (.inr (.inr 0)), some (.inl w)] [some (.inr (.inr 53)), some (.inl w), none, none] ω := by
  have h0 := h.1
  obtain ⟨e1, e2, e3, e4⟩ := inv_k h
  obtain ⟨K, hK⟩ : ∃ K : Nat, ck ω 1 = K := ⟨(ck ω 1).toNat, by omega⟩
  have hK2 : am_get ω 53 6 = (K : Int) := e1.trans hK
  obtain ⟨q1, q2, q3, q4, q5, q6, q7, q8⟩ := h.2.1
  have p1 := pX6_status_0 0 w ω (i_0 h0) (by simp only [Int.toNat_zero, f_0_0 h0]; exact i_1 h0) (by simp only [Int.toNat_zero, f_0_3 h0]; exact i_21 h0)
  have p2 := pX7_status_0 53 w ω (i_53 h0)
  simp only [am_bi_s, am_bl_s, am_ba_s, am_bv_s, Int.toNat_zero, Int.reduceToNat, Int.toNat_natCast, if_true, if_false, not_true, not_false_eq_true, Int.reduceEq, Int.reduceLT, Int.reduceLE, i_0 h0, i_1 h0, f_0_0 h0, f_0_3 h0, f_0_4 h0, f_1_1 h0, f_1_2 h0, f_1_4 h0, c_allDrops h0 W1 hK (by omega), c_busyShips h0 W1 hK (by omega), c_shelvesInUse h0] at p1
  have m74 : ∀ d i : Nat, i + d = K → am_run (233, 0) 74 ([some (.inr (.inr 53)), some (.inl w), some (.inl (sumD (mV ω) i)), some (.inl ((i : Int)))], [], ω) = some (some (.inl (sumD (mV ω) K)), ω) := by
    intro d
    induction d with
    | zero =>
      intro i hi
      obtain rfl : i = K := by omega
      rw [pX7_status_74 _ _ _ _ _ (i_53 h0)]
      simp only [am_bi_s, am_bl_s, am_ba_s, am_bv_s, Int.toNat_zero, Int.reduceToNat, Int.toNat_natCast, if_true, if_false, not_true, not_false_eq_true, Int.reduceEq, Int.reduceLT, Int.reduceLE, hK2]
      rw [if_pos (by omega)]
    | succ d ih =>
      intro i hi
      rw [pX7_status_74 _ _ _ _ _ (i_53 h0)]
      simp only [am_bi_s, am_bl_s, am_ba_s, am_bv_s, Int.toNat_zero, Int.reduceToNat, Int.toNat_natCast, if_true, if_false, not_true, not_false_eq_true, Int.reduceEq, Int.reduceLT, Int.reduceLE, hK2, i_53 h0, f_53_0 h0, f_53_1 h0, f_53_2 h0, f_53_4 h0, f_53_5 h0, f_53_7 h0, f_53_8 h0, f_53_9 h0, f_53_10 h0, f_53_11 h0, n_59 h0 (i := (i : Int)) (by omega) (by omega), n_60 h0 (i := (i : Int)) (by omega) (by omega), n_61 h0 (i := (i : Int)) (by omega) (by omega), n_62 h0 (i := (i : Int)) (by omega) (by omega), n_63 h0 (i := (i : Int)) (by omega) (by omega), am_w_s (z := (i : Int) + 1) (by omega) (by omega), if_neg (show ¬ (K : Int) ≤ (i : Int) by omega)]
      rw [show (i : Int) + 1 = ((i + 1 : Nat) : Int) by omega]
      exact ih (i + 1) (by omega)
  have m101 : ∀ d i : Nat, i + d = K → am_run (233, 0) 101 ([some (.inr (.inr 53)), some (.inl w), some (.inl (fBz (mV ω) i)), some (.inl ((i : Int)))], [], ω) = some (some (.inl (fBz (mV ω) K)), ω) := by
    intro d
    induction d with
    | zero =>
      intro i hi
      obtain rfl : i = K := by omega
      rw [pX7_status_101 _ _ _ _ _ (i_53 h0)]
      simp only [am_bi_s, am_bl_s, am_ba_s, am_bv_s, Int.toNat_zero, Int.reduceToNat, Int.toNat_natCast, if_true, if_false, not_true, not_false_eq_true, Int.reduceEq, Int.reduceLT, Int.reduceLE, hK2]
      rw [if_pos (by omega)]
    | succ d ih =>
      intro i hi
      rw [pX7_status_101 _ _ _ _ _ (i_53 h0)]
      simp only [am_bi_s, am_bl_s, am_ba_s, am_bv_s, Int.toNat_zero, Int.reduceToNat, Int.toNat_natCast, if_true, if_false, not_true, not_false_eq_true, Int.reduceEq, Int.reduceLT, Int.reduceLE, hK2, i_53 h0, f_53_0 h0, f_53_1 h0, f_53_2 h0, f_53_4 h0, f_53_5 h0, f_53_7 h0, f_53_8 h0, f_53_9 h0, f_53_10 h0, f_53_11 h0, n_59 h0 (i := (i : Int)) (by omega) (by omega), n_60 h0 (i := (i : Int)) (by omega) (by omega), n_61 h0 (i := (i : Int)) (by omega) (by omega), n_62 h0 (i := (i : Int)) (by omega) (by omega), n_63 h0 (i := (i : Int)) (by omega) (by omega), am_w_s (z := (i : Int) + 1) (by omega) (by omega), if_neg (show ¬ (K : Int) ≤ (i : Int) by omega)]
      rw [show (i : Int) + 1 = ((i + 1 : Nat) : Int) by omega, ← ih (i + 1) (by omega)]
      show (if mV ω i 4 ≤ 0 then _ else _) = am_run (233, 0) 101 ([some (.inr (.inr 53)), some (.inl w), some (.inl (if mV ω i 4 ≤ 0 then fBz (mV ω) i else am_or (fBz (mV ω) i) (am_shl 1 (i : Int)))), some (.inl ((i + 1 : Nat) : Int))], [], ω)
      by_cases g : mV ω i 4 ≤ 0
      · rw [if_pos g, if_pos g]
      · rw [if_neg g, if_neg g]
  have m144 : ∀ d i : Nat, i + d = 8 → am_run (233, 0) 144 ([some (.inr (.inr 53)), some (.inl w), some (.inl (cntS (fun s => am_get ω 54 s) i)), some (.inl ((i : Int)))], [], ω) = some (some (.inl (cntS (fun s => am_get ω 54 s) 8)), ω) := by
    intro d
    induction d with
    | zero =>
      intro i hi
      obtain rfl : i = 8 := by omega
      rw [pX7_status_144 _ _ _ _ _ (i_53 h0), if_pos (by omega)]
    | succ d ih =>
      intro i hi
      rw [pX7_status_144 _ _ _ _ _ (i_53 h0), if_neg (by omega)]
      simp only [am_bi_s, am_bl_s, am_ba_s, am_bv_s, Int.toNat_zero, Int.reduceToNat, Int.toNat_natCast, if_true, if_false, not_true, not_false_eq_true, Int.reduceEq, Int.reduceLT, Int.reduceLE, i_53 h0, f_53_0 h0, f_53_1 h0, f_53_2 h0, f_53_4 h0, f_53_5 h0, f_53_7 h0, f_53_8 h0, f_53_9 h0, f_53_10 h0, f_53_11 h0, n_54 h0 (i := (i : Int)) (by omega) (by omega), am_w_s (z := (i : Int) + 1) (by omega) (by omega)]
      rw [show (i : Int) + 1 = ((i + 1 : Nat) : Int) by omega, ← ih (i + 1) (by omega)]
      show _ = am_run (233, 0) 144 ([some (.inr (.inr 53)), some (.inl w), some (.inl (if am_get ω 54 i = -1 then cntS (fun s => am_get ω 54 s) i else am_w (cntS (fun s => am_get ω 54 s) i + 1))), some (.inl ((i + 1 : Nat) : Int))], [], ω)
      by_cases g : am_get ω 54 i = -1
      · rw [if_pos g, if_pos g]
      · rw [if_neg g, if_neg g]
  have a74 := m74 K 0 (by omega)
  have a101 := m101 K 0 (by omega)
  have a144 := m144 8 0 (by omega)
  rw [sumD_c (V := mV ω) (V' := cV ω 1) (n := K) (fun i hi => inv_V h (by omega) (by omega))] at a74
  rw [fBz_c (V := mV ω) (V' := cV ω 1) (n := K) (fun i hi => inv_V h (by omega) (by omega))] at a101
  rw [cntS_c (c := fun s => am_get ω 54 s) (c' := fun s => am_get ω (37 + 2 * s) 0) (n := 8) (fun s hs => (h.2.2.2.2.1 s hs).1)] at a144
  have z3 : am_get ω 53 3 = am_get ω 1 0 := q4
  have z6 : am_get ω 53 6 = am_get ω 1 3 := q5
  have z12 : am_get ω 53 12 = am_get ω 1 5 := q6
  have z13 : am_get ω 53 13 = am_get ω 1 6 := q7
  have z14 : am_get ω 53 14 = am_get ω 1 7 := q8
  have z15 : am_get ω 53 15 = am_get ω 21 1 := h.2.2.2.1.1
  simp only [am_bi_s, am_bl_s, am_ba_s, am_bv_s, Int.toNat_zero, Int.reduceToNat, Int.toNat_natCast, if_true, if_false, not_true, not_false_eq_true, Int.reduceEq, Int.reduceLT, Int.reduceLE, z3, z6, z12, z13, z14, z15] at p2
  by_cases w0 : w = 0
  · rw [if_pos w0] at p1 p2; exact pair_same h p1 p2
  rw [if_neg w0] at p1 p2
  by_cases w1 : w = 1
  · rw [if_pos w1] at p1 p2; exact pair_same h p1 p2
  rw [if_neg w1] at p1 p2
  by_cases w2 : w = 2
  · rw [if_pos w2] at p1 p2; exact pair_same h p1 p2
  rw [if_neg w2] at p1 p2
  by_cases w3 : w = 3
  · rw [if_pos w3] at p1 p2; exact pair_same h p1 p2
  rw [if_neg w3] at p1 p2
  by_cases w4 : w = 4
  · rw [if_pos w4] at p1 p2; exact pair_same h p1 (p2.trans a74)
  rw [if_neg w4] at p1 p2
  by_cases w5 : w = 5
  · rw [if_pos w5] at p1 p2; exact pair_same h p1 (p2.trans a101)
  rw [if_neg w5] at p1 p2
  by_cases w6 : w = 6
  · rw [if_pos w6] at p1 p2; exact pair_same h p1 p2
  rw [if_neg w6] at p1 p2
  by_cases w7 : w = 7
  · rw [if_pos w7] at p1 p2; exact pair_same h p1 p2
  rw [if_neg w7] at p1 p2
  by_cases w8 : w = 8
  · rw [if_pos w8] at p1 p2; exact pair_same h p1 (p2.trans a144)
  rw [if_neg w8] at p1 p2
  unfold am_R32 at hw
  simp only [pX6_refusalsOf_0 _ _ _ (i_0 h0), m_in1, am_bi_s, am_bl_s, am_ba_s, am_bv_s, Int.toNat_zero, Int.reduceToNat, Int.toNat_natCast, if_true, if_false, not_true, not_false_eq_true, Int.reduceEq, Int.reduceLT, Int.reduceLE, f_0_5 h0, f_53_21 h0, i_53 h0] at p1 p2
  by_cases g : 12 ≤ w ∧ w ≤ 16
  · obtain ⟨k, hk⟩ : ∃ k : Nat, w = 12 + (k : Int) := ⟨(w - 12).toNat, by omega⟩
    have a1 : am_w (w - 12) = (k : Int) := (am_w_s (by omega) (by omega)).trans (by omega)
    have a2 : am_w (w - 10) = ((k + 2 : Nat) : Int) := (am_w_s (by omega) (by omega)).trans (by omega)
    rw [a1, if_neg (by omega), if_neg (by omega)] at p1
    rw [b01_pos g, a2] at p2
    simp only [am_bi_s, am_bl_s, am_ba_s, am_bv_s, Int.toNat_zero, Int.reduceToNat, Int.toNat_natCast, if_true, if_false, not_true, not_false_eq_true, Int.reduceEq, Int.reduceLT, Int.reduceLE, n_34 h0 (i := (k : Int)) (by omega) (by omega)] at p1
    simp only [am_bi_s, am_bl_s, am_ba_s, am_bv_s, Int.toNat_zero, Int.reduceToNat, Int.toNat_natCast, if_true, if_false, not_true, not_false_eq_true, Int.reduceEq, Int.reduceLT, Int.reduceLE, n_65 h0 (i := ((k + 2 : Nat) : Int)) (by omega) (by omega)] at p2
    rw [show am_get ω 65 (k + 2) = am_get ω 34 k from h.2.2.2.2.2.1 k (by omega)] at p2
    exact pair_same h p1 p2
  · rw [b01_neg g] at p2
    simp only [am_bi_s, am_bl_s, am_ba_s, am_bv_s, Int.toNat_zero, Int.reduceToNat, Int.toNat_natCast, if_true, if_false, not_true, not_false_eq_true, Int.reduceEq, Int.reduceLT, Int.reduceLE] at p2
    refine pair_same h (z := .inl (-1)) ?_ p2
    rw [p1]
    have key : am_w (w - 12) < 0 ∨ 5 ≤ am_w (w - 12) := by
      unfold am_w
      rw [Int.bmod_def]
      omega
    by_cases g2 : am_w (w - 12) < 0
    · rw [if_pos g2]; rfl
    · rw [if_neg g2, if_pos (key.resolve_left g2)]; rfl
end K31
