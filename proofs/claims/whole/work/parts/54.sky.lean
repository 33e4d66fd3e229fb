/-! ===== skies: the class's worlds and the model's, read ===== -/
def isW (W : Int) : Prop := W = 1 ∨ W = 11 ∨ W = 23
def cV (ω : am_W) (W : Int) (i f : Nat) : Int := am_get ω (W + 4 + (i : Int)).toNat f
def cT (ω : am_W) (W : Int) (j : Nat) : Int := am_get ω (W + 1).toNat j
def cC (ω : am_W) (W : Int) (j : Nat) : Int := am_get ω (W + 2).toNat j
def cn (ω : am_W) (W : Int) : Int := am_get ω W.toNat 0
def ck (ω : am_W) (W : Int) : Int := am_get ω W.toNat 3
def mV (ω : am_W) (i f : Nat) : Int := am_get ω (59 + f) i
def mT (ω : am_W) (j : Nat) : Int := am_get ω 57 j
def mC (ω : am_W) (j : Nat) : Int := am_get ω 58 j
def mn (ω : am_W) : Int := am_get ω 53 3
def mk (ω : am_W) : Int := am_get ω 53 6
section SKY
variable {ω : am_W} {W : Int}
theorem w_is (h : Bs ω) (hw : isW W) : am_is ω W (5, 8) = true := by
  rcases hw with rfl | rfl | rfl
  · exact i_1 h
  · exact i_11 h
  · exact i_23 h
theorem w_T (h : Bs ω) (hw : isW W) : am_get ω W.toNat 1 = W + 1 := by
  rcases hw with rfl | rfl | rfl
  · exact f_1_1 h
  · exact f_11_1 h
  · exact f_23_1 h
theorem w_C (h : Bs ω) (hw : isW W) : am_get ω W.toNat 2 = W + 2 := by
  rcases hw with rfl | rfl | rfl
  · exact f_1_2 h
  · exact f_11_2 h
  · exact f_23_2 h
theorem w_S (h : Bs ω) (hw : isW W) : am_get ω W.toNat 4 = W + 3 := by
  rcases hw with rfl | rfl | rfl
  · exact f_1_4 h
  · exact f_11_4 h
  · exact f_23_4 h
theorem w_V (h : Bs ω) (hw : isW W) {i : Nat} (hi : i < 6) : am_get ω (W + 3).toNat i = W + 4 + (i : Int) := by
  rcases hw with rfl | rfl | rfl
  · have : ∀ i : Nat, i < 6 → (4, i, (1 : Int) + 4 + (i : Int)) ∈ rf_0 := by decide
    exact bs_rf h (this i hi)
  · have : ∀ i : Nat, i < 6 → (14, i, (11 : Int) + 4 + (i : Int)) ∈ rf_0 := by decide
    exact bs_rf h (this i hi)
  · have : ∀ i : Nat, i < 6 → (26, i, (23 : Int) + 4 + (i : Int)) ∈ rf_0 := by decide
    exact bs_rf h (this i hi)
theorem in_T (h : Bs ω) (hw : isW W) {i : Int} (h0 : 0 ≤ i) (h1 : i < 6) : am_in ω (W + 1) 100 i = true := by
  rcases hw with rfl | rfl | rfl
  · exact n_2 h h0 h1
  · exact n_12 h h0 h1
  · exact n_24 h h0 h1
theorem in_C (h : Bs ω) (hw : isW W) {i : Int} (h0 : 0 ≤ i) (h1 : i < 5) : am_in ω (W + 2) 100 i = true := by
  rcases hw with rfl | rfl | rfl
  · exact n_3 h h0 h1
  · exact n_13 h h0 h1
  · exact n_25 h h0 h1
theorem ina_S (h : Bs ω) (hw : isW W) {i : Int} (h0 : 0 ≤ i) (h1 : i < 6) : am_ina ω (W + 3) i = true := by
  unfold am_ina
  have : am_in ω (W + 3) 102 i = true := by
    rcases hw with rfl | rfl | rfl
    · exact bs_in (a := 4) (kd := 102) (n := 6) h rfl h0 h1
    · exact bs_in (a := 14) (kd := 102) (n := 6) h rfl h0 h1
    · exact bs_in (a := 26) (kd := 102) (n := 6) h rfl h0 h1
  rw [this]
  rfl
theorem is_V (h : Bs ω) (hw : isW W) {i : Nat} (hi : i < 6) : am_is ω (W + 4 + (i : Int)) (4, 5) = true := by
  rcases hw with rfl | rfl | rfl
  · have e : (1 : Int) + 4 + (i : Int) = ((5 + i : Nat) : Int) := by omega
    have : ∀ i, i < 6 → sh_0[5 + i]? = some (4, 5) := by decide
    rw [e]
    exact bs_is h (this i hi)
  · have e : (11 : Int) + 4 + (i : Int) = ((15 + i : Nat) : Int) := by omega
    have : ∀ i, i < 6 → sh_0[15 + i]? = some (4, 5) := by decide
    rw [e]
    exact bs_is h (this i hi)
  · have e : (23 : Int) + 4 + (i : Int) = ((27 + i : Nat) : Int) := by omega
    have : ∀ i, i < 6 → sh_0[27 + i]? = some (4, 5) := by decide
    rw [e]
    exact bs_is h (this i hi)
/-! ===== the class's small questions ===== -/
noncomputable def b01 (p : Prop) : Int := @ite _ p (Classical.propDecidable p) 1 0
theorem b01_pos {p : Prop} (h : p) : b01 p = 1 := @if_pos p (Classical.propDecidable p) h _ _ _
theorem b01_neg {p : Prop} (h : ¬ p) : b01 p = 0 := @if_neg p (Classical.propDecidable p) h _ _ _
theorem b01_0 {p : Prop} : b01 p = 0 ↔ ¬ p := by
  by_cases h : p
  · rw [b01_pos h]; simp [h]
  · rw [b01_neg h]; simp [h]
theorem b01_nar {p : Prop} : am_nar 4 (b01 p) = true := by
  by_cases h : p
  · rw [b01_pos h]; rfl
  · rw [b01_neg h]; rfl
theorem b01_c {p q : Prop} (h : p ↔ q) : b01 p = b01 q := by rw [propext h]
theorem b01_if {p : Prop} [Decidable p] : (if p then (1 : Int) else 0) = b01 p := by
  by_cases h : p
  · rw [if_pos h, b01_pos h]
  · rw [if_neg h, b01_neg h]
theorem c_hasCircle (h : Bs ω) (hw : isW W) {c : Int} : am_run (54, 0) 0 ([some (.inr (.inr W)), some (.inl c)], [], ω) = some (some (.inl (b01 (0 ≤ c ∧ c < cn ω W))), ω) := by
  rw [pX5_hasCircle_0 _ _ _ (w_is h hw)]
  unfold cn
  by_cases h1 : c < 0
  · rw [if_pos h1, b01_neg (by omega)]
  · rw [if_neg h1]
    by_cases h2 : am_get ω W.toNat 0 ≤ c
    · rw [if_pos h2, b01_neg (by omega)]
    · rw [if_neg h2, b01_pos (by omega)]
theorem c_hasShip (h : Bs ω) (hw : isW W) {c : Int} : am_run (58, 0) 0 ([some (.inr (.inr W)), some (.inl c)], [], ω) = some (some (.inl (b01 (0 ≤ c ∧ c < ck ω W))), ω) := by
  rw [pX5_hasShip_0 _ _ _ (w_is h hw)]
  unfold ck
  by_cases h1 : c < 0
  · rw [if_pos h1, b01_neg (by omega)]
  · rw [if_neg h1]
    by_cases h2 : am_get ω W.toNat 3 ≤ c
    · rw [if_pos h2, b01_neg (by omega)]
    · rw [if_neg h2, b01_pos (by omega)]
theorem c_hasAbove (h : Bs ω) (hw : isW W) (hn : 2 ≤ cn ω W ∧ cn ω W ≤ 6) {c : Int} : am_run (55, 0) 0 ([some (.inr (.inr W)), some (.inl c)], [], ω) = some (some (.inl (b01 (0 ≤ c ∧ c < cn ω W - 1))), ω) := by
  rw [pX5_hasCircleAbove_0 _ _ _ (w_is h hw)]
  unfold cn at hn ⊢
  rw [am_w_s (by omega) (by omega)]
  by_cases h1 : c < 0
  · rw [if_pos h1, b01_neg (by omega)]
  · rw [if_neg h1]
    by_cases h2 : am_get ω W.toNat 0 - 1 ≤ c
    · rw [if_pos h2, b01_neg (by omega)]
    · rw [if_neg h2, b01_pos (by omega)]
theorem c_hasPair (h : Bs ω) (hw : isW W) {a b : Int} : am_run (59, 0) 0 ([some (.inr (.inr W)), some (.inl a), some (.inl b)], [], ω) = some (some (.inl (b01 ((0 ≤ a ∧ a < ck ω W) ∧ (0 ≤ b ∧ b < ck ω W) ∧ a ≠ b))), ω) := by
  rw [pX5_hasPair_0 _ _ _ _ (w_is h hw), bi_v (c_hasShip h hw)]
  by_cases h1 : 0 ≤ a ∧ a < ck ω W
  · rw [if_neg (by rw [b01_0]; exact fun q => q h1), if_pos (w_is h hw), bi_v (c_hasShip h hw)]
    by_cases h2 : 0 ≤ b ∧ b < ck ω W
    · rw [if_neg (by rw [b01_0]; exact fun q => q h2)]
      by_cases h3 : a = b
      · rw [if_pos h3, b01_neg (fun q => q.2.2 h3)]
      · rw [if_neg h3, b01_pos ⟨h1, h2, h3⟩]
    · rw [if_pos (b01_0.mpr h2)]
      rw [b01_neg (fun q => h2 q.2.1)]
  · rw [if_pos (b01_0.mpr h1)]
    rw [b01_neg (fun q => h1 q.1)]
theorem c_isFull (h : Bs ω) (hw : isW W) : am_run (60, 0) 0 ([some (.inr (.inr W))], [], ω) = some (some (.inl (b01 (6 ≤ ck ω W))), ω) := by
  rw [pX5_isFull_0 _ _ (w_is h hw)]
  unfold ck
  by_cases h1 : am_get ω W.toNat 3 < 6
  · rw [if_pos h1, b01_neg (by omega)]
  · rw [if_neg h1, b01_pos (by omega)]
theorem c_timeOf (h : Bs ω) (hw : isW W) {c : Int} (h0 : 0 ≤ c) (h1 : c < cn ω W) (h6 : cn ω W ≤ 6) : am_run (61, 0) 0 ([some (.inr (.inr W)), some (.inl c)], [], ω) = some (some (.inl (cT ω W c.toNat)), ω) := by
  rw [pX5_timeOf_0 _ _ _ (w_is h hw)]
  unfold cT
  unfold cn at h1 h6
  rw [if_neg (by omega), if_neg (by omega), w_T h hw, if_pos (in_T h hw h0 (by omega))]
/-! ===== the model's small questions ===== -/
theorem m_in1 {v lo hi : Int} : am_run (149, 0) 0 ([some (.inl v), some (.inl lo), some (.inl hi)], [], ω) = some (some (.inl (b01 (lo ≤ v ∧ v ≤ hi))), ω) := by rw [m_in, b01_if]
theorem c_shelf1 {v : Int} : am_run (140, 0) 0 ([some (.inl v)], [], ω) = some (some (.inl (b01 (0 ≤ v ∧ v ≤ 7))), ω) := by rw [c_shelf, b01_if]
theorem m_isShip (h : Bs ω) (hk : 0 ≤ mk ω ∧ mk ω ≤ 6) {s : Int} : am_run (151, 0) 0 ([some (.inr (.inr 53)), some (.inl s)], [], ω) = some (some (.inl (b01 (0 ≤ s ∧ s < mk ω))), ω) := by
  rw [pX7_isShip_0 _ _ _ (i_53 h), bi_v m_in1, if_pos b01_nar]
  simp only [Int.reduceToNat]
  unfold mk at hk ⊢
  rw [am_w_s (by omega) (by omega)]
  congr 4
  exact b01_c (by omega)
theorem m_isCircle (h : Bs ω) (hk : 2 ≤ mn ω ∧ mn ω ≤ 6) {s : Int} : am_run (153, 0) 0 ([some (.inr (.inr 53)), some (.inl s)], [], ω) = some (some (.inl (b01 (0 ≤ s ∧ s < mn ω))), ω) := by
  rw [pX7_isCircle_0 _ _ _ (i_53 h), bi_v m_in1, if_pos b01_nar]
  simp only [Int.reduceToNat]
  unfold mn at hk ⊢
  rw [am_w_s (by omega) (by omega)]
  congr 4
  exact b01_c (by omega)
theorem m_areTwo (h : Bs ω) (hk : 0 ≤ mk ω ∧ mk ω ≤ 6) {a b : Int} : am_run (152, 0) 0 ([some (.inr (.inr 53)), some (.inl a), some (.inl b)], [], ω) = some (some (.inl (b01 ((0 ≤ a ∧ a < mk ω) ∧ (0 ≤ b ∧ b < mk ω) ∧ a ≠ b))), ω) := by
  rw [pX7_areTwo_0 _ _ _ _ (i_53 h), bi_v (m_isShip h hk)]
  by_cases h1 : 0 ≤ a ∧ a < mk ω
  · rw [if_neg (by rw [b01_0]; exact fun q => q h1), if_pos (i_53 h), bi_v (m_isShip h hk)]
    by_cases h2 : 0 ≤ b ∧ b < mk ω
    · rw [if_neg (by rw [b01_0]; exact fun q => q h2)]
      by_cases h3 : a = b
      · rw [if_pos h3, b01_neg (fun q => q.2.2 h3)]
      · rw [if_neg h3, b01_pos ⟨h1, h2, h3⟩]
    · rw [if_pos (b01_0.mpr h2)]
      rw [b01_neg (fun q => h2 q.2.1)]
  · rw [if_pos (b01_0.mpr h1)]
    rw [b01_neg (fun q => h1 q.1)]
/-! ===== the ships of a circle ===== -/
def fOn (V : Nat → Nat → Int) (c : Int) : Nat → Int
  | 0 => 0
  | i + 1 => if V i 1 = c then am_or (fOn V c i) (am_shl 1 (i : Int)) else fOn V c i
theorem fOn_s {V : Nat → Nat → Int} {c : Int} {i : Nat} : fOn V c (i + 1) = if V i 1 = c then am_or (fOn V c i) (am_shl 1 (i : Int)) else fOn V c i := rfl
theorem fOn_c {V V' : Nat → Nat → Int} {c : Int} {n : Nat} (h : ∀ i, i < n → V i 1 = V' i 1) : fOn V c n = fOn V' c n := by
  induction n with
  | zero => rfl
  | succ n ih =>
    rw [fOn_s, fOn_s, h n (by omega), ih (fun i hi => h i (by omega))]
theorem c_shipsOn_l (h : Bs ω) (hw : isW W) (c : Int) {K : Nat} (hK : ck ω W = (K : Int)) (h6 : K ≤ 6) : ∀ d i, i + d = K → am_run (64, 0) 4 ([some (.inr (.inr W)), some (.inl c), some (.inl (fOn (cV ω W) c i)), some (.inl (i : Int))], [], ω) = some (some (.inl (fOn (cV ω W) c K)), ω) := by
  intro d
  induction d with
  | zero =>
    intro i hi
    obtain rfl : i = K := by omega
    rw [pX5_shipsOn_4 _ _ _ _ _ (w_is h hw)]
    unfold ck at hK
    rw [hK, if_pos (by omega)]
  | succ d ih =>
    intro i hi
    rw [pX5_shipsOn_4 _ _ _ _ _ (w_is h hw)]
    unfold ck at hK
    rw [hK, if_neg (by omega), w_S h hw, if_pos (ina_S h hw (by omega) (by omega)), Int.toNat_natCast, w_V h hw (by omega), if_pos (is_V h hw (by omega)), am_w_s (by omega) (by omega)]
    have := ih (i + 1) (by omega)
    rw [show ((i + 1 : Nat) : Int) = (i : Int) + 1 by omega] at this
    rw [← this]
    rw [fOn_s]
    show (if ¬ cV ω W i 1 = c then _ else _) = _
    by_cases q : cV ω W i 1 = c
    · rw [if_pos q, if_neg (fun z => z q)]
    · rw [if_neg q, if_pos q]
theorem c_shipsOn (h : Bs ω) (hw : isW W) (hk : 0 ≤ ck ω W ∧ ck ω W ≤ 6) {c : Int} : am_run (64, 0) 0 ([some (.inr (.inr W)), some (.inl c), none, none], [], ω) = some (some (.inl (fOn (cV ω W) c (ck ω W).toNat)), ω) := by
  rw [pX5_shipsOn_0]
  exact c_shipsOn_l h hw c (K := (ck ω W).toNat) (by omega) (by omega) (ck ω W).toNat 0 (by omega)
theorem m_those_l (h : Bs ω) (c : Int) {K : Nat} (hK : mk ω = (K : Int)) (h6 : K ≤ 6) : ∀ d i, i + d = K → am_run (164, 0) 4 ([some (.inr (.inr 53)), some (.inl c), some (.inl (fOn (mV ω) c i)), some (.inl (i : Int))], [], ω) = some (some (.inl (fOn (mV ω) c K)), ω) := by
  intro d
  induction d with
  | zero =>
    intro i hi
    obtain rfl : i = K := by omega
    rw [pX7_those_4 _ _ _ _ _ (i_53 h)]
    simp only [Int.reduceToNat]
    unfold mk at hK
    rw [hK, if_pos (by omega)]
  | succ d ih =>
    intro i hi
    rw [pX7_those_4 _ _ _ _ _ (i_53 h)]
    simp only [Int.reduceToNat, f_53_8 h, Int.toNat_natCast]
    unfold mk at hK
    rw [hK, if_neg (by omega), if_pos (n_60 h (by omega) (by omega)), am_w_s (by omega) (by omega)]
    have := ih (i + 1) (by omega)
    rw [show ((i + 1 : Nat) : Int) = (i : Int) + 1 by omega] at this
    rw [← this]
    rw [fOn_s]
    show (if ¬ mV ω i 1 = c then _ else _) = _
    by_cases q : mV ω i 1 = c
    · rw [if_pos q, if_neg (fun z => z q)]
    · rw [if_neg q, if_pos q]
theorem m_those (h : Bs ω) (hk : 0 ≤ mk ω ∧ mk ω ≤ 6) {c : Int} : am_run (164, 0) 0 ([some (.inr (.inr 53)), some (.inl c), none, none], [], ω) = some (some (.inl (fOn (mV ω) c (mk ω).toNat)), ω) := by
  rw [pX7_those_0]
  exact m_those_l h c (K := (mk ω).toNat) (by omega) (by omega) (mk ω).toNat 0 (by omega)
end SKY
