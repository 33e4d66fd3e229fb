/-! ===== says ===== -/
section K36
variable {ω : am_W} {W : Int}
def bcX (l0 : Int) : Int := (am_and (am_w ((am_w ((am_and (am_w ((am_w ((am_and (am_w (l0 - (am_and (am_ushr l0 1) 1431655765))) 858993459) + (am_and (am_ushr (am_w (l0 - (am_and (am_ushr l0 1) 1431655765))) 2) 858993459))) + (am_ushr (am_w ((am_and (am_w (l0 - (am_and (am_ushr l0 1) 1431655765))) 858993459) + (am_and (am_ushr (am_w (l0 - (am_and (am_ushr l0 1) 1431655765))) 2) 858993459))) 4))) 252645135) + (am_ushr (am_and (am_w ((am_w ((am_and (am_w (l0 - (am_and (am_ushr l0 1) 1431655765))) 858993459) + (am_and (am_ushr (am_w (l0 - (am_and (am_ushr l0 1) 1431655765))) 2) 858993459))) + (am_ushr (am_w ((am_and (am_w (l0 - (am_and (am_ushr l0 1) 1431655765))) 858993459) + (am_and (am_ushr (am_w (l0 - (am_and (am_ushr l0 1) 1431655765))) 2) 858993459))) 4))) 252645135) 8))) + (am_ushr (am_w ((am_and (am_w ((am_w ((am_and (am_w (l0 - (am_and (am_ushr l0 1) 1431655765))) 858993459) + (am_and (am_ushr (am_w (l0 - (am_and (am_ushr l0 1) 1431655765))) 2) 858993459))) + (am_ushr (am_w ((am_and (am_w (l0 - (am_and (am_ushr l0 1) 1431655765))) 858993459) + (am_and (am_ushr (am_w (l0 - (am_and (am_ushr l0 1) 1431655765))) 2) 858993459))) 4))) 252645135) + (am_ushr (am_and (am_w ((am_w ((am_and (am_w (l0 - (am_and (am_ushr l0 1) 1431655765))) 858993459) + (am_and (am_ushr (am_w (l0 - (am_and (am_ushr l0 1) 1431655765))) 2) 858993459))) + (am_ushr (am_w ((am_and (am_w (l0 - (am_and (am_ushr l0 1) 1431655765))) 858993459) + (am_and (am_ushr (am_w (l0 - (am_and (am_ushr l0 1) 1431655765))) 2) 858993459))) 4))) 252645135) 8))) 16))) 63)
theorem bcF_eq {x : Int} : bcF x = bcX x := by
  have a := j_bitCount (x := x) (ω := ([], fun _ _ => 0, (0, fun _ => 0)))
  have b := pJ6_bitCount_0f7a4_0 x ([], fun _ _ => 0, (0, fun _ => 0))
  have c := a.symm.trans b
  injection c with c
  injection c with c
  injection c with c
  injection c
def ci (b : Bool) (x : Int) : Int := cond b x 0
def mask6 (b0 b1 b2 b3 b4 b5 : Bool) : Int := ci b0 1 + ci b1 2 + ci b2 4 + ci b3 8 + ci b4 16 + ci b5 32
theorem bc_mask : ∀ b0 b1 b2 b3 b4 b5 : Bool, bcX (mask6 b0 b1 b2 b3 b4 b5) = ci b0 1 + ci b1 1 + ci b2 1 + ci b3 1 + ci b4 1 + ci b5 1 := by decide +kernel
theorem bt_mask : ∀ b0 b1 b2 b3 b4 b5 : Bool, ∀ j, j < 32 → bt (mask6 b0 b1 b2 b3 b4 b5) j = [b0, b1, b2, b3, b4, b5].getD j false := by decide +kernel
theorem rt_mask : ∀ b0 b1 b2 b3 b4 b5 : Bool, (Int32.ofInt (mask6 b0 b1 b2 b3 b4 b5)).toInt = mask6 b0 b1 b2 b3 b4 b5 := by decide +kernel
theorem is_mask {x : Int} (hx : (Int32.ofInt x).toInt = x) {p : Nat → Bool} (h6 : ∀ j, j < 6 → bt x j = p j) (h7 : ∀ j, 6 ≤ j → j < 32 → bt x j = false) : x = mask6 (p 0) (p 1) (p 2) (p 3) (p 4) (p 5) := by
  refine bt_eq hx (rt_mask _ _ _ _ _ _) (fun j hj => ?_)
  rw [bt_mask _ _ _ _ _ _ j hj]
  by_cases g : j < 6
  · rw [h6 j g]
    have : j = 0 ∨ j = 1 ∨ j = 2 ∨ j = 3 ∨ j = 4 ∨ j = 5 := by omega
    rcases this with rfl | rfl | rfl | rfl | rfl | rfl <;> rfl
  · rw [h7 j (by omega) hj]
    obtain ⟨k, rfl⟩ : ∃ k, j = k + 6 := ⟨j - 6, by omega⟩
    rfl
theorem sm_ext {p : Nat → Prop} {K m : Nat} (h : K ≤ m) (hp : ∀ i, K ≤ i → ¬ p i) : sm (fun i => b01 (p i)) m = sm (fun i => b01 (p i)) K := by
  obtain ⟨d, rfl⟩ : ∃ d, m = K + d := ⟨m - K, by omega⟩
  induction d with
  | zero => rfl
  | succ d ih => rw [show K + (d + 1) = (K + d) + 1 from rfl, sm_s, ih (by omega), b01_neg (hp _ (by omega)), Int.add_zero]
theorem b01_dec {p : Prop} [Decidable p] : ci (decide p) 1 = b01 p := by
  by_cases h : p
  · rw [b01_pos h, decide_eq_true h]; rfl
  · rw [b01_neg h, decide_eq_false h]; rfl
theorem bc_id {V : Nat → Nat → Int} {c : Int} {K i : Nat} (hK : K ≤ 6) (hi : i < 6) : bcF (am_and (idF V c K) (am_xor (am_shl 1 (i : Int)) (-1))) = sm (fun o => b01 (o < K ∧ o ≠ i ∧ V o 1 = c ∧ V o 4 ≤ 0)) 6 := by
  have bb : ∀ j, j < 32 → bt (am_and (idF V c K) (am_xor (am_shl 1 (i : Int)) (-1))) j = decide (j < K ∧ j ≠ i ∧ V j 1 = c ∧ V j 4 ≤ 0) := fun j hj => by
    rw [bt_and, bt_id hK hj, bt_not hj, bt_shl hi hj]
    by_cases g : j = i <;> by_cases g0 : j < K <;> by_cases g1 : V j 1 = c <;> by_cases g2 : V j 4 ≤ 0 <;> simp [g, g0, g1, g2] <;> simp_all
  rw [is_mask (x := am_and (idF V c K) (am_xor (am_shl 1 (i : Int)) (-1))) (by unfold am_and; rw [Int32.ofInt_toInt]) (p := fun j => decide (j < K ∧ j ≠ i ∧ V j 1 = c ∧ V j 4 ≤ 0)) (fun j hj => bb j (by omega)) (fun j h6 hj => by rw [bb j hj]; exact decide_eq_false (by omega)), bcF_eq, bc_mask]
  simp only [b01_dec]
  show _ = 0 + _ + _ + _ + _ + _ + _
  rw [Int.zero_add]
theorem c_countMet (h : Bs ω) (hw : isW W) {K i : Nat} (hK : ck ω W = (K : Int)) (h6 : K ≤ 6) (hi : i < K) : am_run (68, 0) 0 ([some (.inr (.inr W)), some (.inl ((i : Int))), none, none], [], ω) = some (some (.inl (sm (fun o => b01 (o ≠ i ∧ fW (cV ω W o) (cV ω W i))) K)), ω) := by
  have hK' : am_get ω W.toNat 3 = (K : Int) := hK
  have lp : ∀ d j : Nat, j + d = K → am_run (68, 0) 4 ([some (.inr (.inr W)), some (.inl ((i : Int))), some (.inl (sm (fun o => b01 (o ≠ i ∧ fW (cV ω W o) (cV ω W i))) j)), some (.inl ((j : Int)))], [], ω) = some (some (.inl (sm (fun o => b01 (o ≠ i ∧ fW (cV ω W o) (cV ω W i))) K)), ω) := by
    intro d
    induction d with
    | zero =>
      intro j hj
      obtain rfl : j = K := by omega
      rw [pX5_countMet_4 _ _ _ _ _ (w_is h hw), hK', if_pos (by omega)]
    | succ d ih =>
      intro j hj
      have sb := sm_b (p := fun o => o ≠ i ∧ fW (cV ω W o) (cV ω W i)) (m := j)
      have cw := c_isWith (is_V h hw (i := j) (by omega)) (is_V h hw (i := i) (by omega))
      rw [pX5_countMet_4 _ _ _ _ _ (w_is h hw), hK', if_neg (by omega), am_w_s (z := (j : Int) + 1) (by omega) (by omega), show (j : Int) + 1 = ((j + 1 : Nat) : Int) by omega]
      simp only [w_S h hw, ina_S h hw (i := (i : Int)) (by omega) (by omega), ina_S h hw (i := (j : Int)) (by omega) (by omega), if_true, Int.toNat_natCast, w_V h hw (i := i) (by omega), w_V h hw (i := j) (by omega), is_V h hw (i := j) (by omega), cw, am_bi_s]
      rw [am_w_s (z := sm (fun o => b01 (o ≠ i ∧ fW (cV ω W o) (cV ω W i))) j + 1) (by omega) (by omega), ← ih (j + 1) (by omega), sm_s]
      have v0 : am_get ω (W + 4 + (i : Int)).toNat = cV ω W i := rfl
      have u0 : am_get ω (W + 4 + (j : Int)).toNat = cV ω W j := rfl
      rw [v0, u0]
      by_cases g : (j : Int) = (i : Int)
      · rw [if_pos g, b01_neg (fun z => z.1 (by omega)), Int.add_zero]
      · rw [if_neg g]
        by_cases g2 : fW (cV ω W j) (cV ω W i)
        · rw [b01_pos g2, if_neg (by omega), b01_pos (show j ≠ i ∧ fW (cV ω W j) (cV ω W i) from ⟨by omega, g2⟩)]
        · rw [b01_neg g2, if_pos rfl, b01_neg (fun z => g2 z.2), Int.add_zero]
  exact (pX5_countMet_0 W (i : Int) ω).trans (lp K 0 (by omega))
theorem sumD_sm {V : Nat → Nat → Int} : ∀ m, m ≤ 6 → (∀ i, i < m → 0 ≤ V i 3 ∧ V i 3 ≤ 99) → sumD V m = sm (fun o => V o 3) m ∧ 0 ≤ sm (fun o => V o 3) m ∧ sm (fun o => V o 3) m ≤ 99 * (m : Int) := by
  intro m
  induction m with
  | zero => intro _ _; exact ⟨rfl, Int.le_refl 0, Int.le_refl 0⟩
  | succ m ih =>
    intro hm hv
    obtain ⟨a, b, c⟩ := ih (by omega) (fun i hi => hv i (by omega))
    have v := hv m (by omega)
    rw [sm_s]
    refine ⟨?_, by omega, by omega⟩
    show am_w (sumD V m + V m 3) = _
    rw [a, am_w_s (by omega) (by omega)]
theorem sm_wo {f : Nat → Int} {i : Nat} : ∀ m, sm (fun o => if o = i then 0 else 99 - f o) m = 99 * (m : Int) - sm f m - (if i < m then 99 - f i else 0) := by
  intro m
  induction m with
  | zero => rw [if_neg (by omega)]; rfl
  | succ m ih =>
    rw [sm_s, sm_s, ih]
    by_cases g : m = i
    · subst g
      rw [if_pos rfl, if_neg (by omega), if_pos (by omega)]; omega
    · rw [if_neg g]
      by_cases g2 : i < m
      · rw [if_pos g2, if_pos (by omega)]; omega
      · rw [if_neg g2, if_neg (by omega)]; omega
def ofF (k w : Int) : Prop := w = 0 ∨ (w = 1 ∧ (k = 1 ∨ k = 5)) ∨ (w = 2 ∧ (k = 2 ∨ k = 3)) ∨ (3 ≤ w ∧ k = w)
theorem c_isOf {v w : Int} (hv : am_is ω v (4, 5) = true) (hw : 0 ≤ w ∧ w ≤ 5) : am_run (49, 0) 0 ([some (.inr (.inr v)), some (.inl w)], [], ω) = some (some (.inl (b01 (ofF (am_get ω v.toNat 0) w))), ω) := by
  rw [pX4_isOf_0 _ _ _ hv]
  unfold ofF
  have : w = 0 ∨ w = 1 ∨ w = 2 ∨ 3 ≤ w := by omega
  rcases this with g | g | g | g
  · rw [if_pos g, b01_pos (by omega)]
  · rw [if_neg (by omega), if_pos g]
    by_cases g1 : am_get ω v.toNat 0 = 1
    · rw [if_pos g1, b01_pos (by omega)]
    · rw [if_neg g1]
      by_cases g2 : am_get ω v.toNat 0 = 5
      · rw [if_neg (fun z => z g2), b01_pos (by omega)]
      · rw [if_pos g2, b01_neg (by omega)]
  · rw [if_neg (by omega), if_neg (by omega), if_pos g]
    by_cases g1 : am_get ω v.toNat 0 = 2
    · rw [if_pos g1, b01_pos (by omega)]
    · rw [if_neg g1]
      by_cases g2 : am_get ω v.toNat 0 = 3
      · rw [if_neg (fun z => z g2), b01_pos (by omega)]
      · rw [if_pos g2, b01_neg (by omega)]
  · rw [if_neg (by omega), if_neg (by omega), if_neg (by omega)]
    by_cases g1 : am_get ω v.toNat 0 = w
    · rw [if_neg (fun z => z g1), b01_pos (by omega)]
    · rw [if_pos g1, b01_neg (by omega)]
theorem m_isUnder {k w : Int} (hw : 0 ≤ w ∧ w ≤ 5) (hk : 0 ≤ k ∧ k ≤ 5) : am_run (162, 0) 0 ([some (.inl k), some (.inl w)], [], ω) = some (some (.inl (b01 (ofF k w))), ω) := by
  rw [pX7_isUnder_0]
  unfold ofF
  by_cases g0 : w = 0
  · rw [if_pos g0, b01_pos (by omega)]
  rw [if_neg g0]
  by_cases g1 : k = w
  · rw [if_pos g1, b01_pos (by omega)]
  rw [if_neg g1]
  by_cases g2 : k = 3
  · rw [if_neg (fun z => z g2)]
    by_cases g3 : w = 2
    · rw [if_pos g3, b01_pos (by omega)]
    · rw [if_neg g3, if_pos (by omega), b01_neg (by omega)]
  · rw [if_pos g2]
    by_cases g3 : k = 5
    · rw [if_neg (fun z => z g3)]
      by_cases g4 : w = 1
      · rw [if_neg (fun z => z g4), b01_pos (by omega)]
      · rw [if_pos g4, b01_neg (by omega)]
    · rw [if_pos g3, b01_neg (by omega)]
end K36
