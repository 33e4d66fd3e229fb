/-! ===== a new ship ===== -/
section K9
variable {ω : am_W} {W : Int}
def nv (k c p d : Int) (f : Nat) : Int := if f = 0 then k else if f = 1 then c else if f = 2 then p else if f = 3 then d else 0
/-- the world with one more ship -/
def addS (ω : am_W) (W : Int) (n : Nat) (k c p d : Int) : am_W := am_put (am_put (am_put (am_put (am_put (am_put ω (W + 4 + (n : Int)).toNat 0 k) (W + 4 + (n : Int)).toNat 1 c) (W + 4 + (n : Int)).toNat 2 p) (W + 4 + (n : Int)).toNat 3 d) (W + 4 + (n : Int)).toNat 4 0) W.toNat 3 ((n : Int) + 1)
def newS (ω : am_W) (n : Nat) (k c p d : Int) : am_W := am_put (am_put (am_put (am_put (am_put (am_put ω 59 n k) 60 n c) 61 n p) 62 n d) 63 n 0) 53 6 ((n : Int) + 1)
theorem addS_o {n : Nat} {k c p d : Int} {a j : Nat} (h : ¬ ((a = (W + 4 + (n : Int)).toNat ∧ j < 5) ∨ (a = W.toNat ∧ j = 3))) : am_get (addS ω W n k c p d) a j = am_get ω a j := (if_neg (by omega)).trans ((if_neg (by omega)).trans ((if_neg (by omega)).trans ((if_neg (by omega)).trans ((if_neg (by omega)).trans (if_neg (by omega))))))
theorem addS_v {n : Nat} {k c p d : Int} (hw : isW W) {j : Nat} (hj : j < 5) : am_get (addS ω W n k c p d) (W + 4 + (n : Int)).toNat j = nv k c p d j := by
  unfold isW at hw
  unfold addS
  rw [gp_cell (by omega)]
  have h5 : j = 0 ∨ j = 1 ∨ j = 2 ∨ j = 3 ∨ j = 4 := by omega
  rcases h5 with rfl | rfl | rfl | rfl | rfl
  · rw [gp_place (by omega), gp_place (by omega), gp_place (by omega), gp_place (by omega), gp_same]; rfl
  · rw [gp_place (by omega), gp_place (by omega), gp_place (by omega), gp_same]; rfl
  · rw [gp_place (by omega), gp_place (by omega), gp_same]; rfl
  · rw [gp_place (by omega), gp_same]; rfl
  · rw [gp_same]; rfl
theorem addS_k {n : Nat} {k c p d : Int} : am_get (addS ω W n k c p d) W.toNat 3 = (n : Int) + 1 := gp_same
theorem rpV {a : Nat} (h : am_is ω (a : Int) (4, 5) = true) : ∀ j, j < 5 → am_rp ω.1 a j = false := by
  intro j hj
  have h1 : ω.1[a]? = some (4, 5) := by
    unfold am_is at h
    rw [Int.toNat_natCast] at h
    simpa using (Bool.and_eq_true_iff.mp h).2
  rw [am_rp_at h1]
  have : ∀ j, j < 5 → ((decide (4 < 8) && decide (am_fk 4 j = 2)) || decide (102 ≤ 4)) = false := by decide
  exact this j hj
theorem rpW (h : Bs ω) (hw : isW W) : am_rp ω.1 W.toNat 3 = false := by
  rcases hw with rfl | rfl | rfl
  · exact am_rp_at (bs_sh h (a := 1) rfl)
  · exact am_rp_at (bs_sh h (a := 11) rfl)
  · exact am_rp_at (bs_sh h (a := 23) rfl)
theorem addS_dc (h : Bs ω) (hw : isW W) {n : Nat} (hn : n < 6) {k c p d : Int} : Dc ω (addS ω W n k c p d) := by
  have eA : (((W + 4 + (n : Int)).toNat : Nat) : Int) = W + 4 + (n : Int) := by unfold isW at hw; omega
  have r := rpV (ω := ω) (a := (W + 4 + (n : Int)).toNat) (by rw [eA]; exact is_V h hw hn)
  have d1 : Dc ω (am_put ω (W + 4 + (n : Int)).toNat 0 k) := Dc.put (r 0 (by omega))
  have d2 := d1.tr (Dc.put (a := (W + 4 + (n : Int)).toNat) (k := 1) (v := c) (r 1 (by omega)))
  have d3 := d2.tr (Dc.put (a := (W + 4 + (n : Int)).toNat) (k := 2) (v := p) (r 2 (by omega)))
  have d4 := d3.tr (Dc.put (a := (W + 4 + (n : Int)).toNat) (k := 3) (v := d) (r 3 (by omega)))
  have d5 := d4.tr (Dc.put (a := (W + 4 + (n : Int)).toNat) (k := 4) (v := 0) (r 4 (by omega)))
  exact d5.tr (Dc.put (a := W.toNat) (k := 3) (v := (n : Int) + 1) (rpW (h.dc d5) hw))
theorem c_addShip (h : Bs ω) (hw : isW W) {n : Nat} (hn : n < 6) (hk : ck ω W = (n : Int)) {k c p d : Int} : am_run (63, 0) 0 ([some (.inr (.inr W)), some (.inl k), some (.inl c), some (.inl p), some (.inl d), none], [], ω) = some (some (.inl (n : Int)), addS ω W n k c p d) := by
  have hk' : am_get ω W.toNat 3 = (n : Int) := hk
  have hw1 : W = 1 ∨ W = 11 ∨ W = 23 := hw
  have eA : (((W + 4 + (n : Int)).toNat : Nat) : Int) = W + 4 + (n : Int) := by omega
  have r := rpV (ω := ω) (a := (W + 4 + (n : Int)).toNat) (by rw [eA]; exact is_V h hw hn)
  rw [pX5_addShip_0 _ _ _ _ _ _ (w_is h hw), bi_v (c_isFull h hw), hk, b01_neg (by omega), if_pos rfl, if_pos (w_is h hw)]
  simp only [hk', w_S h hw, ina_S h hw (i := (n : Int)) (by omega) (by omega), if_true, Int.toNat_natCast, w_V h hw hn, is_V h hw hn]
  have d1 : Dc ω (am_put ω (W + 4 + (n : Int)).toNat 0 k) := Dc.put (r 0 (by omega))
  have d2 := d1.tr (Dc.put (a := (W + 4 + (n : Int)).toNat) (k := 1) (v := c) (r 1 (by omega)))
  have d3 := d2.tr (Dc.put (a := (W + 4 + (n : Int)).toNat) (k := 2) (v := p) (r 2 (by omega)))
  have d4 := d3.tr (Dc.put (a := (W + 4 + (n : Int)).toNat) (k := 3) (v := d) (r 3 (by omega)))
  have e3 : am_get (am_put (am_put (am_put (am_put (am_put ω (W + 4 + (n : Int)).toNat 0 k) (W + 4 + (n : Int)).toNat 1 c) (W + 4 + (n : Int)).toNat 2 p) (W + 4 + (n : Int)).toNat 3 d) (W + 4 + (n : Int)).toNat 4 0) W.toNat 3 = (n : Int) := (gp_cell (by omega)).trans ((gp_cell (by omega)).trans ((gp_cell (by omega)).trans ((gp_cell (by omega)).trans ((gp_cell (by omega)).trans hk'))))
  rw [pX5_addShip_32 _ _ _ _ _ _ _ (is_V (h.dc d2) hw hn), pX5_addShip_45 _ _ _ _ _ _ _ (is_V (h.dc d4) hw hn) (w_is (h.dc d4) hw), e3, am_w_s (by omega) (by omega)]
  have b6 := h.dc (addS_dc h hw hn (k := k) (c := c) (p := p) (d := d))
  refine (pX5_addShip_61 W k c p d _ (addS ω W n k c p d) (w_is b6 hw)).trans ?_
  rw [addS_k, am_w_s (by omega) (by omega), show (n : Int) + 1 - 1 = (n : Int) by omega]
theorem newS_o {n : Nat} {k c p d : Int} {a j : Nat} (h : ¬ ((59 ≤ a ∧ a ≤ 63 ∧ j = n) ∨ (a = 53 ∧ j = 6))) : am_get (newS ω n k c p d) a j = am_get ω a j := (if_neg (by omega)).trans ((if_neg (by omega)).trans ((if_neg (by omega)).trans ((if_neg (by omega)).trans ((if_neg (by omega)).trans (if_neg (by omega))))))
theorem newS_k {n : Nat} {k c p d : Int} : am_get (newS ω n k c p d) 53 6 = (n : Int) + 1 := gp_same
theorem newS_v {n : Nat} {k c p d : Int} {f : Nat} (hf : f < 5) : am_get (newS ω n k c p d) (59 + f) n = nv k c p d f := by
  unfold newS
  rw [gp_cell (by omega)]
  have h5 : f = 0 ∨ f = 1 ∨ f = 2 ∨ f = 3 ∨ f = 4 := by omega
  rcases h5 with rfl | rfl | rfl | rfl | rfl
  · rw [gp_cell (by omega), gp_cell (by omega), gp_cell (by omega), gp_cell (by omega), gp_same]; rfl
  · rw [gp_cell (by omega), gp_cell (by omega), gp_cell (by omega), gp_same]; rfl
  · rw [gp_cell (by omega), gp_cell (by omega), gp_same]; rfl
  · rw [gp_cell (by omega), gp_same]; rfl
  · rw [gp_same]; rfl
theorem newS_dc (h : Bs ω) {n : Nat} {k c p d : Int} : Dc ω (newS ω n k c p d) := by
  have d1 : Dc ω (am_put ω 59 n k) := Dc.put (am_rp_at (bs_sh h (a := 59) rfl))
  have d2 := d1.tr (Dc.put (k := n) (v := c) (am_rp_at (bs_sh (h.dc d1) (a := 60) rfl)))
  have d3 := d2.tr (Dc.put (k := n) (v := p) (am_rp_at (bs_sh (h.dc d2) (a := 61) rfl)))
  have d4 := d3.tr (Dc.put (k := n) (v := d) (am_rp_at (bs_sh (h.dc d3) (a := 62) rfl)))
  have d5 := d4.tr (Dc.put (k := n) (v := 0) (am_rp_at (bs_sh (h.dc d4) (a := 63) rfl)))
  exact d5.tr (Dc.put (k := 6) (v := (n : Int) + 1) (am_rp_at (bs_sh (h.dc d5) (a := 53) rfl)))
theorem m_newShip (h : Bs ω) {n : Nat} (hn : n < 6) (hk : mk ω = (n : Int)) {k c p d : Int} : am_run (168, 0) 0 ([some (.inr (.inr 53)), some (.inl k), some (.inl c), some (.inl p), some (.inl d)], [], ω) = some (some (.inl (n : Int)), newS ω n k c p d) := by
  have hk' : am_get ω 53 6 = (n : Int) := hk
  have d1 : Dc ω (am_put ω 59 n k) := Dc.put (am_rp_at (bs_sh h (a := 59) rfl))
  have d2 := d1.tr (Dc.put (k := n) (v := c) (am_rp_at (bs_sh (h.dc d1) (a := 60) rfl)))
  have d3 := d2.tr (Dc.put (k := n) (v := p) (am_rp_at (bs_sh (h.dc d2) (a := 61) rfl)))
  have d4 := d3.tr (Dc.put (k := n) (v := d) (am_rp_at (bs_sh (h.dc d3) (a := 62) rfl)))
  have k1 : am_get (am_put ω 59 n k) 53 6 = (n : Int) := (gp_cell (by omega)).trans hk'
  have k2 : am_get (am_put (am_put ω 59 n k) 60 n c) 53 6 = (n : Int) := (gp_cell (by omega)).trans k1
  have k3 : am_get (am_put (am_put (am_put ω 59 n k) 60 n c) 61 n p) 53 6 = (n : Int) := (gp_cell (by omega)).trans k2
  have k4 : am_get (am_put (am_put (am_put (am_put ω 59 n k) 60 n c) 61 n p) 62 n d) 53 6 = (n : Int) := (gp_cell (by omega)).trans k3
  have k5 : am_get (am_put (am_put (am_put (am_put (am_put ω 59 n k) 60 n c) 61 n p) 62 n d) 63 n 0) 53 6 = (n : Int) := (gp_cell (by omega)).trans k4
  rw [pX7_newShip_0 _ _ _ _ _ _ (i_53 h)]
  simp only [Int.reduceToNat, f_53_7 h, hk', n_59 h (i := (n : Int)) (by omega) (by omega), if_true, Int.toNat_natCast, f_53_8 (h.dc d1), k1, n_60 (h.dc d1) (i := (n : Int)) (by omega) (by omega)]
  rw [pX7_newShip_20 _ _ _ _ _ _ (i_53 (h.dc d2))]
  simp only [Int.reduceToNat, f_53_9 (h.dc d2), k2, n_61 (h.dc d2) (i := (n : Int)) (by omega) (by omega), if_true, Int.toNat_natCast, f_53_10 (h.dc d3), k3, n_62 (h.dc d3) (i := (n : Int)) (by omega) (by omega)]
  rw [pX7_newShip_41 _ _ _ _ _ _ (i_53 (h.dc d4))]
  simp only [Int.reduceToNat, f_53_11 (h.dc d4), k4, n_63 (h.dc d4) (i := (n : Int)) (by omega) (by omega), if_true, Int.toNat_natCast, k5, am_w_s (z := (n : Int) + 1) (by omega) (by omega)]
  rfl
theorem c_kind {v : Int} : am_run (141, 0) 0 ([some (.inl v)], [], ω) = some (some (.inl (b01 (0 ≤ v ∧ v ≤ 5))), ω) := by
  rw [pX6_isKind_0]
  by_cases h1 : v < 0
  · rw [if_pos h1, b01_neg (by omega)]
  · rw [if_neg h1]
    by_cases h2 : 6 ≤ v
    · rw [if_pos h2, b01_neg (by omega)]
    · rw [if_neg h2, b01_pos (by omega)]
theorem c_hasPlace (h : Bs ω) (hw : isW W) (h6 : cn ω W ≤ 6) {c p : Int} : am_run (57, 0) 0 ([some (.inr (.inr W)), some (.inl c), some (.inl p)], [], ω) = some (some (.inl (b01 ((0 ≤ c ∧ c < cn ω W) ∧ (0 ≤ p ∧ p < cT ω W c.toNat)))), ω) := by
  rw [pX5_hasPlace_0 _ _ _ _ (w_is h hw), bi_v (c_hasCircle h hw)]
  by_cases h1 : 0 ≤ c ∧ c < cn ω W
  · rw [b01_pos h1, if_neg (show ¬ (1 : Int) = 0 by omega)]
    by_cases h2 : p < 0
    · rw [if_pos h2, b01_neg (by omega)]
    · rw [if_neg h2, if_pos (w_is h hw), w_T h hw, if_pos (in_T h hw h1.1 (by omega))]
      show (if cT ω W c.toNat ≤ p then _ else _) = _
      by_cases h3 : cT ω W c.toNat ≤ p
      · rw [if_pos h3, b01_neg (by omega)]
      · rw [if_neg h3, b01_pos (by omega)]
  · rw [b01_neg h1, if_pos rfl, b01_neg (fun q => h1 q.1)]
/-- one more ship in the present and the model's -/
theorem inv_new (h : Inv ω) {n : Nat} (hn : n < 6) (hk : ck ω 1 = (n : Int)) {k c p d : Int} (hO : O_ship (cn ω 1) (cT ω 1) (nv k c p d)) : Inv (newS (addS ω 1 n k c p d) n k c p d) := by
  have h0 := h.1
  have dd := (addS_dc h0 W1 hn (k := k) (c := c) (p := p) (d := d)).tr (newS_dc (n := n) (k := k) (c := c) (p := p) (d := d) (h0.dc (addS_dc h0 W1 hn)))
  have eA : ((1 : Int) + 4 + (n : Int)).toNat = 5 + n := by omega
  have e : ∀ a j, ¬ ((a = 5 + n ∧ j < 5) ∨ (a = 1 ∧ j = 3) ∨ (59 ≤ a ∧ a ≤ 63 ∧ j = n) ∨ (a = 53 ∧ j = 6)) → am_get (newS (addS ω 1 n k c p d) n k c p d) a j = am_get ω a j := fun a j g => (newS_o (by omega)).trans (addS_o (by rw [eA]; show ¬ ((a = 5 + n ∧ j < 5) ∨ (a = 1 ∧ j = 3)); omega))
  have e1 : am_get (newS (addS ω 1 n k c p d) n k c p d) 1 3 = (n : Int) + 1 := (newS_o (by omega)).trans (addS_k (W := 1))
  have e2 : am_get (newS (addS ω 1 n k c p d) n k c p d) 53 6 = (n : Int) + 1 := newS_k
  have e3 : ∀ f, f < 5 → am_get (newS (addS ω 1 n k c p d) n k c p d) (5 + n) f = nv k c p d f := fun f hf => (newS_o (by omega)).trans (by have := addS_v (ω := ω) (n := n) (k := k) (c := c) (p := p) (d := d) W1 hf; rw [eA] at this; exact this)
  have e4 : ∀ f, f < 5 → am_get (newS (addS ω 1 n k c p d) n k c p d) (59 + f) n = nv k c p d f := fun f hf => newS_v hf
  refine inv_kp _ h dd e (Or.inr ?_) (Or.inr ?_) (Or.inl (fun a k s b => by unfold S_tape at s; omega)) (Or.inr ?_) (Or.inl (fun a k s b => by unfold S_ref at s; omega)) (Or.inl (fun a k s b => by unfold S_img at s; omega))
  · unfold am_get at e e1 e2 e3 e4
    obtain ⟨q1, q2, q3, q4, q5, q6, q7, q8⟩ := h.2.1
    refine ⟨fun i' hi' f' hf' => ?_, fun j hj => ?_, fun j hj => ?_, ?_, ?_, ?_, ?_, ?_⟩
    · by_cases g : i' = n
      · subst g
        rw [e3 f' hf', e4 f' hf']
      · rw [e _ _ (by omega), e _ _ (by omega)]; exact q1 i' hi' f' hf'
    · rw [e _ _ (by omega), e _ _ (by omega)]; exact q2 j hj
    · rw [e _ _ (by omega), e _ _ (by omega)]; exact q3 j hj
    · rw [e _ _ (by omega), e _ _ (by omega)]; exact q4
    · rw [e1, e2]
    all_goals (rw [e _ _ (by omega), e _ _ (by omega)]; assumption)
  · unfold am_get at e e1 e2 e3 e4
    obtain ⟨q1, q2, q3, q4, q5, q6⟩ := h.2.2.1
    have eT : (newS (addS ω 1 n k c p d) n k c p d).2.1 (1 + 1) = ω.2.1 (1 + 1) := funext fun j => e _ _ (by omega)
    unfold O_sky
    rw [e 1 0 (by omega), e1, e 1 6 (by omega), eT]
    refine ⟨q1, ⟨by omega, by omega⟩, q3, fun j hj => by rw [e _ _ (by omega)]; exact q4 j hj, fun i hi => ?_, q6⟩
    by_cases g : i = n
    · subst g
      unfold O_ship
      rw [show 1 + 4 + i = 5 + i by omega, e3 0 (by omega), e3 1 (by omega), e3 2 (by omega), e3 3 (by omega), e3 4 (by omega)]
      exact hO
    · have : (newS (addS ω 1 n k c p d) n k c p d).2.1 (1 + 4 + i) = ω.2.1 (1 + 4 + i) := funext fun j => e _ _ (by omega)
      rw [this]
      exact q5 i (by have : ω.2.1 1 3 = (n : Int) := hk; omega)
  · unfold am_get at e e1 e2 e3 e4
    intro s hs
    obtain ⟨q1, q2, q3⟩ := h.2.2.2.2.1 s hs
    rw [e1, e 54 s (by omega), e (37 + 2 * s) 0 (by omega), e (37 + 2 * s) 1 (by omega), e 55 s (by omega)]
    refine ⟨q1, fun j hj => by rw [e _ _ (by omega), e _ _ (by omega)]; exact q2 j hj, ?_⟩
    have : ω.2.1 1 3 = (n : Int) := hk
    omega
theorem k_ship (h : Inv ω) (k c p d : Int) : Pair 94 169 [some (.inr (.inr 0)), some (.inl k), some (.inl c), some (.inl p), some (.inl d)] [some (.inr (.inr 53)), some (.inl k), some (.inl c), some (.inl p), some (.inl d)] ω := by
  have h0 := h.1
  obtain ⟨e1, e2, e3, e4⟩ := inv_k h
  have b := fun k => rfz_bs (k := k) h0
  have p1 := pX6_ship_0 0 k c p d ω
  simp only [c_kind, am_bi_s, i_0 h0, if_true, Int.toNat_zero, f_0_0 h0, i_1 h0, c_hasPlace h0 W1 e4.2, c_drops, c_isFull h0 W1, c_r2 h0, c_r6 h0] at p1
  have eT : ∀ ω', mT ω' = mT ω → ∀ (hc : 0 ≤ c ∧ c < cn ω 1), am_w (am_get ω' 57 c.toNat - 1) = cT ω 1 c.toNat - 1 := fun ω' q hc => by
    have a1 : am_get ω' 57 c.toNat = cT ω 1 c.toNat := (congrFun q c.toNat).trans (inv_T h (by omega))
    have a2 := h.2.2.1.2.2.1 c.toNat (by omega)
    have a3 : cT ω 1 c.toNat = ω.2.1 (1 + 1) c.toNat := rfl
    rw [a1]
    exact am_w_s (by omega) (by omega)
  by_cases hk : 0 ≤ k ∧ k ≤ 5
  · rw [b01_pos hk] at p1
    simp only [show ¬ (1 : Int) = 0 by omega, if_false] at p1
    by_cases hp : (0 ≤ c ∧ c < cn ω 1) ∧ (0 ≤ p ∧ p < cT ω 1 c.toNat)
    · rw [b01_pos hp] at p1
      simp only [show ¬ (1 : Int) = 0 by omega, if_false] at p1
      have hp' : 0 ≤ p ∧ p ≤ cT ω 1 c.toNat - 1 := by omega
      by_cases hd : 0 ≤ d ∧ d ≤ 99
      · rw [b01_pos hd] at p1
        simp only [show ¬ (1 : Int) = 0 by omega, not_false_eq_true, if_true] at p1
        by_cases hf : 6 ≤ ck ω 1
        · rw [b01_pos hf] at p1
          simp only [show ¬ (1 : Int) = 0 by omega, if_false] at p1
          refine pair_ref h 4 (by omega) p1 ?_
          have ek : am_get (rfz ω 4) 53 6 = 6 := by have : am_get (rfz ω 4) 53 6 = ck ω 1 := mk_rfz.trans e1; omega
          rw [pX7_ship_0]
          simp only [m_in1, am_bi_s, b01_pos hk, show ¬ (1 : Int) = 0 by omega, if_false, i_53 (b 4), if_true, m_isCircle (b 4) (by rw [mn_rfz]; omega), mn_rfz, e2, b01_pos hp.1, Int.reduceToNat, f_53_4 (b 4), n_57 (b 4) hp.1.1 (by omega), eT _ mT_rfz hp.1, b01_pos hp', b01_pos hd, not_false_eq_true, ek, not_true, m_r6 (b 4)]
        · rw [b01_neg hf] at p1
          obtain ⟨n, hn⟩ : ∃ n : Nat, ck ω 1 = n := ⟨(ck ω 1).toNat, by omega⟩
          have hn6 : n < 6 := by omega
          simp only [if_true, c_addShip h0 W1 hn6 hn, am_bi_s] at p1
          have b1 : Bs (addS ω 1 n k c p d) := h0.dc (addS_dc h0 W1 hn6)
          have eA : ((1 : Int) + 4 + (n : Int)).toNat = 5 + n := by omega
          have o : ∀ a j, 53 ≤ a → am_get (addS ω 1 n k c p d) a j = am_get ω a j := fun a j ha => addS_o (by rw [eA]; show ¬ ((a = 5 + n ∧ j < 5) ∨ (a = 1 ∧ j = 3)); omega)
          have k1 : mk (addS ω 1 n k c p d) = (n : Int) := (o _ _ (by omega)).trans (e1.trans hn)
          have k2 : mn (addS ω 1 n k c p d) = mn ω := o _ _ (by omega)
          have k3 : mT (addS ω 1 n k c p d) = mT ω := funext fun j => o _ _ (by omega)
          have k6 : am_get (addS ω 1 n k c p d) 53 6 = (n : Int) := k1
          have c2 := pX7_ship_0 53 k c p d (addS ω 1 n k c p d)
          simp only [m_in1, am_bi_s, b01_pos hk, show ¬ (1 : Int) = 0 by omega, if_false, i_53 b1, if_true, m_isCircle b1 (by rw [k2, e2]; exact e4), k2, e2, b01_pos hp.1, Int.reduceToNat, f_53_4 b1, n_57 b1 hp.1.1 (by omega), eT _ k3 hp.1, b01_pos hp', b01_pos hd, not_false_eq_true, k6, show ¬ (n : Int) = 6 by omega, m_newShip b1 hn6 k1] at c2
          exact ⟨_, _, _, p1, b1, rfl, c2, rfl, inv_new h hn6 hn ⟨hk, hp.1, hp.2, hd, ⟨Int.le_refl 0, by show (0 : Int) ≤ 10; omega⟩⟩⟩
      · rw [b01_neg hd] at p1
        simp only [not_true, if_false] at p1
        refine pair_ref h 0 (by omega) p1 ?_
        rw [pX7_ship_0]
        simp only [m_in1, am_bi_s, b01_pos hk, show ¬ (1 : Int) = 0 by omega, if_false, i_53 (b 0), if_true, m_isCircle (b 0) (by rw [mn_rfz]; omega), mn_rfz, e2, b01_pos hp.1, Int.reduceToNat, f_53_4 (b 0), n_57 (b 0) hp.1.1 (by omega), eT _ mT_rfz hp.1, b01_pos hp', b01_neg hd, not_true, m_r2 (b 0)]
    · rw [b01_neg hp] at p1
      simp only [if_true] at p1
      refine pair_ref h 0 (by omega) p1 ?_
      rw [pX7_ship_0]
      by_cases hc : 0 ≤ c ∧ c < cn ω 1
      · have hp' : ¬ (0 ≤ p ∧ p ≤ cT ω 1 c.toNat - 1) := by omega
        simp only [m_in1, am_bi_s, b01_pos hk, show ¬ (1 : Int) = 0 by omega, if_false, i_53 (b 0), if_true, m_isCircle (b 0) (by rw [mn_rfz]; omega), mn_rfz, e2, b01_pos hc, Int.reduceToNat, f_53_4 (b 0), n_57 (b 0) hc.1 (by omega), eT _ mT_rfz hc, b01_neg hp', m_r2 (b 0)]
      · simp only [m_in1, am_bi_s, b01_pos hk, show ¬ (1 : Int) = 0 by omega, if_false, i_53 (b 0), if_true, m_isCircle (b 0) (by rw [mn_rfz]; omega), mn_rfz, e2, b01_neg hc, m_r2 (b 0)]
  · rw [b01_neg hk] at p1
    simp only [if_true] at p1
    refine pair_ref h 0 (by omega) p1 ?_
    rw [pX7_ship_0]
    simp only [m_in1, am_bi_s, b01_neg hk, i_53 (b 0), if_true, m_r2 (b 0)]
end K9
