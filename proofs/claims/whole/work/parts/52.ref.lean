/-! ===== refusals; a call of the class and then of the model ===== -/
def rfz (ω : am_W) (k : Nat) : am_W := am_put ω 34 k (am_w (am_get ω 34 k + 1))
def noz (ω : am_W) (k : Nat) : am_W := am_put ω 65 (k + 2) (am_w (am_get ω 65 (k + 2) + 1))
theorem rfz_get {ω : am_W} {k a j : Nat} (h : a ≠ 34) : am_get (rfz ω k) a j = am_get ω a j := gp_cell h
theorem rfz_bs {ω : am_W} {k : Nat} (h : Bs ω) : Bs (rfz ω k) := h.put (kd := 100) (n := 5) rfl rfl
theorem noz_bs {ω : am_W} {k : Nat} (h : Bs ω) : Bs (noz ω k) := h.put (kd := 100) (n := 7) rfl rfl
theorem rfz_dc {ω : am_W} {k : Nat} (h : Bs ω) : Dc ω (rfz ω k) := Dc.put (am_rp_at (bs_sh h (a := 34) (q := (100, 5)) rfl))
theorem noz_dc {ω : am_W} {k : Nat} (h : Bs ω) : Dc ω (noz ω k) := Dc.put (am_rp_at (bs_sh h (a := 65) (q := (100, 7)) rfl))
theorem c_ref {ω : am_W} (h : Bs ω) {k : Nat} (hk : k < 5) {c : Int} (hc : c = -2 - (k : Int)) : am_run (128, 0) 0 ([some (.inr (.inr 0)), some (.inl c), none], [], ω) = some (some (.inl c), rfz ω k) := by
  subst hc
  have e : am_w (-2 - (-2 - (k : Int))) = (k : Int) := by rw [show -2 - (-2 - (k : Int)) = (k : Int) by omega]; exact am_w_s (by omega) (by omega)
  rw [pX6_refuse_0 _ _ _ (i_0 h), e, if_neg (by omega), if_neg (by omega)]
  simp only [Int.toNat_zero, f_0_5 h, Int.toNat_natCast, Int.reduceToNat]
  rw [if_pos (n_34 h (by omega) (by omega))]
  rfl
theorem m_no {ω : am_W} (h : Bs ω) {k : Nat} (hk : k < 5) {c : Int} (hc : c = -2 - (k : Int)) : am_run (148, 0) 0 ([some (.inr (.inr 53)), some (.inl c)], [], ω) = some (some (.inl c), noz ω k) := by
  subst hc
  have e : am_w (-(-2 - (k : Int))) = ((k + 2 : Nat) : Int) := by rw [show -(-2 - (k : Int)) = ((k + 2 : Nat) : Int) by omega]; exact am_w_s (by omega) (by omega)
  rw [pX7_no_0 _ _ _ (i_53 h), e]
  simp only [Int.reduceToNat, f_53_21 h, Int.toNat_natCast]
  rw [if_pos (n_65 h (by omega) (by omega))]
  rfl
theorem m_in {ω : am_W} {v lo hi : Int} : am_run (149, 0) 0 ([some (.inl v), some (.inl lo), some (.inl hi)], [], ω) = some (some (.inl (if lo ≤ v ∧ v ≤ hi then 1 else 0)), ω) := by
  rw [pX7_within_0]
  by_cases h1 : v < lo
  · rw [if_pos h1, if_neg (by omega)]
  · rw [if_neg h1]
    by_cases h2 : hi < v
    · rw [if_pos h2, if_neg (by omega)]
    · rw [if_neg h2, if_pos (by omega)]
theorem c_shelf {ω : am_W} {v : Int} : am_run (140, 0) 0 ([some (.inl v)], [], ω) = some (some (.inl (if 0 ≤ v ∧ v ≤ 7 then 1 else 0)), ω) := by
  rw [pX6_isShelf_0]
  by_cases h1 : v < 0
  · rw [if_pos h1, if_neg (by omega)]
  · rw [if_neg h1]
    by_cases h2 : 8 ≤ v
    · rw [if_pos h2, if_neg (by omega)]
    · rw [if_neg h2, if_pos (by omega)]
theorem inv_ref {ω : am_W} (h : Inv ω) {k : Nat} (hk : k < 5) : Inv (noz (rfz ω k) k) := by
  obtain ⟨h0, h1, h2, h3, h4, h5, h6, h7⟩ := h
  have d : Dc ω (noz (rfz ω k) k) := (rfz_dc h0).tr (noz_dc (rfz_bs h0))
  refine inv_kp (fun a _ => a = 34 ∨ a = 65) ⟨h0, h1, h2, h3, h4, h5, h6, h7⟩ d (fun a j g => (gp_cell (ω := rfz ω k) (by omega)).trans (gp_cell (by omega))) (Or.inl (fun a k s b => by unfold S_sky at s; omega)) (Or.inl (fun a k s b => by unfold S_osky at s; omega)) (Or.inl (fun a k s b => by unfold S_tape at s; omega)) (Or.inl (fun a k s b => by unfold S_shelf at s; omega)) (Or.inr ?_) (Or.inl (fun a k s b => by unfold S_img at s; omega))
  intro j hj
  have e1 : am_get (noz (rfz ω k) k) 34 j = am_get (rfz ω k) 34 j := gp_cell (by omega)
  have hjj : am_get ω 65 (j + 2) = am_get ω 34 j := h5 j hj
  show am_get (noz (rfz ω k) k) 65 (j + 2) = am_get (noz (rfz ω k) k) 34 j
  rw [e1]
  by_cases hjk : j = k
  · subst hjk
    unfold noz
    rw [gp_same, rfz_get (by omega)]
    unfold rfz
    rw [gp_same, hjj]
  · unfold noz
    rw [gp_place (by omega), rfz_get (by omega), hjj]
    unfold rfz
    rw [gp_place hjk]
/-- the class answers, then the model, and they answer the same -/
def Pair (b1 b2 : Nat) (L1 L2 : am_L) (ω : am_W) : Prop := ∃ (z : am_V) (ω1 ω2 : am_W), am_run (b1, 0) 0 (L1, [], ω) = some (some z, ω1) ∧ Bs ω1 ∧ ω1.2.2 = ω.2.2 ∧ am_run (b2, 0) 0 (L2, [], ω1) = some (some z, ω2) ∧ ω2.2.2 = ω.2.2 ∧ Inv ω2
theorem pair_ref {b1 b2 : Nat} {L1 L2 : am_L} {ω : am_W} (h : Inv ω) (k : Nat) (hk : k < 5) {c : Int} (h1 : am_run (b1, 0) 0 (L1, [], ω) = some (some (.inl c), rfz ω k)) (h2 : am_run (b2, 0) 0 (L2, [], rfz ω k) = some (some (.inl c), noz (rfz ω k) k)) : Pair b1 b2 L1 L2 ω := ⟨_, _, _, h1, rfz_bs h.1, rfl, h2, rfl, inv_ref h hk⟩
theorem pair_same {b1 b2 : Nat} {L1 L2 : am_L} {ω : am_W} {z : am_V} (h : Inv ω) (h1 : am_run (b1, 0) 0 (L1, [], ω) = some (some z, ω)) (h2 : am_run (b2, 0) 0 (L2, [], ω) = some (some z, ω)) : Pair b1 b2 L1 L2 ω := ⟨_, _, _, h1, h.1, rfl, h2, rfl, h⟩
theorem bi_v {x : Option am_R} {z : Int} {ω1 : am_W} {f : Int → am_W → Option am_R} (h : x = some (some (.inl z), ω1)) : am_bi x f = f z ω1 := by rw [h]; rfl
theorem bv_v {x : Option am_R} {ω1 : am_W} {f : am_W → Option am_R} (h : x = some (none, ω1)) : am_bv x f = f ω1 := by rw [h]; rfl
theorem ina_33 {ω : am_W} (h : Bs ω) {i : Int} (h0 : 0 ≤ i) (h1 : i < 8) : am_ina ω 33 i = true := by
  unfold am_ina
  rw [show am_in ω 33 103 i = true from bs_in (a := 33) (kd := 103) (n := 8) h rfl h0 h1]
  simp
theorem g_shelf {ω : am_W} (h : Bs ω) {s : Nat} (hs : s < 8) : am_get ω 33 s = ((37 + 2 * s : Nat) : Int) := by
  have : ∀ s, s < 8 → (33, s, ((37 + 2 * s : Nat) : Int)) ∈ rf_0 := by decide
  exact bs_rf h (this s hs)
theorem is_shelf {ω : am_W} (h : Bs ω) {s : Nat} (hs : s < 8) : am_is ω ((37 + 2 * s : Nat) : Int) (2, 3) = true := by
  have : ∀ s, s < 8 → sh_0[37 + 2 * s]? = some (2, 3) := by decide
  exact bs_is h (this s hs)
theorem g_elem {ω : am_W} (h : Bs ω) {s : Nat} (hs : s < 8) : am_get ω (37 + 2 * s) 2 = ((38 + 2 * s : Nat) : Int) := by
  have : ∀ s, s < 8 → (37 + 2 * s, 2, ((38 + 2 * s : Nat) : Int)) ∈ rf_0 := by decide
  exact bs_rf h (this s hs)
theorem in_elem {ω : am_W} (h : Bs ω) {s : Nat} (hs : s < 8) {i : Int} (h0 : 0 ≤ i) (h1 : i < 40) : am_in ω ((38 + 2 * s : Nat) : Int) 101 i = true := by
  have : ∀ s, s < 8 → sh_0[38 + 2 * s]? = some (101, 40) := by decide
  exact bs_in h (this s hs) h0 h1
