/-! ===== the model acts ===== -/
section K17
variable {ω : am_W}
theorem m_acts_0 (h : Bs ω) {i : Int} : am_run (191, 0) 0 ([some (.inr (.inr 53)), some (.inl i), some (.inl 0)], [], ω) = some (none, ω) := by
  rw [pX7_acts_0 _ _ _ _ (i_53 h), if_neg (show ¬ ¬ (0 : Int) = 0 by omega)]
theorem m_acts (h : Bs ω) (hn : 2 ≤ mn ω ∧ mn ω ≤ 6) (hT : ∀ j, j < 6 → 2 ≤ mT ω j ∧ mT ω j ≤ 20) (hC : ∀ j, j < 5 → 1 ≤ mC ω j ∧ mC ω j ≤ 9) {i : Nat} (hi : i < 6) {d : Int} (hd : d = 1 ∨ d = 2) (hc : 0 ≤ mV ω i 1 ∧ mV ω i 1 < mn ω) (hl : 0 ≤ low (mV ω i 1) d ∧ low (mV ω i 1) d < mn ω - 1) (hp : 0 ≤ mV ω i 2 ∧ mV ω i 2 ≤ 20) (hf : 0 ≤ mV ω i 3 ∧ mV ω i 3 ≤ 99) : am_run (191, 0) 0 ([some (.inr (.inr 53)), some (.inl (i : Int)), some (.inl d)], [], ω) = some (none, movS (am_put ω 62 i (mV ω i 3 - prF (mn ω) (mC ω) (mV ω i 0) (low (mV ω i 1) d))) i (mT ω (mV ω i 1).toNat / 2) (fL (mV ω i 2) (mT ω (mV ω i 1).toNat) (mT ω (nxt (mV ω i 1) d).toNat)) (nxt (mV ω i 1) d)) := by
  have e3 : am_get ω 62 i = mV ω i 3 := rfl
  obtain ⟨-, p2, p3⟩ := prF_ok hn.2 hC (k := mV ω i 0) hl
  have ht : 0 ≤ nxt (mV ω i 1) d ∧ nxt (mV ω i 1) d < mn ω := by
    unfold low at hl
    unfold nxt
    by_cases g : d = 1
    · rw [if_pos g] at hl ⊢; omega
    · rw [if_neg g] at hl ⊢; omega
  have d1 : ∀ z, Dc ω (am_put ω 62 i z) := fun z => Dc.put (am_rp_at (bs_sh h (a := 62) rfl))
  have b1 := fun z => h.dc (d1 z)
  have k1 : ∀ z, mV (am_put ω 62 i z) i 1 = mV ω i 1 := fun z => gp_cell (by omega)
  have k2 : ∀ z, mV (am_put ω 62 i z) i 2 = mV ω i 2 := fun z => gp_cell (by omega)
  have k3 : ∀ z, mT (am_put ω 62 i z) = mT ω := fun z => funext fun j => gp_cell (by omega)
  have k4 : ∀ z, mn (am_put ω 62 i z) = mn ω := fun z => gp_cell (by omega)
  have mv : ∀ z, am_run (190, 0) 0 ([some (.inr (.inr 53)), some (.inl (i : Int)), some (.inl d), none, none], [], am_put ω 62 i z) = some (none, movS (am_put ω 62 i z) i (mT ω (mV ω i 1).toNat / 2) (fL (mV ω i 2) (mT ω (mV ω i 1).toNat) (mT ω (nxt (mV ω i 1) d).toNat)) (nxt (mV ω i 1) d)) := fun z => by
    have := m_moves (b1 z) (by rw [k4]; exact hn.2) (by rw [k3]; exact hT) hi (d := d) (by rw [k1, k4]; exact hc) (by rw [k1, k4]; exact ht) (by rw [k2]; exact hp)
    rw [k1, k2, k3] at this
    exact this
  rw [pX7_acts_0 _ _ _ _ (i_53 h), if_pos (by omega)]
  simp only [Int.reduceToNat, f_53_10 h, n_62 h (i := (i : Int)) (by omega) (by omega), if_true, m_priceOf h hn hC hi hl, am_bi_s, Int.toNat_natCast, e3, i_53 (b1 _), mv, am_bv_s]
  rw [am_w_s (by omega) (by omega)]
end K17
