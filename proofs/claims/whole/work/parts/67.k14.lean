/-! ===== the model's moves ===== -/
section K14
variable {ω : am_W}
def movS (ω : am_W) (i : Nat) (b p c : Int) : am_W := am_put (am_put (am_put ω 63 i b) 61 i p) 60 i c
theorem m_moves (h : Bs ω) (hn : mn ω ≤ 6) (hT : ∀ j, j < 6 → 2 ≤ mT ω j ∧ mT ω j ≤ 20) {i : Nat} (hi : i < 6) {d : Int} (hc : 0 ≤ mV ω i 1 ∧ mV ω i 1 < mn ω) (ht : 0 ≤ nxt (mV ω i 1) d ∧ nxt (mV ω i 1) d < mn ω) (hp : 0 ≤ mV ω i 2 ∧ mV ω i 2 ≤ 20) : am_run (190, 0) 0 ([some (.inr (.inr 53)), some (.inl (i : Int)), some (.inl d), none, none], [], ω) = some (none, movS ω i (mT ω (mV ω i 1).toNat / 2) (fL (mV ω i 2) (mT ω (mV ω i 1).toNat) (mT ω (nxt (mV ω i 1) d).toNat)) (nxt (mV ω i 1) d)) := by
  have e1 : am_get ω 60 i = mV ω i 1 := rfl
  have eT : am_get ω 57 (mV ω i 1).toNat = mT ω (mV ω i 1).toNat := rfl
  have key : am_run (190, 0) 0 ([some (.inr (.inr 53)), some (.inl (i : Int)), some (.inl d), none, none], [], ω) = am_run (190, 0) 21 ([some (.inr (.inr 53)), some (.inl (i : Int)), some (.inl d), some (.inl (mV ω i 1)), none], [.inl (nxt (mV ω i 1) d)], ω) := by
    rw [pX7_moves_0 _ _ _ _ (i_53 h)]
    simp only [Int.reduceToNat, f_53_8 h, n_60 h (i := (i : Int)) (by omega) (by omega), if_true, Int.toNat_natCast, e1]
    unfold nxt
    by_cases g : d = 1
    · rw [if_neg (fun z => z g), if_pos g, am_w_s (by omega) (by omega)]
    · rw [if_pos g, if_neg g, am_w_s (by omega) (by omega)]
  rw [key, pX7_moves_21 _ _ _ _ _ _ _ (i_53 h)]
  have d1 : ∀ z, Dc ω (am_put ω 63 i z) := fun z => Dc.put (am_rp_at (bs_sh h (a := 63) rfl))
  have b1 := fun z => h.dc (d1 z)
  have k1 : ∀ z, am_get (am_put ω 63 i z) 61 i = mV ω i 2 := fun z => gp_cell (by omega)
  have k2 : ∀ z, mT (am_put ω 63 i z) = mT ω := fun z => funext fun j => gp_cell (by omega)
  have k3 : ∀ z, mn (am_put ω 63 i z) = mn ω := fun z => gp_cell (by omega)
  have a1 : ∀ z, am_run (186, 0) 0 ([some (.inr (.inr 53)), some (.inl (mV ω i 2)), some (.inl (mV ω i 1)), some (.inl (nxt (mV ω i 1) d))], [], am_put ω 63 i z) = some (some (.inl (fL (mV ω i 2) (mT ω (mV ω i 1).toNat) (mT ω (nxt (mV ω i 1) d).toNat))), am_put ω 63 i z) := fun z => by
    have := m_across (b1 z) (by rw [k3]; exact hn) (by rw [k2]; exact hT) (c := mV ω i 1) (p := mV ω i 2) (t := nxt (mV ω i 1) d) (by rw [k3]; exact hc) (by rw [k3]; exact ht) hp
    rw [k2] at this
    exact this
  have b2 := fun z y => (b1 z).dc (Dc.put (k := i) (v := y) (am_rp_at (bs_sh (b1 z) (a := 61) rfl)))
  simp only [Int.reduceToNat, f_53_4 h, n_57 h hc.1 (show mV ω i 1 < 6 by omega), if_true, eT, m_halfOf (hT (mV ω i 1).toNat (by omega)), am_bi_s, f_53_11 h, n_63 h (i := (i : Int)) (by omega) (by omega), Int.toNat_natCast, i_53 (b1 _), f_53_9 (b1 _), n_61 (b1 _) (i := (i : Int)) (by omega) (by omega), k1, a1, i_53 (b2 _ _), f_53_8 (b2 _ _), n_60 (b2 _ _) (i := (i : Int)) (by omega) (by omega)]
  rfl
end K14
