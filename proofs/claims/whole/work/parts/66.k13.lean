/-! ===== a ship is sent ===== -/
section K13
variable {ω : am_W} {W : Int}
theorem is_sh {r : Int} {q : Nat × Nat} (h : am_is ω r q = true) : 0 ≤ r ∧ ω.1[r.toNat]? = some q := by
  unfold am_is at h
  obtain ⟨h1, h2⟩ := Bool.and_eq_true_iff.mp h
  exact ⟨of_decide_eq_true h1, by simpa using h2⟩
theorem V_ne (h : Bs ω) (hw : isW W) {v : Int} (hv : am_is ω v (4, 5) = true) : v.toNat ≠ W.toNat ∧ v.toNat ≠ (W + 1).toNat ∧ v.toNat ≠ (W + 2).toNat := by
  have s0 := (is_sh hv).2
  have s1 := (is_sh (w_is h hw)).2
  have s2 : ω.1[(W + 1).toNat]? = some (100, 6) := by
    rcases hw with rfl | rfl | rfl
    · exact bs_sh h (a := 2) rfl
    · exact bs_sh h (a := 12) rfl
    · exact bs_sh h (a := 24) rfl
  have s3 : ω.1[(W + 2).toNat]? = some (100, 5) := by
    rcases hw with rfl | rfl | rfl
    · exact bs_sh h (a := 3) rfl
    · exact bs_sh h (a := 13) rfl
    · exact bs_sh h (a := 25) rfl
  refine ⟨fun e => ?_, fun e => ?_, fun e => ?_⟩
  · rw [e, s1] at s0; cases s0
  · rw [e, s2] at s0; cases s0
  · rw [e, s3] at s0; cases s0
theorem dcV {v : Int} (hv : am_is ω v (4, 5) = true) {j : Nat} (hj : j < 5) {z : Int} : Dc ω (am_put ω v.toNat j z) := by
  obtain ⟨h1, h2⟩ := is_sh hv
  exact Dc.put (rpV (a := v.toNat) (by rw [show ((v.toNat : Nat) : Int) = v by omega]; exact hv) j hj)
theorem cT_V (h : Bs ω) (hw : isW W) {v : Int} (hv : am_is ω v (4, 5) = true) {j : Nat} {z : Int} : cT (am_put ω v.toNat j z) W = cT ω W := funext fun k => gp_cell (fun e => (V_ne h hw hv).2.1 e.symm)
theorem cn_V (h : Bs ω) (hw : isW W) {v : Int} (hv : am_is ω v (4, 5) = true) {j : Nat} {z : Int} : cn (am_put ω v.toNat j z) W = cn ω W := gp_cell (fun e => (V_ne h hw hv).1 e.symm)
def nxt (c d : Int) : Int := if d = 1 then c + 1 else c - 1
theorem c_next {c d : Int} (hc : 0 ≤ c ∧ c ≤ 20) : am_run (62, 0) 0 ([some (.inr (.inr W)), some (.inl c), some (.inl d)], [], ω) = some (some (.inl (nxt c d)), ω) := by
  rw [pX5_next_0]
  unfold nxt
  by_cases g : d = 1
  · rw [if_neg (fun z => z g), if_pos g, am_w_s (by omega) (by omega)]
  · rw [if_pos g, if_neg g, am_w_s (by omega) (by omega)]
/-- what is left of a ship's world when it is sent -/
def sendS (ω : am_W) (v : Int) (b p c : Int) : am_W := am_put (am_put (am_put ω v.toNat 4 b) v.toNat 2 p) v.toNat 1 c
theorem c_send (h : Bs ω) (hw : isW W) (h6 : cn ω W ≤ 6) (hT : ∀ j, j < 6 → 2 ≤ cT ω W j ∧ cT ω W j ≤ 20) {v d : Int} (hv : am_is ω v (4, 5) = true) (hc : 0 ≤ am_get ω v.toNat 1 ∧ am_get ω v.toNat 1 < cn ω W) (ht : 0 ≤ nxt (am_get ω v.toNat 1) d ∧ nxt (am_get ω v.toNat 1) d < cn ω W) (hp : 0 ≤ am_get ω v.toNat 2 ∧ am_get ω v.toNat 2 ≤ 20) : am_run (73, 0) 0 ([some (.inr (.inr W)), some (.inr (.inr v)), some (.inl d), none], [], ω) = some (none, sendS ω v (cT ω W (am_get ω v.toNat 1).toNat / 2) (fL (am_get ω v.toNat 2) (cT ω W (am_get ω v.toNat 1).toNat) (cT ω W (nxt (am_get ω v.toNat 1) d).toNat)) (nxt (am_get ω v.toNat 1) d)) := by
  have b1 : Bs (am_put ω v.toNat 4 (cT ω W (am_get ω v.toNat 1).toNat / 2)) := h.dc (dcV hv (by omega))
  have g1 : am_get (am_put ω v.toNat 4 (cT ω W (am_get ω v.toNat 1).toNat / 2)) v.toNat 1 = am_get ω v.toNat 1 := gp_place (by omega)
  have g2 : am_get (am_put ω v.toNat 4 (cT ω W (am_get ω v.toNat 1).toNat / 2)) v.toNat 2 = am_get ω v.toNat 2 := gp_place (by omega)
  have hl := c_landing b1 hw (by rw [cn_V h hw hv]; exact h6) (by rw [cT_V h hw hv]; exact hT) (c := am_get ω v.toNat 1) (p := am_get ω v.toNat 2) (t := nxt (am_get ω v.toNat 1) d) (by rw [cn_V h hw hv]; exact hc) (by rw [cn_V h hw hv]; exact ht) hp
  rw [cT_V h hw hv] at hl
  rw [pX5_send_0 _ _ _ _ hv (w_is h hw), bi_v (c_next (by omega)), if_pos hv, if_pos (w_is h hw), bi_v (c_crossing h hw h6 hT hc), if_pos hv, if_pos (w_is b1 hw), g1, g2, bi_v hl, if_pos (show am_is (am_put ω v.toNat 4 _) v (4, 5) = true from hv)]
  rfl
end K13
