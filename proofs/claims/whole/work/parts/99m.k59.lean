/-! ===== the planner is made ready: rings ===== -/
section K59
variable {ω : am_W} {p : Nat}
theorem j_fillI {a : Nat} {v : Int} {n : Nat} (hn : n < 1000000) (hin : ∀ i : Int, 0 ≤ i → i < (n : Int) → am_in ω (a : Int) 100 i = true) : ∀ d i : Nat, i + d = n → am_run (239, 0) 5 ([some (.inr (.inr ((a : Int)))), some (.inl v), some (.inl ((i : Int))), some (.inl ((n : Int)))], [], (fillR ω a 0 i v)) = some (none, fillR ω a 0 n v) := by
  intro d
  induction d with
  | zero =>
    intro i hi
    obtain rfl : i = n := by omega
    rw [pJ7_fill_53178_5, if_pos (by omega)]
  | succ d ih =>
    intro i hi
    rw [pJ7_fill_53178_5, if_neg (by omega), if_pos (show am_in (fillR ω a 0 i v) a 100 (i : Int) = true from hin _ (by omega) (by omega)), am_w_s (by omega) (by omega), Int.toNat_natCast, Int.toNat_natCast, fillR_s (Nat.zero_le i)]
    exact ih (i + 1) (by omega)
theorem c_fillA {a : Nat} {v : Int} {n : Nat} (h : ω.1[a]? = some (100, n)) (hn : n < 1000000) : am_run (239, 0) 0 ([some (.inr (.inr ((a : Int)))), some (.inl v), none, none], [], ω) = some (none, fillR ω a 0 n v) := by
  have e1 : am_arl ω (a : Int) = true := by
    unfold am_arl am_ar
    rw [Int.toNat_natCast, h]
    simp
  have e2 : am_len ω (a : Int) = (n : Int) := by
    unfold am_len
    rw [Int.toNat_natCast, h]
    rfl
  rw [pJ7_fill_53178_0, if_pos e1, e2]
  have := j_fillI (ω := ω) (a := a) (v := v) hn (fun i h0 h1 => at_in h h0 h1) n 0 (by omega)
  rw [fillR_0] at this
  exact this
theorem orN_p {Q : Nat → Prop} {m M : Nat} (hm : m < 2 ^ M) : ∀ k, k ≤ M → orN Q k m < 2 ^ M := by
  intro k
  induction k with
  | zero => intro _; exact hm
  | succ k ih =>
    intro hk
    have := ih (by omega)
    by_cases g : Q k
    · rw [orN_y g]
      exact Nat.or_lt_two_pow this (Nat.pow_lt_pow_right (by omega) (by omega))
    · rw [orN_n g]; exact this
theorem orN_w {Q : Nat → Prop} {m M : Nat} (hm : m ≤ wh M) : orN Q M m ≤ wh M := by
  unfold wh at hm ⊢
  by_cases g : M = 0
  · subst g
    rw [if_pos rfl] at hm ⊢
    exact hm
  · rw [if_neg g] at hm ⊢
    have p2 : 0 < 2 ^ M := Nat.two_pow_pos M
    have := orN_p (Q := Q) (m := m) (M := M) (by omega) M (Nat.le_refl _)
    omega
theorem Pls.f72 {ω' : am_W} (hP : Pls ω p) (f : F72 ω ω') : Pls ω' p := hP.dc f.1
section PR
variable {n : Int} {T C : Nat → Int} {K : Int} {i : Nat}
theorem pl_rp (hP : Pls ω p) {m : Nat} (hm : m < 7) : ω.1[p + 15 + m]? = some (100, 1320) := by
  have e : ∀ m, m < 7 → sh_P[15 + m]? = some (100, 1320) := by decide
  have := (hP.2.1 (15 + m) (by omega)).trans (e m hm)
  rwa [← Nat.add_assoc] at this
theorem c_prepare (h : Inv ω) (hP : Pls ω p) (hi : i < 6) (pa : Par ω i n T C K) (set most : Int) {N : Nat} (hN : am_get ω 1 3 = (N : Int)) {b0 q0 : Nat} (hb : am_get ω (1 + 4 + (i : Int)).toNat 4 = (b0 : Int)) (hb0 : b0 ≤ 10) (hq : am_get ω (1 + 4 + (i : Int)).toNat 1 * 20 + am_get ω (1 + 4 + (i : Int)).toNat 2 = (q0 : Int)) (hq0 : q0 < 120) (hc0 : 0 ≤ am_get ω (1 + 4 + (i : Int)).toNat 1 ∧ am_get ω (1 + 4 + (i : Int)).toNat 1 ≤ 6) : ∃ ω', am_run (9, 0) 0 ([some (.inr (.inr ((p : Int)))), some (.inr (.inr (1 + 4 + (i : Int)))), some (.inl set), some (.inl most), none], [], ω) = some (none, ω') ∧ F72 ω ω' ∧ Chw ω' p (cvd n T) (cok n C K) (ctg T) (cln T) (cpc n C K) ∧ am_get ω' p 10 = ((gM (bitI set) N).length : Int) ∧ am_get ω' p 11 = (wh (gM (bitI set) N).length : Int) ∧ (∀ k, k < (gM (bitI set) N).length → am_get ω' (p + 23) k = (((gM (bitI set) N).getD k 0 : Nat) : Int)) ∧ am_get ω' p 12 = most ∧ am_get ω' p 13 = -1 ∧ am_get ω' p 14 = -1 ∧ ∀ m, m < wh (gM (bitI set) N).length → ∀ k, k < 1320 → am_get ω' (p + 15 + m) k = if m = 0 ∧ k = b0 % 11 * 120 + q0 then 0 else 1000000 := by
  have p72 := hP.1
  have M3 := (gM_3 (bit := bitI set) N).1
  obtain ⟨G, hG⟩ : ∃ G, G = gM (bitI set) N := ⟨_, rfl⟩
  obtain ⟨w1, w7⟩ := wh_7 M3
  obtain ⟨ω1, r1, f1, cw1⟩ := c_chart h hP hi pa
  have P1 := hP.dc f1.1
  have I1 := f1.inv h p72
  obtain ⟨ω2, r2, f2, e10, e11, em⟩ := c_gather I1 P1 set (N := N) ((f1.lo p72 1 3 (by omega)).trans hN)
  rw [← hG] at e10 e11 em w1 w7 M3 ⊢
  have P2 := P1.dc f2.1
  have l2 : F72 ω ω2 := (f1.f72 p72).tr ⟨f2.1, fun a k ha => f2.2 a k (by omega) (by omega)⟩
  have cw2 := cw1.kp (ω' := ω2) (fun a k z => f2.2 a k (by omega) (by omega))
  have Q := pX1_prepare_0 (p : Int) (1 + 4 + (i : Int)) set most ω (pl_is hP)
  rw [bv_v r1, if_pos (pl_is P1), bv_v r2] at Q
  have key : ∀ k m : Nat, m + k = wh G.length → ∀ ω3, Dc ω2 ω3 → (∀ a k, ¬ (p + 15 ≤ a ∧ a < p + 22) → am_get ω3 a k = am_get ω2 a k) → (∀ m', m' < m → ∀ k, k < 1320 → am_get ω3 (p + 15 + m') k = 1000000) → ∃ (ω4 : am_W) (o4 : Int), am_run (9, 0) 13 ([some (.inr (.inr ((p : Int)))), some (.inr (.inr (1 + 4 + (i : Int)))), some (.inl set), some (.inl most), some (.inl ((m : Int)))], [], ω3) = am_run (9, 0) 47 ([some (.inr (.inr ((p : Int)))), some (.inr (.inr (1 + 4 + (i : Int)))), some (.inl set), some (.inl most), some (.inl o4)], [], ω4) ∧ Dc ω2 ω4 ∧ (∀ a k, ¬ (p + 15 ≤ a ∧ a < p + 22) → am_get ω4 a k = am_get ω2 a k) ∧ (∀ m', m' < wh G.length → ∀ k, k < 1320 → am_get ω4 (p + 15 + m') k = 1000000) := by
    intro k
    induction k with
    | zero =>
      intro m hm ω3 d o r
      obtain rfl : m = wh G.length := by omega
      have P3 := P2.dc d
      have e : am_get ω3 p 11 = (wh G.length : Int) := (o p 11 (by omega)).trans e11
      exact ⟨ω3, _, by rw [pX1_prepare_13 _ _ _ _ _ _ (pl_is P3), Int.toNat_natCast, e, if_pos (Int.le_refl _)], d, o, r⟩
    | succ k ih =>
      intro m hm ω3 d o r
      have P3 := P2.dc d
      have e : am_get ω3 p 11 = (wh G.length : Int) := (o p 11 (by omega)).trans e11
      have m7 : m < 7 := by omega
      have a1 : ¬ (wh G.length : Int) ≤ (m : Int) := by omega
      have a2 : ¬ (7 : Int) ≤ (m : Int) := by omega
      have a3 : m + 1 + k = wh G.length := by omega
      have fi := c_fillA (v := 1000000) (pl_rp P3 m7) (by omega)
      have Q := pX1_prepare_13 (p : Int) (1 + 4 + (i : Int)) set most m ω3 (pl_is P3)
      simp only [am_bi_s, am_bl_s, am_ba_s, am_bv_s, Int.toNat_zero, Int.reduceToNat, Int.toNat_natCast, if_true, if_false, not_true, not_false_eq_true, Int.reduceEq, Int.reduceLT, Int.reduceLE, e, if_neg a1, if_neg a2, pl_6 P3, pl_ina7 P3 (Int.natCast_nonneg m) (show (m : Int) < 7 by omega), pl_r P3 m7, fi] at Q
      rw [am_w_s (by omega) (by omega), show (m : Int) + 1 = ((m + 1 : Nat) : Int) by omega] at Q
      obtain ⟨ω4, o4, r4, rest⟩ := ih (m + 1) a3 (fillR ω3 (p + 15 + m) 0 1320 1000000) (d.tr (fillR_dc (fun k => am_rp_at (pl_rp P3 m7)))) (fun a k z => (fillR_g (by omega)).trans (o a k z)) (fun m' hm' k hk => by
        by_cases z : m' = m
        · rw [z]; exact fillR_v ⟨by omega, hk⟩
        · exact (fillR_g (by omega)).trans (r m' (by omega) k hk))
      exact ⟨ω4, o4, Q.trans r4, rest⟩
  obtain ⟨ω3, o4, r3, d3, o3, g3⟩ := key (wh G.length) 0 (by omega) ω2 (Dc.rf ω2) (fun _ _ _ => rfl) (fun m' hm' => absurd hm' (Nat.not_lt_zero _))
  have P3 := P2.dc d3
  have l3 : F72 ω ω3 := l2.tr ⟨d3, fun a k ha => o3 a k (by omega)⟩
  have u4 := F72.put P3 (r := 0) (k := 12) (v := most) (by omega)
  rw [Nat.add_zero] at u4
  obtain ⟨ω4, w4⟩ : ∃ w, w = am_put ω3 p 12 most := ⟨_, rfl⟩
  rw [← w4] at u4
  have P4 := P3.f72 u4
  have u5 := F72.put P4 (r := 0) (k := 13) (v := -1) (by omega)
  rw [Nat.add_zero] at u5
  obtain ⟨ω5, w5⟩ : ∃ w, w = am_put ω4 p 13 (-1) := ⟨_, rfl⟩
  rw [← w5] at u5
  have P5 := P4.f72 u5
  have u6 := F72.put P5 (r := 0) (k := 14) (v := -1) (by omega)
  rw [Nat.add_zero] at u6
  obtain ⟨ω6, w6⟩ : ∃ w, w = am_put ω5 p 14 (-1) := ⟨_, rfl⟩
  rw [← w6] at u6
  have P6 := P5.f72 u6
  have l5 := (l3.tr u4).tr u5
  have l6 := l5.tr u6
  have Q4 := pX1_prepare_47 (p : Int) (1 + 4 + (i : Int)) set most o4 ω3 (pl_is P3)
  rw [Int.toNat_natCast, ← w4, ← w5] at Q4
  have I5 := l5.inv h
  have I6 := l6.inv h
  have hv5 := is_V I5.1 (W := 1) (Or.inl rfl) hi
  have hv6 := is_V I6.1 (W := 1) (Or.inl rfl) hi
  have Q5 := pX1_prepare_57 (p : Int) (1 + 4 + (i : Int)) set most o4 ω5 (pl_is P5) hv5
  have v6 : ∀ f, am_get ω6 (1 + 4 + (i : Int)).toNat f = am_get ω (1 + 4 + (i : Int)).toNat f := fun f => l6.2 _ _ (by omega)
  have so := pX5_spotOf_0 1 (1 + 4 + (i : Int)) ω6 hv6
  have sw : am_w (am_w (am_get ω (1 + 4 + (i : Int)).toNat 1 * 20) + am_get ω (1 + 4 + (i : Int)).toNat 2) = (q0 : Int) := by
    rw [am_w_s (z := am_get ω (1 + 4 + (i : Int)).toNat 1 * 20) (by omega) (by omega), hq]
    exact am_w_s (by omega) (by omega)
  rw [v6, v6, sw] at so
  clear sw
  have sl := c_slot (ω := ω6) (t := b0) (by omega)
  have r06 : am_get ω6 (p + 14) 0 = ((p + 15 : Nat) : Int) := pl_r P6 (j := 0) (by omega)
  have i06 : am_in ω6 ((p + 15 : Nat) : Int) 100 ((b0 % 11 * 120 + q0 : Nat) : Int) = true := pl_ring P6 (m := 0) (by omega) (Int.natCast_nonneg _) (Int.ofNat_lt.mpr (ix_lt hq0))
  have ix : ∀ _ : Unit, am_w (((b0 % 11 * 120 : Nat) : Int) + (q0 : Int)) = ((b0 % 11 * 120 + q0 : Nat) : Int) := fun _ => (am_w_s (by omega) (by omega)).trans (by omega)
  simp only [am_bi_s, am_bl_s, am_ba_s, am_bv_s, Int.toNat_zero, Int.reduceToNat, Int.toNat_natCast, if_true, if_false, not_true, not_false_eq_true, Int.reduceEq, Int.reduceLT, Int.reduceLE, ← w6, pl_6 P6, pl_ina7 P6 (i := 0) (by omega) (by omega), v6, hb, sl, pl_is P6, pl_0 P6, i_1 I6.1, so, r06, ix (), i06] at Q5
  have u7 := F72.put P6 (r := 15) (k := b0 % 11 * 120 + q0) (v := 0) (by omega)
  have far : ∀ a k, ¬ (a = p ∧ (k = 12 ∨ k = 13 ∨ k = 14)) → ¬ (a = p + 15 ∧ k = b0 % 11 * 120 + q0) → am_get (am_put ω6 (p + 15) (b0 % 11 * 120 + q0) 0) a k = am_get ω3 a k := fun a k z1 z2 => by
    rw [w6, w5, w4]
    exact (if_neg z2).trans ((if_neg (by omega)).trans ((if_neg (by omega)).trans (if_neg (by omega))))
  refine ⟨_, Q.trans (r3.trans (Q4.trans Q5)), l6.tr u7, cw2.kp (fun a k z => (far a k (by omega) (by omega)).trans (o3 a k (by omega))), ?_, ?_, fun k hk => ?_, ?_, ?_, ?_, fun m hm k hk => ?_⟩
  · exact (far _ _ (by omega) (by omega)).trans ((o3 _ _ (by omega)).trans e10)
  · exact (far _ _ (by omega) (by omega)).trans ((o3 _ _ (by omega)).trans e11)
  · exact (far _ _ (by omega) (by omega)).trans ((o3 _ _ (by omega)).trans (em k hk))
  · rw [gp_cell (by omega), w6, gp_place (by omega), w5, gp_place (by omega), w4, gp_same]
  · rw [gp_cell (by omega), w6, gp_place (by omega), w5, gp_same]
  · rw [gp_cell (by omega), w6, gp_same]
  · by_cases z : m = 0 ∧ k = b0 % 11 * 120 + q0
    · rw [if_pos z, z.1, z.2]; exact gp_same
    · rw [if_neg z, far _ _ (by omega) (by omega)]; exact g3 m hm k hk
end PR
end K59
