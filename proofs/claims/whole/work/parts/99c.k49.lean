/-! ===== the planner is there ===== -/
section K49
variable {ω : am_W}
section PL
variable {p : Nat}
theorem pl_is (h : Pls ω p) : am_is ω (p : Int) (1, 15) = true := at_is (h.2.1 0 (by omega))
theorem pl_0 (h : Pls ω p) : am_get ω p 0 = 1 := h.2.2.1
theorem pl_1 (h : Pls ω p) : am_get ω p 1 = ((p + 1 : Nat) : Int) := h.2.2.2.1
theorem pl_3 (h : Pls ω p) : am_get ω p 3 = ((p + 2 : Nat) : Int) := h.2.2.2.2.1
theorem pl_4 (h : Pls ω p) : am_get ω p 4 = ((p + 6 : Nat) : Int) := h.2.2.2.2.2.1
theorem pl_5 (h : Pls ω p) : am_get ω p 5 = ((p + 10 : Nat) : Int) := h.2.2.2.2.2.2.1
theorem pl_6 (h : Pls ω p) : am_get ω p 6 = ((p + 14 : Nat) : Int) := h.2.2.2.2.2.2.2.1
theorem pl_7 (h : Pls ω p) : am_get ω p 7 = ((p + 22 : Nat) : Int) := h.2.2.2.2.2.2.2.2.1
theorem pl_8 (h : Pls ω p) : am_get ω p 8 = ((p + 23 : Nat) : Int) := h.2.2.2.2.2.2.2.2.2.1
theorem pl_9 (h : Pls ω p) : am_get ω p 9 = ((p + 24 : Nat) : Int) := h.2.2.2.2.2.2.2.2.2.2.1
theorem pl_t (h : Pls ω p) {j : Nat} (hj : j < 3) : am_get ω (p + 2) j = ((p + 3 + j : Nat) : Int) := (h.2.2.2.2.2.2.2.2.2.2.2.1 j hj).1
theorem pl_l (h : Pls ω p) {j : Nat} (hj : j < 3) : am_get ω (p + 6) j = ((p + 7 + j : Nat) : Int) := (h.2.2.2.2.2.2.2.2.2.2.2.1 j hj).2.1
theorem pl_p (h : Pls ω p) {j : Nat} (hj : j < 3) : am_get ω (p + 10) j = ((p + 11 + j : Nat) : Int) := (h.2.2.2.2.2.2.2.2.2.2.2.1 j hj).2.2
theorem pl_r (h : Pls ω p) {j : Nat} (hj : j < 7) : am_get ω (p + 14) j = ((p + 15 + j : Nat) : Int) := h.2.2.2.2.2.2.2.2.2.2.2.2 j hj
theorem pl_ina3 (h : Pls ω p) {r : Nat} (hr : r = 2 ∨ r = 6 ∨ r = 10) {i : Int} (h0 : 0 ≤ i) (h1 : i < 3) : am_ina ω ((p + r : Nat) : Int) i = true := by
  have : am_in ω ((p + r : Nat) : Int) 104 i = true := by
    rcases hr with rfl | rfl | rfl
    · exact at_in (h.2.1 2 (by omega)) h0 h1
    · exact at_in (h.2.1 6 (by omega)) h0 h1
    · exact at_in (h.2.1 10 (by omega)) h0 h1
  unfold am_ina
  rw [this]
  simp
theorem pl_ina7 (h : Pls ω p) {i : Int} (h0 : 0 ≤ i) (h1 : i < 7) : am_ina ω ((p + 14 : Nat) : Int) i = true := by
  unfold am_ina
  rw [show am_in ω ((p + 14 : Nat) : Int) 104 i = true from at_in (h.2.1 14 (by omega)) h0 h1]
  simp
theorem pl_s120 (h : Pls ω p) {i : Int} (h0 : 0 ≤ i) (h1 : i < 120) : am_in ω ((p + 1 : Nat) : Int) 100 i = true := at_in (h.2.1 1 (by omega)) h0 h1
theorem pl_row (h : Pls ω p) {r : Nat} (hr : (3 ≤ r ∧ r < 6) ∨ (7 ≤ r ∧ r < 10) ∨ (11 ≤ r ∧ r < 14)) {i : Int} (h0 : 0 ≤ i) (h1 : i < 120) : am_in ω ((p + r : Nat) : Int) 100 i = true := by
  have e : ∀ r, r < 14 → (3 ≤ r ∧ r < 6) ∨ (7 ≤ r ∧ r < 10) ∨ (11 ≤ r ∧ r < 14) → sh_P[r]? = some (100, 120) := by decide
  exact at_in ((h.2.1 r (by omega)).trans (e r (by omega) hr)) h0 h1
theorem pl_ring (h : Pls ω p) {m : Nat} (hm : m < 7) {i : Int} (h0 : 0 ≤ i) (h1 : i < 1320) : am_in ω ((p + 15 + m : Nat) : Int) 100 i = true := by
  have e : ∀ m, m < 7 → sh_P[15 + m]? = some (100, 1320) := by decide
  have := (h.2.1 (15 + m) (by omega)).trans (e m hm)
  rw [← Nat.add_assoc] at this
  exact at_in this h0 h1
theorem pl_go (h : Pls ω p) {i : Int} (h0 : 0 ≤ i) (h1 : i < 7320) : am_in ω ((p + 22 : Nat) : Int) 100 i = true := at_in (h.2.1 22 (by omega)) h0 h1
theorem pl_mem (h : Pls ω p) {i : Int} (h0 : 0 ≤ i) (h1 : i < 3) : am_in ω ((p + 23 : Nat) : Int) 100 i = true := at_in (h.2.1 23 (by omega)) h0 h1
theorem pl_msp (h : Pls ω p) {i : Int} (h0 : 0 ≤ i) (h1 : i < 3) : am_in ω ((p + 24 : Nat) : Int) 100 i = true := at_in (h.2.1 24 (by omega)) h0 h1
/-- a number is put into the planner -/
theorem pl_dc (h : Pls ω p) {r k : Nat} {v : Int} (hr : (r = 0 ∧ (k = 2 ∨ 10 ≤ k)) ∨ r = 1 ∨ (3 ≤ r ∧ r < 6) ∨ (7 ≤ r ∧ r < 10) ∨ (11 ≤ r ∧ r < 14) ∨ (15 ≤ r ∧ r < 25)) : Dc ω (am_put ω (p + r) k v) := by
  refine Dc.put ?_
  rcases hr with ⟨rfl, hk⟩ | hr
  · rw [Nat.add_zero, am_rp_at (show ω.1[p]? = some (1, 15) from h.2.1 0 (by omega))]
    have : am_fk 1 k ≠ 2 := by
      rcases hk with rfl | hk
      · decide
      · by_cases z : k < 15
        · have : ∀ k, k < 15 → 10 ≤ k → am_fk 1 k ≠ 2 := by decide
          exact this k z hk
        · obtain ⟨j, rfl⟩ : ∃ j, k = j + 15 := ⟨k - 15, by omega⟩
          show (0 : Nat) ≠ 2
          omega
    simp [this]
  · have e : ∀ r, r < 25 → r = 1 ∨ (3 ≤ r ∧ r < 6) ∨ (7 ≤ r ∧ r < 10) ∨ (11 ≤ r ∧ r < 14) ∨ (15 ≤ r ∧ r < 25) → (sh_P[r]?).map (fun q => q.1) = some 100 := by decide
    have s := h.2.1 r (by omega)
    have e' := e r (by omega) hr
    cases z : sh_P[r]? with
    | none => rw [z] at e'; cases e'
    | some q =>
      rw [z] at e' s
      obtain ⟨kd, n⟩ := q
      rw [am_rp_at s]
      have : kd = 100 := by simpa using e'
      subst this
      rfl
end PL
theorem planner_is (h : Inv ω) : (am_get ω 0 8 = -1 ∧ ∃ ω1, am_run (4, 0) 0 ([some (.inr (.inr ((ω.1.length : Int)))), some (.inr (.inr 1))], [], (am_new ω (1, 15) (am_d0 1))) = some (none, ω1) ∧ Bs ω1 ∧ Inv (am_put ω1 0 8 (ω.1.length : Int)) ∧ Pls (am_put ω1 0 8 (ω.1.length : Int)) ω.1.length ∧ ω1.2.2 = ω.2.2 ∧ ∀ a k, a < 72 → am_get ω1 a k = am_get ω a k) ∨ ∃ p : Nat, am_get ω 0 8 = (p : Int) ∧ Pls ω p := by
  have h0 := h.1
  have key : ∀ X : List (Nat × Nat), ω.1 = sh_0 ++ X → (∀ ω1, Mk ω ω.1.length sh_P ω1 → B_pl ω1.2.1 ω.1.length → I_ext (am_put ω1 0 8 (ω.1.length : Int))) → ∃ ω1, am_run (4, 0) 0 ([some (.inr (.inr ((ω.1.length : Int)))), some (.inr (.inr 1))], [], (am_new ω (1, 15) (am_d0 1))) = some (none, ω1) ∧ Bs ω1 ∧ Inv (am_put ω1 0 8 (ω.1.length : Int)) ∧ Pls (am_put ω1 0 8 (ω.1.length : Int)) ω.1.length ∧ ω1.2.2 = ω.2.2 ∧ ∀ a k, a < 72 → am_get ω1 a k = am_get ω a k := by
    intro X hX ext
    have L72 : 72 ≤ ω.1.length := by rw [hX, List.length_append, sh0_len]; omega
    obtain ⟨ω1, r, M, B⟩ := c_mkPl (ω := ω) rfl
    have pre : sh_0 <+: ω1.1 := by rw [M.1, hX, List.append_assoc]; exact List.prefix_append _ _
    have B1 : Bs ω1 := by
      refine ⟨pre, fun q hq => ?_⟩
      have rf : ∀ q ∈ rf_0, q.1 < 72 := by decide +kernel
      exact (congrFun (M.2.2 q.1 (by have := rf q hq; omega)) q.2.1).trans (h0.2 q hq)
    refine ⟨ω1, r, B1, inv_ext h pre (fun a k ha g => ?_) (ext ω1 M B), ⟨L72, ?_, ?_⟩, M.2.1, fun a k ha => congrFun (M.2.2 a (by omega)) k⟩
    · exact (if_neg (by omega)).trans (congrFun (M.2.2 a (by omega)) k)
    · intro j hj
      show ω1.1[ω.1.length + j]? = _
      rw [M.1, List.getElem?_append_right (by omega), Nat.add_sub_cancel_left]
    · have o : ∀ a k, ω.1.length ≤ a → (am_put ω1 0 8 (ω.1.length : Int)).2.1 a k = ω1.2.1 a k := fun a k ha => if_neg (by omega)
      unfold B_pl at B ⊢
      simp only [o _ _ (show ω.1.length ≤ ω.1.length by omega), o _ _ (show ω.1.length ≤ ω.1.length + 2 by omega), o _ _ (show ω.1.length ≤ ω.1.length + 6 by omega), o _ _ (show ω.1.length ≤ ω.1.length + 10 by omega), o _ _ (show ω.1.length ≤ ω.1.length + 14 by omega)]
      exact B
  rcases h.2.2.2.2.2.2.2 with ⟨x1, x2, x3⟩ | ⟨x1, x2, x3, x4⟩ | ⟨x1, x2, x3, x4⟩ | ⟨x1, x2, x3, x4, x5⟩ | ⟨x1, x2, x3, x4, x5⟩
  · refine Or.inl ⟨x2, key [] (by rw [x1]; simp) (fun ω1 M B => ?_)⟩
    have L : ω.1.length = 72 := by rw [x1, sh0_len]
    rw [L] at M B ⊢
    have o : ∀ a k, 72 ≤ a → (am_put ω1 0 8 ((72 : Nat) : Int)).2.1 a k = ω1.2.1 a k := fun a k ha => if_neg (by omega)
    refine Or.inr (Or.inl ⟨?_, gp_same, ?_, ?_⟩)
    · show ω1.1 = _
      rw [M.1, x1]
    · exact (gp_place (by omega)).trans ((congrFun (M.2.2 0 (by omega)) 9).trans x3)
    · unfold B_pl at B ⊢
      simp only [o 72 _ (by omega), o (72 + 2) _ (by omega), o (72 + 6) _ (by omega), o (72 + 10) _ (by omega), o (72 + 14) _ (by omega)]
      exact B
  · exact Or.inr ⟨72, x2, by omega, by rw [x1]; decide, x4⟩
  · refine Or.inl ⟨x2, key sh_C x1 (fun ω1 M B => ?_)⟩
    have L : ω.1.length = 87 := by rw [x1, List.length_append, sh0_len]; rfl
    rw [L] at M B ⊢
    have o : ∀ a k, 87 ≤ a → (am_put ω1 0 8 ((87 : Nat) : Int)).2.1 a k = ω1.2.1 a k := fun a k ha => if_neg (by omega)
    have o' : ∀ a k, 1 ≤ a → a < 87 → (am_put ω1 0 8 ((87 : Nat) : Int)).2.1 a k = ω.2.1 a k := fun a k h1 ha => (if_neg (by omega)).trans (congrFun (M.2.2 a ha) k)
    refine Or.inr (Or.inr (Or.inr (Or.inr ⟨?_, gp_same, ?_, ?_, ?_⟩)))
    · show ω1.1 = _
      rw [M.1, x1, List.append_assoc]
    · exact (gp_place (by omega)).trans ((congrFun (M.2.2 0 (by omega)) 9).trans x3)
    · unfold B_pl at B ⊢
      simp only [o 87 _ (by omega), o (87 + 2) _ (by omega), o (87 + 6) _ (by omega), o (87 + 10) _ (by omega), o (87 + 14) _ (by omega)]
      exact B
    · unfold B_ch at x4 ⊢
      simp only [o' 72 _ (by omega) (by omega), o' (72 + 1) _ (by omega) (by omega), o' (72 + 2) _ (by omega) (by omega)]
      exact x4
  · exact Or.inr ⟨72, x2, by omega, by rw [x1]; decide, x4⟩
  · exact Or.inr ⟨87, x2, by omega, by rw [x1]; decide, x4⟩
theorem c_thinking (h : Inv ω) : ∃ (ω1 : am_W) (p : Nat), am_run (139, 0) 0 ([some (.inr (.inr 0))], [], ω) = some (some (.inr (.inr (p : Int))), ω1) ∧ Inv ω1 ∧ Pls ω1 p ∧ ω1.2.2 = ω.2.2 ∧ ∀ a k, a < 72 → ¬ (a = 0 ∧ k = 8) → am_get ω1 a k = am_get ω a k := by
  have h0 := h.1
  have q := pX6_thinking_0 0 ω (i_0 h0)
  rw [Int.toNat_zero] at q
  rcases planner_is h with ⟨g8, ω1, r1, B1, I1, P1, sc, lo⟩ | ⟨p, g8, P1⟩
  · have n0 : am_is (am_new ω (1, 15) (am_d0 1)) 0 (6, 10) = true := at_is (ω := am_new ω (1, 15) (am_d0 1)) (a := 0) (nw_at (bs_sh h0 (a := 0) rfl))
    have n1 : am_get (am_new ω (1, 15) (am_d0 1)) 0 0 = 1 := (congrFun (nw_o (by have := h0.1.length_le; rw [sh0_len] at this; omega)) 0).trans (f_0_0 h0)
    have ip := pl_is P1
    simp only [g8, am_bi_s, am_bl_s, am_ba_s, am_bv_s, Int.toNat_zero, Int.reduceToNat, Int.toNat_natCast, if_true, if_false, not_true, not_false_eq_true, Int.reduceEq, Int.reduceLT, Int.reduceLE, n0, nw_is, n1, r1, i_0 B1, gp_same, ip] at q
    exact ⟨_, _, q, I1, P1, sc, fun a k ha hk => (if_neg hk).trans (lo a k ha)⟩
  · rw [g8, if_neg (by omega), if_pos (pl_is P1)] at q
    exact ⟨_, _, q, h, P1, rfl, fun _ _ _ _ => rfl⟩
end K49
