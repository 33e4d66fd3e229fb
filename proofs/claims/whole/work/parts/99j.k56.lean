/-! ===== the chart is written ===== -/
section K56
variable {ω : am_W} {p : Nat}
/-- what a sky is, for a chart -/
theorem osk (h : Inv ω) : (2 ≤ cn ω 1 ∧ cn ω 1 ≤ 6) ∧ Tok (cT ω 1) ∧ (∀ j, j < 5 → 1 ≤ cC ω 1 j ∧ cC ω 1 j ≤ 9) := ⟨h.2.2.1.1, h.2.2.1.2.2.1, h.2.2.1.2.2.2.1⟩
theorem c_chartChange (h : Inv ω) (hP : Pls ω p) {i : Nat} (hi : i < 6) {x c r : Nat} (hx : x = 1 ∨ x = 2) (hc : (c : Int) < cn ω 1) (hr : (r : Int) < cT ω 1 c) : ∃ ω', am_run (11, 0) 0 ([some (.inr (.inr ((p : Int)))), some (.inr (.inr (1 + 4 + (i : Int)))), some (.inl ((x : Int))), some (.inl ((c : Int))), some (.inl ((r : Int))), none, none, none], [], ω) = some (none, ω') ∧ FrK p ω ω' ∧ (∀ a k, ¬ (k = c * 20 + r ∧ (a = p + 3 + x ∨ a = p + 7 + x ∨ a = p + 11 + x)) → am_get ω' a k = am_get ω a k) ∧ Wr1 ω' p x (c * 20 + r) (cok (cn ω 1) (cC ω 1) (am_get ω (1 + 4 + (i : Int)).toNat 0)) (ctg (cT ω 1)) (cln (cT ω 1)) (cpc (cn ω 1) (cC ω 1) (am_get ω (1 + 4 + (i : Int)).toNat 0)) := by
  obtain ⟨on, oT, oC⟩ := osk h
  have p72 := hP.1
  have h0 := h.1
  have hv := is_V h0 (W := 1) (Or.inl rfl) hi
  have tc := oT c (by omega)
  have x3 : x < 3 := by omega
  have x0 : x ≠ 0 := by omega
  have xi0 : (0 : Int) ≤ (x : Int) := by omega
  have xi3 : (x : Int) < 3 := by omega
  have hd : (x : Int) = 1 ∨ (x : Int) = 2 := by omega
  have q1 : (c * 20 + r) / 20 = c := by omega
  have q2 : (c * 20 + r) % 20 = r := by omega
  have hq : cvd (cn ω 1) (cT ω 1) (c * 20 + r) := by unfold cvd; rw [q1, q2]; exact ⟨hc, hr⟩
  have qi0 : (0 : Int) ≤ ((c * 20 + r : Nat) : Int) := by omega
  have qi1 : ((c * 20 + r : Nat) : Int) < 120 := by omega
  have sp : am_w (am_w ((c : Int) * 20) + (r : Int)) = ((c * 20 + r : Nat) : Int) := by
    rw [am_w_s (z := (c : Int) * 20) (by omega) (by omega), am_w_s (by omega) (by omega)]; omega
  obtain ⟨K, hK⟩ : ∃ K, K = am_get ω (1 + 4 + (i : Int)).toNat 0 := ⟨_, rfl⟩
  rw [← hK]
  have Q := pX1_chartChange_0 (p : Int) (1 + 4 + (i : Int)) x c r ω hv
  rw [bi_v (c_steers hv), ← hK, sp] at Q
  have k1 := FrK.row hP (r := 3 + x) (k := c * 20 + r) (v := -1) (by omega)
  rw [← Nat.add_assoc] at k1
  obtain ⟨ω1, e1⟩ : ∃ w, w = am_put ω (p + 3 + x) (c * 20 + r) (-1) := ⟨_, rfl⟩
  rw [← e1] at k1
  have P1 := hP.dc k1.1
  have I1 := k1.inv h p72
  have rw3 : ∀ {ω}, Pls ω p → am_in ω ((p + 3 + x : Nat) : Int) 100 ((c * 20 + r : Nat) : Int) = true := fun P => by
    have := pl_row P (r := 3 + x) (by omega) qi0 qi1
    rwa [← Nat.add_assoc] at this
  have rw7 : ∀ {ω}, Pls ω p → am_in ω ((p + 7 + x : Nat) : Int) 100 ((c * 20 + r : Nat) : Int) = true := fun P => by
    have := pl_row P (r := 7 + x) (by omega) qi0 qi1
    rwa [← Nat.add_assoc] at this
  have rw11 : ∀ {ω}, Pls ω p → am_in ω ((p + 11 + x : Nat) : Int) 100 ((c * 20 + r : Nat) : Int) = true := fun P => by
    have := pl_row P (r := 11 + x) (by omega) qi0 qi1
    rwa [← Nat.add_assoc] at this
  -- nothing can be
  have no : ¬ cok (cn ω 1) (cC ω 1) K x (c * 20 + r) → am_run (11, 0) 30 ([some (.inr (.inr ((p : Int)))), some (.inr (.inr (1 + 4 + (i : Int)))), some (.inl ((x : Int))), some (.inl ((c : Int))), some (.inl ((r : Int))), some (.inl (((c * 20 + r : Nat) : Int))), none, none], [(.inl ((-1)))], ω) = some (none, ω1) ∧ FrK p ω ω1 ∧ (∀ a k, ¬ (k = c * 20 + r ∧ (a = p + 3 + x ∨ a = p + 7 + x ∨ a = p + 11 + x)) → am_get ω1 a k = am_get ω a k) ∧ Wr1 ω1 p x (c * 20 + r) (cok (cn ω 1) (cC ω 1) K) (ctg (cT ω 1)) (cln (cT ω 1)) (cpc (cn ω 1) (cC ω 1) K) := by
    intro g
    refine ⟨?_, k1, fun a k z => ?_, fun y => absurd y g, fun _ => ?_⟩
    · rw [pX1_chartChange_30 _ _ _ _ _ _ _ _ _ _ (pl_is hP)]
      simp only [am_bi_s, am_bl_s, am_ba_s, am_bv_s, Int.toNat_zero, Int.reduceToNat, Int.toNat_natCast, if_true, if_false, not_true, not_false_eq_true, Int.reduceEq, Int.reduceLT, Int.reduceLE, pl_3 hP, pl_ina3 hP (Or.inl rfl) xi0 xi3, pl_t hP x3, rw3 hP, e1]
    · rw [e1]; exact if_neg (fun y => z ⟨y.2, Or.inl y.1⟩)
    · rw [e1]; exact gp_same
  by_cases gk : K = 0 ∨ K = 1 ∨ K = 5
  · rw [b01_pos gk, if_neg (show ¬ (1 : Int) = 0 by omega), if_pos (pl_is hP), Int.toNat_natCast, pl_0 hP, if_pos (i_1 h0), bi_v (c_price h0 (Or.inl rfl) on oC hv (by omega) hd), ← hK] at Q
    by_cases gp : prF (cn ω 1) (cC ω 1) K (low (c : Int) (x : Int)) = -1
    · rw [gp] at Q
      obtain ⟨n1, n2⟩ := no (by
        rintro (z | ⟨_, _, z⟩)
        · exact x0 z
        · rw [q1] at z; exact z gp)
      exact ⟨ω1, Q.trans n1, n2⟩
    · have ok : cok (cn ω 1) (cC ω 1) K x (c * 20 + r) := Or.inr ⟨hx, gk, by rw [q1]; exact gp⟩
      have ch := chI on.2 oT oC hq ok
      obtain ⟨b1, b2, b3⟩ := prF_b on.2 oC gp
      have nx : 0 ≤ nxt (c : Int) (x : Int) ∧ nxt (c : Int) (x : Int) < cn ω 1 := by
        unfold low at b1
        unfold nxt
        rcases hx with rfl | rfl
        · rw [if_pos (show ((1 : Nat) : Int) = 1 from rfl)] at b1 ⊢; omega
        · rw [if_neg (show ¬ ((2 : Nat) : Int) = 1 by omega)] at b1 ⊢; omega
      have eT : cT ω1 1 = cT ω 1 := funext fun j => k1.2 _ _ (by show ¬ ((1 + 1 : Int).toNat = _ ∧ _); omega) (by show ¬ (_ ≤ (1 + 1 : Int).toNat ∧ _); omega)
      have en : cn ω1 1 = cn ω 1 := k1.2 _ _ (by show ¬ ((1 : Int).toNat = _ ∧ _); omega) (by show ¬ (_ ≤ (1 : Int).toNat ∧ _); omega)
      have tn := oT (nxt (c : Int) (x : Int)).toNat (by omega)
      have ci : ctI (cT ω 1) x (c * 20 + r) = nxt (c : Int) (x : Int) * 20 + fL (r : Int) (cT ω 1 c) (cT ω 1 (nxt (c : Int) (x : Int)).toNat) := by unfold ctI; rw [if_neg x0, q1, q2]
      have li : clI (cT ω 1) x (c * 20 + r) = cT ω 1 c / 2 := by unfold clI; rw [if_neg x0, q1]
      have pi : cpI (cn ω 1) (cC ω 1) K x (c * 20 + r) = prF (cn ω 1) (cC ω 1) K (low (c : Int) (x : Int)) := by unfold cpI; rw [if_neg x0, q1]
      have f := fL_ok (p := (r : Int)) (a := cT ω 1 c) tn.1
      have wt : am_w (am_w (nxt (c : Int) (x : Int) * 20) + fL (r : Int) (cT ω 1 c) (cT ω 1 (nxt (c : Int) (x : Int)).toNat)) = ctI (cT ω 1) x (c * 20 + r) := by
        rw [ci, am_w_s (z := nxt (c : Int) (x : Int) * 20) (by omega) (by omega), am_w_s (by omega) (by omega)]
      have la := c_landing I1.1 (W := 1) (Or.inl rfl) (by rw [en]; exact on.2) (by rw [eT]; exact oT) (c := (c : Int)) (p := (r : Int)) (t := nxt (c : Int) (x : Int)) (by rw [en]; omega) (by rw [en]; exact nx) (by omega)
      rw [eT, Int.toNat_natCast] at la
      have nn := c_next (ω := ω1) (W := 1) (c := (c : Int)) (d := (x : Int)) (by omega)
      have Q2 := pX1_chartChange_30 (p : Int) (1 + 4 + (i : Int)) x c r ((c * 20 + r : Nat) : Int) (prF (cn ω 1) (cC ω 1) K (low (c : Int) (x : Int))) none none ω (pl_is hP)
      simp only [am_bi_s, am_bl_s, am_ba_s, am_bv_s, Int.toNat_zero, Int.reduceToNat, Int.toNat_natCast, if_true, if_false, not_true, not_false_eq_true, Int.reduceEq, Int.reduceLT, Int.reduceLE, pl_3 hP, pl_ina3 hP (Or.inl rfl) xi0 xi3, pl_t hP x3, rw3 hP, if_neg gp, ← e1, pl_0 P1, i_1 I1.1, nn, pl_is P1, pl_3 P1, pl_ina3 P1 (Or.inl rfl) xi0 xi3, la, pl_t P1 x3, rw3 P1, wt] at Q2
      have k2 := FrK.row P1 (r := 3 + x) (k := c * 20 + r) (v := ctI (cT ω 1) x (c * 20 + r)) (by omega)
      rw [← Nat.add_assoc] at k2
      obtain ⟨ω2, e2⟩ : ∃ w, w = am_put ω1 (p + 3 + x) (c * 20 + r) (ctI (cT ω 1) x (c * 20 + r)) := ⟨_, rfl⟩
      rw [← e2] at k2 Q2
      have P2 := P1.dc k2.1
      have I2 := k2.inv I1 p72
      have k02 := k1.tr k2
      have eT2 : cT ω2 1 = cT ω 1 := funext fun j => k02.2 _ _ (by show ¬ ((1 + 1 : Int).toNat = _ ∧ _); omega) (by show ¬ (_ ≤ (1 + 1 : Int).toNat ∧ _); omega)
      have en2 : cn ω2 1 = cn ω 1 := k02.2 _ _ (by show ¬ ((1 : Int).toNat = _ ∧ _); omega) (by show ¬ (_ ≤ (1 : Int).toNat ∧ _); omega)
      have cr := c_crossing I2.1 (W := 1) (Or.inl rfl) (by rw [en2]; exact on.2) (by rw [eT2]; exact oT) (c := (c : Int)) (by rw [en2]; omega)
      rw [eT2, Int.toNat_natCast] at cr
      have k3 := FrK.row P2 (r := 7 + x) (k := c * 20 + r) (v := cT ω 1 c / 2) (by omega)
      rw [← Nat.add_assoc] at k3
      obtain ⟨ω3, e3⟩ : ∃ w, w = am_put ω2 (p + 7 + x) (c * 20 + r) (cT ω 1 c / 2) := ⟨_, rfl⟩
      rw [← e3] at k3
      have P3 := P2.dc k3.1
      have Q3 := pX1_chartChange_86 (p : Int) (1 + 4 + (i : Int)) x c r ((c * 20 + r : Nat) : Int) (prF (cn ω 1) (cC ω 1) K (low (c : Int) (x : Int))) (nxt (c : Int) (x : Int)) ω2 (pl_is P2) (by rw [Int.toNat_natCast, pl_0 P2]; exact i_1 I2.1)
      simp only [am_bi_s, am_bl_s, am_ba_s, am_bv_s, Int.toNat_zero, Int.reduceToNat, Int.toNat_natCast, if_true, if_false, not_true, not_false_eq_true, Int.reduceEq, Int.reduceLT, Int.reduceLE, pl_4 P2, pl_ina3 P2 (Or.inr (Or.inl rfl)) xi0 xi3, pl_l P2 x3, pl_0 P2, cr, rw7 P2, ← e3, pl_is P3, pl_5 P3, pl_ina3 P3 (Or.inr (Or.inr rfl)) xi0 xi3, pl_p P3 x3, rw11 P3] at Q3
      have k4 := FrK.row P3 (r := 11 + x) (k := c * 20 + r) (v := prF (cn ω 1) (cC ω 1) K (low (c : Int) (x : Int))) (by omega)
      rw [← Nat.add_assoc] at k4
      refine ⟨_, Q.trans (Q2.trans Q3), (k02.tr k3).tr k4, fun a k z => ?_, fun _ => ⟨?_, ?_, ?_⟩, fun y => absurd ok y⟩
      · rw [e3, e2, e1]
        exact (if_neg (fun y => z ⟨y.2, Or.inr (Or.inr y.1)⟩)).trans ((if_neg (fun y => z ⟨y.2, Or.inr (Or.inl y.1)⟩)).trans ((if_neg (fun y => z ⟨y.2, Or.inl y.1⟩)).trans (if_neg (fun y => z ⟨y.2, Or.inl y.1⟩))))
      · rw [gp_cell (by omega), e3, gp_cell (by omega), e2, gp_same]
        unfold ctg
        omega
      · rw [gp_cell (by omega), e3, gp_same]
        unfold cln
        omega
      · rw [gp_same]
        unfold cpc
        omega
  · rw [b01_neg gk, if_pos rfl] at Q
    obtain ⟨n1, n2⟩ := no (by
      rintro (z | ⟨_, z, _⟩)
      · exact x0 z
      · exact gk z)
    exact ⟨ω1, Q.trans n1, n2⟩
end K56
