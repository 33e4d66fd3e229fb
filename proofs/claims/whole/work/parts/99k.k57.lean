/-! ===== the whole chart ===== -/
section K57
variable {ω : am_W} {p : Nat}
/-- the numbers that a chart is made of -/
def Par (ω : am_W) (i : Nat) (n : Int) (T C : Nat → Int) (K : Int) : Prop := cn ω 1 = n ∧ cT ω 1 = T ∧ cC ω 1 = C ∧ am_get ω (1 + 4 + (i : Int)).toNat 0 = K
theorem Par.kp {ω' : am_W} {i : Nat} {n : Int} {T C : Nat → Int} {K : Int} (h : Par ω i n T C K) (hi : i < 6) (e : ∀ a k, a < 72 → am_get ω' a k = am_get ω a k) : Par ω' i n T C K :=
  ⟨(e _ _ (by decide)).trans h.1, (funext fun j => e _ _ (by decide)).trans h.2.1, (funext fun j => e _ _ (by decide)).trans h.2.2.1, (e _ _ (by omega)).trans h.2.2.2⟩
theorem FrK.lo {ω' : am_W} (g : FrK p ω ω') (hp : 72 ≤ p) : ∀ a k, a < 72 → am_get ω' a k = am_get ω a k := fun a k ha => g.2 a k (by omega) (by omega)
/-- the chart is written for the spots below D -/
def CwI (ω : am_W) (p : Nat) (vd : Nat → Prop) (ok : Nat → Nat → Prop) (tg ln pc : Nat → Nat → Nat) (D : Nat) : Prop := ∃ S : Nat, S ≤ D ∧ am_get ω p 2 = (S : Int) ∧ (∀ i, i < S → ∃ q : Nat, vd q ∧ q < D ∧ am_get ω (p + 1) i = (q : Int)) ∧ (∀ q : Nat, vd q → q < D → ∃ i, i < S ∧ am_get ω (p + 1) i = (q : Int)) ∧ ∀ q, vd q → q < D → ∀ x, x < 3 → Wr1 ω p x q ok tg ln pc
theorem Wr1.kp {ω' : am_W} {x q : Nat} {ok : Nat → Nat → Prop} {tg ln pc : Nat → Nat → Nat} (h : Wr1 ω p x q ok tg ln pc) (e3 : am_get ω' (p + 3 + x) q = am_get ω (p + 3 + x) q) (e7 : am_get ω' (p + 7 + x) q = am_get ω (p + 7 + x) q) (e11 : am_get ω' (p + 11 + x) q = am_get ω (p + 11 + x) q) : Wr1 ω' p x q ok tg ln pc := by
  unfold Wr1 at h ⊢
  rw [e3, e7, e11]
  exact h
theorem CwI.chw {vd : Nat → Prop} {ok : Nat → Nat → Prop} {tg ln pc : Nat → Nat → Nat} (h : CwI ω p vd ok tg ln pc 120) (hv : ∀ q, vd q → q < 120) : Chw ω p vd ok tg ln pc := by
  obtain ⟨S, s1, s2, s3, s4, s5⟩ := h
  refine ⟨⟨S, s1, s2, fun i hi => ?_, fun q hq => s4 q hq (hv q hq)⟩, fun q hq x hx => s5 q hq (hv q hq) x hx⟩
  obtain ⟨q, z1, _, z2⟩ := s3 i hi
  exact ⟨q, z1, z2⟩
/-- the next spots: none of them is there -/
theorem CwI.up {vd : Nat → Prop} {ok : Nat → Nat → Prop} {tg ln pc : Nat → Nat → Nat} {D E : Nat} (h : CwI ω p vd ok tg ln pc D) (hD : D ≤ E) (hv : ∀ q, vd q → D ≤ q → E ≤ q) : CwI ω p vd ok tg ln pc E := by
  obtain ⟨S, s1, s2, s3, s4, s5⟩ := h
  have lt : ∀ q, vd q → q < E → q < D := fun q hq z => by
    by_cases y : q < D
    · exact y
    · have := hv q hq (by omega); omega
  refine ⟨S, by omega, s2, fun i hi => ?_, fun q hq z => s4 q hq (lt q hq z), fun q hq z x hx => s5 q hq (lt q hq z) x hx⟩
  obtain ⟨q, z1, z3, z2⟩ := s3 i hi
  exact ⟨q, z1, by omega, z2⟩
/-- sums that stay in range; kept behind a Unit -/
theorem ch_ar {c r S : Nat} {t x : Int} (hc : c < 6) (hr : r < 20) (hS : S ≤ 120) (ht : t ≤ 20) (h0 : 0 ≤ ((r : Int) + 1) % t) (h1 : ((r : Int) + 1) % t < t) (hx : x = (c : Int) * 20 + ((r : Int) + 1) % t) : ∀ _ : Unit, am_w ((r : Int) + 1) = ((r + 1 : Nat) : Int) ∧ am_w ((S : Int) + 1) = ((S + 1 : Nat) : Int) ∧ am_w ((c : Int) * 20) = (c : Int) * 20 ∧ am_w ((c : Int) * 20 + (r : Int)) = ((c * 20 + r : Nat) : Int) ∧ am_w ((c : Int) * 20 + ((r + 1 : Nat) : Int) % t) = x := fun _ => by
  refine ⟨(am_w_s (by omega) (by omega)).trans (by omega), (am_w_s (by omega) (by omega)).trans (by omega), am_w_s (by omega) (by omega), (am_w_s (by omega) (by omega)).trans (by omega), ?_⟩
  rw [hx, show ((r + 1 : Nat) : Int) = (r : Int) + 1 by omega]
  exact am_w_s (by omega) (by omega)
section ST
variable {n : Int} {T C : Nat → Int} {K : Int} {i c r : Nat}
theorem c_chart1 (h : Inv ω) (hP : Pls ω p) (hi : i < 6) (pa : Par ω i n T C K) (hc : (c : Int) < n) (hr : (r : Int) < T c) (I : CwI ω p (cvd n T) (cok n C K) (ctg T) (cln T) (cpc n C K) (c * 20 + r)) (o5 : Option am_V) : ∃ ω', am_run (10, 0) 30 ([some (.inr (.inr ((p : Int)))), some (.inr (.inr (1 + 4 + (i : Int)))), some (.inl ((c : Int))), some (.inl (T c)), some (.inl ((r : Int))), o5], [], ω) = am_run (10, 0) 30 ([some (.inr (.inr ((p : Int)))), some (.inr (.inr (1 + 4 + (i : Int)))), some (.inl ((c : Int))), some (.inl (T c)), some (.inl (((r + 1 : Nat) : Int))), some (.inl (((c * 20 + r : Nat) : Int)))], [], ω') ∧ FrK p ω ω' ∧ CwI ω' p (cvd n T) (cok n C K) (ctg T) (cln T) (cpc n C K) (c * 20 + (r + 1)) := by
  obtain ⟨on, oT, oC⟩ := osk h
  obtain ⟨S, s1, s2, s3, s4, s5⟩ := I
  have p72 := hP.1
  have pa' := pa
  obtain ⟨en, eT, eC, eK⟩ := pa'
  rw [en] at on
  rw [eT] at oT
  have tc := oT c (by omega)
  have q1 : (c * 20 + r) / 20 = c := by omega
  have q2 : (c * 20 + r) % 20 = r := by omega
  have hq : cvd n T (c * 20 + r) := by unfold cvd; rw [q1, q2]; exact ⟨hc, hr⟩
  have qi0 : (0 : Int) ≤ ((c * 20 + r : Nat) : Int) := by omega
  have qi1 : ((c * 20 + r : Nat) : Int) < 120 := by omega
  have Si0 : (0 : Int) ≤ (S : Int) := by omega
  have Si1 : (S : Int) < 120 := by omega
  have nT : ¬ T c ≤ (r : Int) := by omega
  have m0 := Int.emod_nonneg ((r : Int) + 1) (show T c ≠ 0 by omega)
  have m1 := Int.emod_lt_of_pos ((r : Int) + 1) (show 0 < T c by omega)
  have ci : ctI T 0 (c * 20 + r) = (c : Int) * 20 + ((r : Int) + 1) % T c := by unfold ctI; rw [if_pos rfl, q1, q2]
  have A := ch_ar (c := c) (r := r) (S := S) (by omega) (by omega) (by omega) tc.2 m0 m1 ci
  have md := fun ω => c_modulo (ω := ω) (x := ((r + 1 : Nat) : Int)) (t := T c) (by omega) tc.1
  have Q := pX1_chart_30 (p : Int) (1 + 4 + (i : Int)) c (T c) r o5 ω (pl_is hP)
  have e2 : ∀ v : Int, am_get (am_put ω (p + 1) S v) p 2 = (S : Int) := fun v => (gp_cell (by omega)).trans s2
  simp only [am_bi_s, am_bl_s, am_ba_s, am_bv_s, Int.toNat_zero, Int.reduceToNat, Int.toNat_natCast, if_true, if_false, not_true, not_false_eq_true, Int.reduceEq, Int.reduceLT, Int.reduceLE, if_neg nT, s2, pl_1 hP, pl_s120 hP Si0 Si1, (A ()).2.2.1, (A ()).2.2.2.1, e2, (A ()).2.1] at Q
  have f1 := FrK.row hP (r := 1) (k := S) (v := ((c * 20 + r : Nat) : Int)) (Or.inl rfl)
  obtain ⟨ω1, w1⟩ : ∃ w, w = am_put ω (p + 1) S ((c * 20 + r : Nat) : Int) := ⟨_, rfl⟩
  rw [← w1] at f1 Q
  have P1 := hP.dc f1.1
  have f2 := FrK.cnt P1 (v := ((S + 1 : Nat) : Int))
  obtain ⟨ω2, w2⟩ : ∃ w, w = am_put ω1 p 2 ((S + 1 : Nat) : Int) := ⟨_, rfl⟩
  rw [← w2] at f2 Q
  have P2 := P1.dc f2.1
  have Q2 := pX1_chart_66 (p : Int) (1 + 4 + (i : Int)) c (T c) r ((c * 20 + r : Nat) : Int) ω2 (pl_is P2)
  have f3 := FrK.row P2 (r := 3) (k := c * 20 + r) (v := ctI T 0 (c * 20 + r)) (by omega)
  obtain ⟨ω3, w3⟩ : ∃ w, w = am_put ω2 (p + 3) (c * 20 + r) (ctI T 0 (c * 20 + r)) := ⟨_, rfl⟩
  rw [← w3] at f3
  have P3 := P2.dc f3.1
  have t0 : ∀ {ω}, Pls ω p → am_get ω (p + 2) 0 = ((p + 3 : Nat) : Int) := fun P => pl_t P (j := 0) (by omega)
  have l0 : ∀ {ω}, Pls ω p → am_get ω (p + 6) 0 = ((p + 7 : Nat) : Int) := fun P => pl_l P (j := 0) (by omega)
  have p0 : ∀ {ω}, Pls ω p → am_get ω (p + 10) 0 = ((p + 11 : Nat) : Int) := fun P => pl_p P (j := 0) (by omega)
  have z0 : (0 : Int) ≤ 0 := by omega
  have z3 : (0 : Int) < 3 := by omega
  have md2 := md ω2
  simp only [am_bi_s, am_bl_s, am_ba_s, am_bv_s, Int.toNat_zero, Int.reduceToNat, Int.toNat_natCast, if_true, if_false, not_true, not_false_eq_true, Int.reduceEq, Int.reduceLT, Int.reduceLE, pl_3 P2, pl_ina3 P2 (Or.inl rfl) z0 z3, (A ()).1, md2, t0 P2, pl_row P2 (r := 3) (by omega) qi0 qi1, (A ()).2.2.1, (A ()).2.2.2.2, ← w3, pl_is P3, pl_4 P3, pl_ina3 P3 (Or.inr (Or.inl rfl)) z0 z3, l0 P3, pl_row P3 (r := 7) (by omega) qi0 qi1] at Q2
  have f4 := FrK.row P3 (r := 7) (k := c * 20 + r) (v := 1) (by omega)
  obtain ⟨ω4, w4⟩ : ∃ w, w = am_put ω3 (p + 7) (c * 20 + r) 1 := ⟨_, rfl⟩
  rw [← w4] at f4 Q2
  have P4 := P3.dc f4.1
  have f5 := FrK.row P4 (r := 11) (k := c * 20 + r) (v := 0) (by omega)
  obtain ⟨ω5, w5⟩ : ∃ w, w = am_put ω4 (p + 11) (c * 20 + r) 0 := ⟨_, rfl⟩
  rw [← w5] at f5
  have P5 := P4.dc f5.1
  have f05 := (((f1.tr f2).tr f3).tr f4).tr f5
  have I5 := f05.inv h p72
  obtain ⟨en5, eT5, eC5, eK5⟩ := pa.kp hi (f05.lo p72)
  obtain ⟨ω6, r6, f6, o6, wr6⟩ := c_chartChange I5 P5 hi (x := 1) (c := c) (r := r) (Or.inl rfl) (by rw [en5]; exact hc) (by rw [eT5]; exact hr)
  have P6 := P5.dc f6.1
  have f06 := f05.tr f6
  have I6 := f06.inv h p72
  obtain ⟨en6, eT6, eC6, eK6⟩ := pa.kp hi (f06.lo p72)
  obtain ⟨ω7, r7, f7, o7, wr7⟩ := c_chartChange I6 P6 hi (x := 2) (c := c) (r := r) (Or.inr rfl) (by rw [en6]; exact hc) (by rw [eT6]; exact hr)
  rw [en5, eT5, eC5, eK5] at wr6
  rw [en6, eT6, eC6, eK6] at wr7
  have r6' : am_run (11, 0) 0 ([some (.inr (.inr ((p : Int)))), some (.inr (.inr (1 + 4 + (i : Int)))), some (.inl 1), some (.inl ((c : Int))), some (.inl ((r : Int))), none, none, none], [], ω5) = some (none, ω6) := r6
  have r7' : am_run (11, 0) 0 ([some (.inr (.inr ((p : Int)))), some (.inr (.inr (1 + 4 + (i : Int)))), some (.inl 2), some (.inl ((c : Int))), some (.inl ((r : Int))), none, none, none], [], ω6) = some (none, ω7) := r7
  have Q3 := pX1_chart_98 (p : Int) (1 + 4 + (i : Int)) c (T c) r ((c * 20 + r : Nat) : Int) ω4 (pl_is P4)
  simp only [am_bi_s, am_bl_s, am_ba_s, am_bv_s, Int.toNat_zero, Int.reduceToNat, Int.toNat_natCast, if_true, if_false, not_true, not_false_eq_true, Int.reduceEq, Int.reduceLT, Int.reduceLE, pl_5 P4, pl_ina3 P4 (Or.inr (Or.inr rfl)) z0 z3, p0 P4, pl_row P4 (r := 11) (by omega) qi0 qi1, ← w5, r6', pl_is P6, r7', (A ()).1] at Q3
  refine ⟨ω7, Q.trans (Q2.trans Q3), f06.tr f7, S + 1, by omega, ?_, ?_, ?_, ?_⟩
  · rw [o7 _ _ (by omega), o6 _ _ (by omega), w5, gp_cell (by omega), w4, gp_cell (by omega), w3, gp_cell (by omega), w2, gp_same]
  · have en : ∀ i, am_get ω7 (p + 1) i = if i = S then ((c * 20 + r : Nat) : Int) else am_get ω (p + 1) i := fun i => by
      rw [o7 _ _ (by omega), o6 _ _ (by omega), w5, gp_cell (by omega), w4, gp_cell (by omega), w3, gp_cell (by omega), w2, gp_cell (by omega), w1]
      by_cases z : i = S
      · rw [z, gp_same, if_pos rfl]
      · rw [gp_place z, if_neg z]
    intro i hi
    rw [en]
    by_cases z : i = S
    · rw [if_pos z]; exact ⟨_, hq, by omega, rfl⟩
    · rw [if_neg z]
      obtain ⟨q, y1, y2, y3⟩ := s3 i (by omega)
      exact ⟨q, y1, by omega, y3⟩
  · have en : ∀ i, am_get ω7 (p + 1) i = if i = S then ((c * 20 + r : Nat) : Int) else am_get ω (p + 1) i := fun i => by
      rw [o7 _ _ (by omega), o6 _ _ (by omega), w5, gp_cell (by omega), w4, gp_cell (by omega), w3, gp_cell (by omega), w2, gp_cell (by omega), w1]
      by_cases z : i = S
      · rw [z, gp_same, if_pos rfl]
      · rw [gp_place z, if_neg z]
    intro q hq' hD
    by_cases z : q = c * 20 + r
    · exact ⟨S, by omega, by rw [en, if_pos rfl, z]⟩
    · obtain ⟨i, y1, y2⟩ := s4 q hq' (by omega)
      exact ⟨i, by omega, by rw [en, if_neg (by omega)]; exact y2⟩
  · intro q hq' hD x hx
    by_cases z : q = c * 20 + r
    · subst z
      rcases (show x = 0 ∨ x = 1 ∨ x = 2 by omega) with rfl | rfl | rfl
      · refine ⟨fun _ => ⟨?_, ?_, ?_⟩, fun y => absurd (Or.inl rfl) y⟩
        · have ch := chI (C := C) on.2 oT (by rw [← eC]; exact oC) hq' (k := K) (x := 0) (Or.inl rfl)
          rw [o7 _ _ (by omega), o6 _ _ (by omega), w5, gp_cell (by omega), w4, gp_cell (by omega), w3]
          exact gp_same.trans (by unfold ctg; omega)
        · rw [o7 _ _ (by omega), o6 _ _ (by omega), w5, gp_cell (by omega), w4]
          exact gp_same
        · rw [o7 _ _ (by omega), o6 _ _ (by omega), w5]
          exact gp_same
      · exact wr6.kp (o7 _ _ (by omega)) (o7 _ _ (by omega)) (o7 _ _ (by omega))
      · exact wr7
    · have o : ∀ a, p + 2 ≤ a → am_get ω7 a q = am_get ω a q := fun a ha => by
        rw [o7 _ _ (by omega), o6 _ _ (by omega), w5, gp_place z, w4, gp_place z, w3, gp_place z, w2, gp_cell (by omega), w1, gp_cell (by omega)]
      exact (s5 q hq' (by omega) x hx).kp (o _ (by omega)) (o _ (by omega)) (o _ (by omega))
end ST
end K57
