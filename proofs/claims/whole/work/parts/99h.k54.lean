/-! ===== the planner visits a step: the whole of it ===== -/
section K54
variable {ω : am_W}
/-- what a visit with its members leaves as it was -/
def FrW (p : Nat) (ω ω' : am_W) : Prop := Dc ω ω' ∧ ∀ a k, ¬ (a = p ∧ (k = 12 ∨ k = 13 ∨ k = 14)) → ¬ (p + 15 ≤ a ∧ a < p + 22) → a ≠ p + 24 → am_get ω' a k = am_get ω a k
theorem FrW.rf {p : Nat} : FrW p ω ω := ⟨Dc.rf ω, fun _ _ _ _ _ => rfl⟩
theorem FrW.tr {p : Nat} {ω1 ω2 : am_W} (h : FrW p ω ω1) (g : FrW p ω1 ω2) : FrW p ω ω2 := ⟨h.1.tr g.1, fun a k h1 h2 h3 => (g.2 a k h1 h2 h3).trans (h.2 a k h1 h2 h3)⟩
theorem FrW.inv {p : Nat} {ω' : am_W} (h : Inv ω) (hp : 72 ≤ p) (g : FrW p ω ω') : Inv ω' := inv_scr h g.1 (fun a k z => g.2 a k (fun y => z (by unfold Sc; omega)) (fun y => z (by unfold Sc; omega)) (fun y => z (by unfold Sc; omega)))
/-- a member's spot at a step -/
def mS (ω : am_W) (mem : Nat → Nat) (step k : Nat) : Int := spF (cT ω 1) (cV ω 1 (mem k)) (step : Int)
theorem c_members (h : Inv ω) {p : Nat} (hP : Pls ω p) {step M : Nat} (hs : step ≤ 100) (h10 : am_get ω p 10 = (M : Int)) (hM : M ≤ 3) (mem : Nat → Nat) (hmem : ∀ k, k < M → am_get ω (p + 23) k = (mem k : Int) ∧ (mem k : Int) < am_get ω 1 3) : ∃ ω1, am_run (13, 0) 0 ([some (.inr (.inr ((p : Int)))), some (.inl ((step : Int))), none, none, none, none, none], [], ω) = am_run (13, 0) 51 ([some (.inr (.inr ((p : Int)))), some (.inl ((step : Int))), some (.inl (((step % 11 * 120 : Nat) : Int))), some (.inl 0), none, none, none], [], ω1) ∧ Dc ω ω1 ∧ (∀ a k, a ≠ p + 24 → am_get ω1 a k = am_get ω a k) ∧ ∀ k, k < M → am_get ω1 (p + 24) k = mS ω mem step k := by
  have p72 := hP.1
  have O := h.2.2.1
  have key : ∀ n i : Nat, i + n = M → ∀ ω1, Dc ω ω1 → (∀ a k, a ≠ p + 24 → am_get ω1 a k = am_get ω a k) → (∀ k, k < i → am_get ω1 (p + 24) k = mS ω mem step k) → ∃ ω2, am_run (13, 0) 2 ([some (.inr (.inr ((p : Int)))), some (.inl ((step : Int))), some (.inl ((i : Int))), none, none, none, none], [], ω1) = am_run (13, 0) 51 ([some (.inr (.inr ((p : Int)))), some (.inl ((step : Int))), some (.inl (((step % 11 * 120 : Nat) : Int))), some (.inl 0), none, none, none], [], ω2) ∧ Dc ω ω2 ∧ (∀ a k, a ≠ p + 24 → am_get ω2 a k = am_get ω a k) ∧ ∀ k, k < M → am_get ω2 (p + 24) k = mS ω mem step k := by
    intro n
    induction n with
    | zero =>
      intro i hi ω1 d o e
      obtain rfl : i = M := by omega
      have P1 := hP.dc d
      refine ⟨ω1, ?_, d, o, e⟩
      have i1 : am_is ω1 (am_get ω1 p 0) (5, 8) = true := by rw [pl_0 P1]; exact i_1 (h.1.dc d)
      rw [pX1_visit_2 _ _ _ _ _ _ _ _ (pl_is P1) (by rw [Int.toNat_natCast]; exact i1), Int.toNat_natCast, o p 10 (by omega), h10, if_pos (Int.le_refl _), bi_v (c_slot (by omega))]
    | succ n ih =>
      intro i hi ω1 d o e
      have P1 := hP.dc d
      have B1 := h.1.dc d
      have iM : i < M := by omega
      have ii1 : i + 1 + n = M := by omega
      have i3 : (i : Int) < 3 := by omega
      obtain ⟨m1, m2⟩ := hmem i iM
      have k6 := O.2.1
      have m6 : mem i < 6 := by
        have : (mem i : Int) < ω.2.1 1 3 := m2
        omega
      have m6i : (mem i : Int) < 6 := by omega
      have i1 : am_is ω1 (am_get ω1 p 0) (5, 8) = true := by rw [pl_0 P1]; exact i_1 B1
      have n10 : ¬ (M : Int) ≤ (i : Int) := by omega
      have ii : am_w ((i : Int) + 1) = ((i + 1 : Nat) : Int) := (am_w_s (by omega) (by omega)).trans (by omega)
      have Q := pX1_visit_2 (p : Int) step i none none none none ω1 (pl_is P1) (by rw [Int.toNat_natCast]; exact i1)
      have eT : cT ω1 1 = cT ω 1 := funext fun j => o _ _ (by show (1 + 1 : Int).toNat ≠ _; omega)
      have eV : ∀ i : Nat, i < 6 → am_get ω1 (1 + 4 + (i : Int)).toNat = cV ω 1 i := fun i hi => funext fun j => o _ _ (by omega)
      have Om := O.2.2.2.2.1 (mem i) m2
      have en : cn ω1 1 = cn ω 1 := o _ _ (by show (1 : Int).toNat ≠ _; omega)
      have sb := c_spotBehind (W := 1) B1 (Or.inl rfl) (by rw [en]; exact O.1.2) (by rw [eT]; exact fun j hj => O.2.2.1 j hj) (v := 1 + 4 + (mem i : Int)) (is_V B1 (Or.inl rfl) m6) (by rw [eV _ m6, eT, en]; unfold cV; rw [show ((1 : Int) + 4 + (mem i : Int)).toNat = 1 + 4 + mem i by omega]; exact Om) (t := (step : Int)) ⟨by omega, by omega⟩
      have q8 : am_get ω1 (p + 23) i = (mem i : Int) := (o _ _ (by omega)).trans m1
      have w1 : am_get ω1 1 4 = 4 := w_S B1 (W := 1) (Or.inl rfl)
      have w2 : am_ina ω1 4 (mem i : Int) = true := ina_S B1 (W := 1) (Or.inl rfl) (i := (mem i : Int)) (Int.natCast_nonneg _) m6i
      have w3 : am_get ω1 4 (mem i) = 1 + 4 + (mem i : Int) := w_V B1 (W := 1) (Or.inl rfl) m6
      simp only [am_bi_s, am_bl_s, am_ba_s, am_bv_s, Int.toNat_zero, Int.reduceToNat, Int.toNat_natCast, if_true, if_false, not_true, not_false_eq_true, Int.reduceEq, Int.reduceLT, Int.reduceLE, o p 10 (by omega), h10, if_neg n10, pl_8 P1, pl_mem P1 (i := (i : Int)) (Int.natCast_nonneg _) i3, q8, pl_0 P1, w1, w2, w3, sb, pl_9 P1, pl_msp P1 (i := (i : Int)) (Int.natCast_nonneg _) i3, ii] at Q
      have dd := pl_dc P1 (r := 24) (k := i) (v := spF (cT ω1 1) (am_get ω1 (1 + 4 + (mem i : Int)).toNat) (step : Int)) (by omega)
      obtain ⟨ω2, r, rest⟩ := ih (i + 1) ii1 _ (d.tr dd) (fun a k ha => (gp_cell ha).trans (o a k ha)) (fun k hk => by
        by_cases z : k = i
        · rw [z, gp_same, eT, eV _ m6]; rfl
        · rw [gp_place z]; exact e k (Nat.lt_of_le_of_ne (Nat.le_of_lt_succ hk) z))
      exact ⟨ω2, Q.trans r, rest⟩
  obtain ⟨ω2, r, rest⟩ := key M 0 (by omega) ω (Dc.rf ω) (fun _ _ _ => rfl) (fun k hk => by omega)
  exact ⟨ω2, (pX1_visit_0 (p : Int) step ω).trans r, rest⟩
section VO
variable {vd : Nat → Prop} {ok : Nat → Nat → Prop} {tg ln pc : Nat → Nat → Nat} {hr : Nat → Nat → Nat → Nat} {q0 b0 p step M W : Nat}
theorem c_visit_out (hP0 : Pls ω p) (hw0 : Chw ω p vd ok tg ln pc) (hc : Cht vd ok tg ln pc) (hv : vd q0) (hb0 : b0 ≤ 10) (hs : step ≤ 60) (h10 : am_get ω p 10 = (M : Int)) (hM : M ≤ 3) (h11 : am_get ω p 11 = (W : Int)) (hW7 : W ≤ 7) (msp : Nat → Int) (hms : ∀ k, k < M → am_get ω (p + 24) k = msp k) (hhr : ∀ q m, hr step q m = orN (fun k => msp k = (q : Int)) M m) (hW : ∀ t q m, m ≤ W → hr t q m ≤ W) {L0 f0 g0 : Int} (hL0 : L0 < 1000000) (ri : RI vd ok tg ln pc hr q0 b0 W step (fun m k => am_get ω (p + 15 + m) k) L0) : ∀ n m : Nat, m + n = W → ∀ ω1 (o4 o5 o6 : Option am_V), FrP p ω ω1 → RJ vd ok tg ln pc hr q0 b0 W step (fun m k => am_get ω (p + 15 + m) k) L0 (fun m' _ => m' < m) (fun m k => am_get ω1 (p + 15 + m) k) (am_get ω1 p 12) → LF ok tg ln pc hr q0 b0 W p step L0 f0 g0 ω1 → ∃ ω2 : am_W, am_run (13, 0) 51 ([some (.inr (.inr ((p : Int)))), some (.inl ((step : Int))), some (.inl (((step % 11 * 120 : Nat) : Int))), some (.inl ((m : Int))), o4, o5, o6], [], ω1) = some (none, ω2) ∧ FrP p ω ω2 ∧ RJ vd ok tg ln pc hr q0 b0 W step (fun m k => am_get ω (p + 15 + m) k) L0 (fun _ _ => True) (fun m k => am_get ω2 (p + 15 + m) k) (am_get ω2 p 12) ∧ LF ok tg ln pc hr q0 b0 W p step L0 f0 g0 ω2 := by
  obtain ⟨S, s1, s2⟩ : ∃ S : Nat, S ≤ 120 ∧ am_get ω p 2 = (S : Int) := by
    obtain ⟨⟨S, s1, s2, _⟩, _⟩ := hw0
    exact ⟨S, s1, s2⟩
  intro n
  induction n with
  | zero =>
    intro m hm ω1 o4 o5 o6 F J lf
    obtain rfl : m = W := by omega
    have P1 := hP0.dc F.1
    have e11 : am_get ω1 p 11 = (m : Int) := (F.2 _ _ (by omega) (by omega)).trans h11
    refine ⟨ω1, ?_, F, rj_pr (fun m' q' hm' hq' => ⟨fun _ => trivial, fun _ => hm'⟩) J, lf⟩
    rw [pX1_visit_51 _ _ _ _ _ _ _ _ (pl_is P1), Int.toNat_natCast, e11, if_pos (Int.le_refl _)]
  | succ n ih =>
    intro m hm ω1 o4 o5 o6 F J lf
    have mW : m < W := by omega
    have a1 : ¬ (W : Int) ≤ (m : Int) := by omega
    have a2 : ¬ (7 : Int) ≤ (m : Int) := by omega
    have m1 : m + 1 + n = W := by omega
    have P1 := hP0.dc F.1
    have e11 : am_get ω1 p 11 = (W : Int) := (F.2 _ _ (by omega) (by omega)).trans h11
    have Q := pX1_visit_51 (p : Int) step ((step % 11 * 120 : Nat) : Int) m o4 o5 o6 ω1 (pl_is P1)
    rw [Int.toNat_natCast, e11, if_neg a1, if_neg a2] at Q
    obtain ⟨ω2, o4', o5', o6', r, F2, J2, lf2⟩ := c_visit_in hP0 hw0 hc hv hb0 hs h10 hM h11 hW7 msp hms hhr hW hL0 ri S m 0 mW ⟨S, s2, Nat.zero_add S, s1⟩ ω1 o5 o6 F (rj_pr (fun m' q' hm' hq' => ⟨fun z => Or.inl z, fun z => z.elim id (fun ⟨_, i', y, _⟩ => absurd y (Nat.not_lt_zero _))⟩) J) lf
    obtain ⟨ω3, r3, rest⟩ := ih (m + 1) m1 ω2 o4' o5' o6' F2 J2 lf2
    exact ⟨ω3, Q.trans (r.trans r3), rest⟩
theorem c_visit (h : Inv ω) (hP0 : Pls ω p) (hw0 : Chw ω p vd ok tg ln pc) (hc : Cht vd ok tg ln pc) (hv : vd q0) (hb0 : b0 ≤ 10) (hs : step ≤ 60) (h10 : am_get ω p 10 = (M : Int)) (hM : M ≤ 3) (h11 : am_get ω p 11 = (W : Int)) (hW7 : W ≤ 7) (mem : Nat → Nat) (hmem : ∀ k, k < M → am_get ω (p + 23) k = (mem k : Int) ∧ (mem k : Int) < am_get ω 1 3) (hhr : ∀ q m, hr step q m = orN (fun k => mS ω mem step k = (q : Int)) M m) (hW : ∀ t q m, m ≤ W → hr t q m ≤ W) (hL0 : am_get ω p 12 < 1000000) (ri : RI vd ok tg ln pc hr q0 b0 W step (fun m k => am_get ω (p + 15 + m) k) (am_get ω p 12)) : ∃ ω2 : am_W, am_run (13, 0) 0 ([some (.inr (.inr ((p : Int)))), some (.inl ((step : Int))), none, none, none, none, none], [], ω) = some (none, ω2) ∧ FrW p ω ω2 ∧ RI vd ok tg ln pc hr q0 b0 W (step + 1) (fun m k => am_get ω2 (p + 15 + m) k) (am_get ω2 p 12) ∧ LF ok tg ln pc hr q0 b0 W p step (am_get ω p 12) (am_get ω p 13) (am_get ω p 14) ω2 ∧ am_get ω2 p 12 ≤ am_get ω p 12 ∧ ∀ d : Nat, Win ok tg ln pc hr q0 b0 W step d → (d : Int) ≤ am_get ω2 p 12 → False := by
  obtain ⟨ω1, r1, d1, o1, m1⟩ := c_members h hP0 (step := step) (by omega) h10 hM mem hmem
  have P1 := hP0.dc d1
  have er : (fun m k => am_get ω1 (p + 15 + m) k : Nat → Nat → Int) = fun m k => if m = 9 then am_get ω1 (p + 24) k else am_get ω (p + 15 + m) k := by
    funext m k
    by_cases z : m = 9
    · rw [if_pos z, z]
    · rw [if_neg z]; exact o1 _ _ (by omega)
  have e12 := o1 p 12 (by omega)
  have W9 : ∀ m, m < W → m ≠ 9 := fun m hm => by omega
  have ri1 : RI vd ok tg ln pc hr q0 b0 W step (fun m k => am_get ω1 (p + 15 + m) k) (am_get ω1 p 12) := by
    rw [e12]
    have o2 : ∀ m k, m < W → am_get ω1 (p + 15 + m) k = am_get ω (p + 15 + m) k := fun m k hm => o1 _ _ (by have := W9 m hm; clear ri; omega)
    refine ⟨fun m hm b hb q hq => ?_, fun q b m d hp hd => ?_⟩
    · show am_get ω1 (p + 15 + m) _ = _ ∨ ∃ d : Nat, am_get ω1 (p + 15 + m) _ = _ ∧ _
      rw [o2 m _ hm]; exact ri.1 m hm b hb q hq
    · obtain ⟨x1, x2⟩ := ri.2 q b m d hp hd
      refine ⟨x1, ?_⟩
      show am_get ω1 (p + 15 + m) _ ≤ _
      rw [o2 m _ x1]; exact x2
  have j1 := rj_0 (fun q b m d z => (P_v hc hv hb0 _ _ _ _ _ z).2.1) ri1
  obtain ⟨ω2, r2, F2, J2, lf2⟩ := c_visit_out (ω := ω1) P1 (hw0.kp (fun a k z => o1 a k (by omega))) hc hv hb0 hs ((o1 _ _ (by omega)).trans h10) hM ((o1 _ _ (by omega)).trans h11) hW7 (mS ω mem step) m1 hhr hW (f0 := am_get ω1 p 13) (g0 := am_get ω1 p 14) (by rw [e12]; exact hL0) ri1 W 0 (by omega) ω1 none none none FrP.rf (rj_pr (fun m' q' _ _ => ⟨fun z => z.elim, fun z => absurd z (Nat.not_lt_zero _)⟩) j1) (Or.inl ⟨rfl, rfl, rfl⟩)
  have J0 := J2.1
  rw [e12] at J0
  have L2 : am_get ω2 p 12 < 1000000 := Int.lt_of_le_of_lt J0 hL0
  refine ⟨ω2, r1.trans r2, ⟨d1.tr F2.1, fun a k y1 y2 y3 => (F2.2 a k y1 y2).trans (o1 a k y3)⟩, rj_end hc hv hb0 ri1 hW J2 L2, ?_, J0, ?_⟩
  · have e13 := o1 p 13 (by omega)
    have e14 := o1 p 14 (by omega)
    rw [e12, e13, e14] at lf2
    exact lf2
  · rintro d ⟨q, m, w1, w2⟩ hd
    have vq := (P_v hc hv hb0 _ _ _ _ _ w1).1
    obtain ⟨k1, k2⟩ := ri1.2 q 0 m d w1 (by rw [e12]; exact Int.le_trans hd J0)
    have k2' : am_get ω1 (p + 15 + m) (step % 11 * 120 + q) ≤ (d : Int) := k2
    have s0 : am_get ω1 (p + 15 + m) (step % 11 * 120 + q) = 1000000 ∨ ∃ d : Nat, am_get ω1 (p + 15 + m) (step % 11 * 120 + q) = (d : Int) ∧ Pth ok tg ln pc hr q0 b0 step q 0 m d := ri1.1 m k1 0 (Nat.zero_le _) q vq
    rcases s0 with z | ⟨d0, z1, z2⟩
    · rw [z] at k2'
      exact absurd (Int.lt_of_le_of_lt (Int.le_trans k2' hd) L2) (Int.lt_irrefl _)
    · rw [z1] at k2'
      have := (J2.2.2.2.2 m k1 q vq trivial d0 z1 (Int.le_trans k2' hd)).1
      rw [w2] at this
      exact absurd this (Nat.lt_irrefl _)
end VO
end K54
