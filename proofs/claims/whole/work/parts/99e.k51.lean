/-! ===== the planner spreads ===== -/
section K51
variable {ω : am_W}
/-- the chart is written down -/
def Chw (ω : am_W) (p : Nat) (vd : Nat → Prop) (ok : Nat → Nat → Prop) (tg ln pc : Nat → Nat → Nat) : Prop := (∃ S : Nat, S ≤ 120 ∧ am_get ω p 2 = (S : Int) ∧ (∀ i, i < S → ∃ q : Nat, vd q ∧ am_get ω (p + 1) i = (q : Int)) ∧ ∀ q : Nat, vd q → ∃ i, i < S ∧ am_get ω (p + 1) i = (q : Int)) ∧ ∀ q, vd q → ∀ x, x < 3 → (ok x q → am_get ω (p + 3 + x) q = (tg x q : Int) ∧ am_get ω (p + 7 + x) q = (ln x q : Int) ∧ am_get ω (p + 11 + x) q = (pc x q : Int)) ∧ (¬ ok x q → am_get ω (p + 3 + x) q = -1)
theorem Chw.kp {ω' : am_W} {p : Nat} {vd : Nat → Prop} {ok : Nat → Nat → Prop} {tg ln pc : Nat → Nat → Nat} (h : Chw ω p vd ok tg ln pc) (e : ∀ a k, (a = p ∧ k = 2) ∨ (p + 1 ≤ a ∧ a < p + 14) → am_get ω' a k = am_get ω a k) : Chw ω' p vd ok tg ln pc := by
  obtain ⟨⟨S, s1, s2, s3, s4⟩, c⟩ := h
  refine ⟨⟨S, s1, (e _ _ (Or.inl ⟨rfl, rfl⟩)).trans s2, fun i hi => ?_, fun q hq => ?_⟩, fun q hq x hx => ?_⟩
  · obtain ⟨q, z1, z2⟩ := s3 i hi
    exact ⟨q, z1, (e _ _ (Or.inr (by omega))).trans z2⟩
  · obtain ⟨i, z1, z2⟩ := s4 q hq
    exact ⟨i, z1, (e _ _ (Or.inr (by omega))).trans z2⟩
  · obtain ⟨z1, z2⟩ := c q hq x hx
    rw [e _ _ (Or.inr (by omega)), e _ _ (Or.inr (by omega)), e _ _ (Or.inr (by omega))]
    exact ⟨z1, z2⟩
theorem c_slot {t : Nat} (ht : t ≤ 1000) : am_run (21, 0) 0 ([some (.inl ((t : Int)))], [], ω) = some (some (.inl ((t % 11 * 120 : Nat) : Int)), ω) := by
  rw [pX1_slotOf_0, if_neg (by omega), Int.tmod_eq_emod_of_nonneg (by omega), am_w_s (by omega) (by omega)]
  congr 4
theorem mi2_l {a b : Int} : mi2 a b ≤ a ∧ mi2 a b ≤ b ∧ (mi2 a b = a ∨ mi2 a b = b) := by
  unfold mi2
  by_cases g : b < a
  · rw [if_pos g]; exact ⟨by omega, by omega, Or.inr rfl⟩
  · rw [if_neg g]; exact ⟨by omega, by omega, Or.inl rfl⟩
theorem ix_lt {a t : Nat} (h : t < 120) : a % 11 * 120 + t < 1320 := by
  have := Nat.mod_lt a (show 0 < 11 by omega)
  omega
section SP
variable {vd : Nat → Prop} {ok : Nat → Nat → Prop} {tg ln pc : Nat → Nat → Nat} {p step q m d : Nat} {L : Int}
/-- what spreading by the codes below x has done to a row -/
def SpR (ok : Nat → Nat → Prop) (tg ln pc : Nat → Nat → Nat) (p step q m d : Nat) (L : Int) (ω : am_W) (x : Nat) (ω' : am_W) : Prop := Dc ω ω' ∧ (∀ a k, a ≠ p + 15 + m → am_get ω' a k = am_get ω a k) ∧ (∀ k, am_get ω' (p + 15 + m) k ≤ am_get ω (p + 15 + m) k) ∧ (∀ k, am_get ω' (p + 15 + m) k = am_get ω (p + 15 + m) k ∨ ∃ y, y < x ∧ ok y q ∧ ((d + pc y q : Nat) : Int) ≤ L ∧ k = (step + ln y q) % 11 * 120 + tg y q ∧ am_get ω' (p + 15 + m) k = ((d + pc y q : Nat) : Int)) ∧ ∀ y, y < x → ok y q → ((d + pc y q : Nat) : Int) ≤ L → am_get ω' (p + 15 + m) ((step + ln y q) % 11 * 120 + tg y q) ≤ ((d + pc y q : Nat) : Int)
theorem c_spread (hP : Pls ω p) (hw : Chw ω p vd ok tg ln pc) (hc : Cht vd ok tg ln pc) (hq : vd q) (hm : m < 7) (hd : d ≤ 1000) (hs : step ≤ 100) (hL : am_get ω p 12 = L) : ∃ ω', am_run (16, 0) 0 ([some (.inr (.inr ((p : Int)))), some (.inl ((step : Int))), some (.inl ((q : Int))), some (.inl ((m : Int))), some (.inl ((d : Int))), none, none, none, none], [], ω) = some (none, ω') ∧ SpR ok tg ln pc p step q m d L ω 3 ω' := by
  obtain ⟨q120, _, c3⟩ := hc q hq
  have key : ∀ k x : Nat, x + k = 3 → ∀ ω1 (o6 o7 o8 : Option am_V), SpR ok tg ln pc p step q m d L ω x ω1 → ∃ ω', am_run (16, 0) 3 ([some (.inr (.inr ((p : Int)))), some (.inl ((step : Int))), some (.inl ((q : Int))), some (.inl ((m : Int))), some (.inl ((d : Int))), some (.inl ((x : Int))), o6, o7, o8], [], ω1) = some (none, ω') ∧ SpR ok tg ln pc p step q m d L ω 3 ω' := by
    intro k
    induction k with
    | zero =>
      intro x hx ω1 o6 o7 o8 S
      obtain rfl : x = 3 := by omega
      exact ⟨ω1, by rw [pX1_spread_3 _ _ _ _ _ _ _ _ _ _ (pl_is (hP.dc S.1)), if_pos (by omega)], S⟩
    | succ k ih =>
      intro x hx ω1 o6 o7 o8 S
      have x3 : x < 3 := by omega
      have x1 : am_w ((x : Int) + 1) = ((x + 1 : Nat) : Int) := (am_w_s (by omega) (by omega)).trans (by omega)
      obtain ⟨s0, s1, s2, s3, s4⟩ := id S
      have P1 := hP.dc s0
      have L1 : am_get ω1 p 12 = L := (s1 p 12 (by omega)).trans hL
      have cx := hw.2 q hq x x3
      rw [← s1 (p + 3 + x) q (by omega), ← s1 (p + 7 + x) q (by omega), ← s1 (p + 11 + x) q (by omega)] at cx
      have Q := pX1_spread_3 (p : Int) step q m d x o6 o7 o8 ω1 (pl_is P1)
      rw [if_neg (by omega)] at Q
      simp only [am_bi_s, am_bl_s, am_ba_s, am_bv_s, Int.toNat_zero, Int.reduceToNat, Int.toNat_natCast, if_true, if_false, not_true, not_false_eq_true, Int.reduceEq, Int.reduceLT, Int.reduceLE, pl_3 P1, pl_4 P1, pl_5 P1, pl_ina3 P1 (Or.inl rfl) (i := (x : Int)) (by omega) (by omega), pl_ina3 P1 (Or.inr (Or.inl rfl)) (i := (x : Int)) (by omega) (by omega), pl_ina3 P1 (Or.inr (Or.inr rfl)) (i := (x : Int)) (by omega) (by omega), pl_t P1 x3, pl_l P1 x3, pl_p P1 x3] at Q
      rw [show p + 3 + x = p + (3 + x) by omega, show p + 11 + x = p + (11 + x) by omega, show p + 7 + x = p + (7 + x) by omega] at Q cx
      simp only [pl_row P1 (r := 3 + x) (by omega) (i := (q : Int)) (by omega) (by omega), pl_row P1 (r := 11 + x) (by omega) (i := (q : Int)) (by omega) (by omega), pl_row P1 (r := 7 + x) (by omega) (i := (q : Int)) (by omega) (by omega), if_true, x1] at Q
      by_cases gok : ok x q
      · obtain ⟨t1, t2, t3⟩ := cx.1 gok
        obtain ⟨y1, y2, y3, y4⟩ := c3 x x3 gok
        have tq := (hc _ y1).1
        have sm' : am_w ((d : Int) + (pc x q : Int)) = ((d + pc x q : Nat) : Int) := (am_w_s (by omega) (by omega)).trans (by omega)
        rw [t1, t2, t3, sm', if_neg (by omega), L1] at Q
        by_cases gL : L < ((d + pc x q : Nat) : Int)
        · rw [if_pos gL] at Q
          obtain ⟨ω', r, S'⟩ := ih (x + 1) (by omega) ω1 _ _ _ ⟨s0, s1, s2, fun k => (s3 k).imp id (fun ⟨y, z1, z2⟩ => ⟨y, by omega, z2⟩), fun y hy hok hyL => by
            by_cases e : y = x
            · subst e; exact absurd hyL (Int.not_le.mpr gL)
            · exact s4 y (by omega) hok hyL⟩
          exact ⟨ω', Q.trans r, S'⟩
        · rw [if_neg gL, show am_w ((step : Int) + (ln x q : Int)) = ((step + ln x q : Nat) : Int) from (am_w_s (by omega) (by omega)).trans (by omega), bi_v (c_slot (by omega))] at Q
          have ix : am_w ((((step + ln x q) % 11 * 120 : Nat) : Int) + (tg x q : Int)) = (((step + ln x q) % 11 * 120 + tg x q : Nat) : Int) := (am_w_s (by omega) (by omega)).trans (by omega)
          simp only [am_bi_s, am_bl_s, am_ba_s, am_bv_s, Int.toNat_zero, Int.reduceToNat, Int.toNat_natCast, if_true, if_false, not_true, not_false_eq_true, Int.reduceEq, Int.reduceLT, Int.reduceLE, pl_is P1, pl_6 P1, pl_ina7 P1 (i := (m : Int)) (by omega) (by omega), pl_r P1 hm, ix, pl_ring P1 hm (i := (((step + ln x q) % 11 * 120 + tg x q : Nat) : Int)) (Int.natCast_nonneg _) (Int.ofNat_lt.mpr (ix_lt tq)), j_min] at Q
          have dc2 := pl_dc P1 (r := 15 + m) (k := (step + ln x q) % 11 * 120 + tg x q) (v := mi2 ((d + pc x q : Nat) : Int) (am_get ω1 (p + 15 + m) ((step + ln x q) % 11 * 120 + tg x q))) (by omega)
          rw [← Nat.add_assoc] at dc2
          have ml := mi2_l (a := ((d + pc x q : Nat) : Int)) (b := am_get ω1 (p + 15 + m) ((step + ln x q) % 11 * 120 + tg x q))
          have S1 : SpR ok tg ln pc p step q m d L ω (x + 1) (am_put ω1 (p + 15 + m) ((step + ln x q) % 11 * 120 + tg x q) (mi2 ((d + pc x q : Nat) : Int) (am_get ω1 (p + 15 + m) ((step + ln x q) % 11 * 120 + tg x q)))) := by
            refine ⟨s0.tr dc2, fun a k ha => (gp_cell ha).trans (s1 a k ha), fun k => ?_, fun k => ?_, fun y hy hok hyL => ?_⟩
            · by_cases e : k = (step + ln x q) % 11 * 120 + tg x q
              · rw [e, gp_same]; exact Int.le_trans ml.2.1 (s2 _)
              · rw [gp_place e]; exact s2 k
            · by_cases e : k = (step + ln x q) % 11 * 120 + tg x q
              · rw [e, gp_same]
                rcases ml.2.2 with z | z
                · right
                  exact ⟨x, by omega, gok, Int.not_lt.mp gL, rfl, z⟩
                · rw [z]
                  exact (s3 _).imp id (fun ⟨y, z1, z2⟩ => ⟨y, by omega, z2⟩)
              · rw [gp_place e]
                exact (s3 k).imp id (fun ⟨y, z1, z2⟩ => ⟨y, by omega, z2⟩)
            · by_cases e : (step + ln y q) % 11 * 120 + tg y q = (step + ln x q) % 11 * 120 + tg x q
              · rw [e, gp_same]
                by_cases e2 : y = x
                · rw [e2]; exact ml.1
                · have := s4 y (by omega) hok hyL
                  rw [e] at this
                  exact Int.le_trans ml.2.1 this
              · rw [gp_place e]
                by_cases e2 : y = x
                · exact absurd (by rw [e2]) e
                · exact s4 y (by omega) hok hyL
          obtain ⟨ω', r, S'⟩ := ih (x + 1) (by omega) _ _ _ _ S1
          exact ⟨ω', Q.trans r, S'⟩
      · rw [cx.2 gok, if_pos rfl] at Q
        obtain ⟨ω', r, S'⟩ := ih (x + 1) (by omega) ω1 _ _ _ ⟨s0, s1, s2, fun k => (s3 k).imp id (fun ⟨y, z1, z2⟩ => ⟨y, by omega, z2⟩), fun y hy hok hyL => by
          by_cases e : y = x
          · exact absurd (e ▸ hok) gok
          · exact s4 y (by omega) hok hyL⟩
        exact ⟨ω', Q.trans r, S'⟩
  obtain ⟨ω', r, S'⟩ := key 3 0 (by omega) ω none none none ⟨Dc.rf ω, fun _ _ _ => rfl, fun _ => Int.le_refl _, fun _ => Or.inl rfl, fun y hy => by omega⟩
  exact ⟨ω', (pX1_spread_0 (p : Int) step q m d ω).trans r, S'⟩
end SP
end K51
