/-! ===== the planner visits a step ===== -/
section K52
variable {ω : am_W}
noncomputable def orN (Q : Nat → Prop) : Nat → Nat → Nat
  | 0, m => m
  | k + 1, m => @ite _ (Q k) (Classical.propDecidable _) (orN Q k m ||| 2 ^ k) (orN Q k m)
theorem orN_y {Q : Nat → Prop} {k m : Nat} (h : Q k) : orN Q (k + 1) m = orN Q k m ||| 2 ^ k := @if_pos _ (Classical.propDecidable _) h _ _ _
theorem orN_n {Q : Nat → Prop} {k m : Nat} (h : ¬ Q k) : orN Q (k + 1) m = orN Q k m := @if_neg _ (Classical.propDecidable _) h _ _ _
theorem or_bit {x k : Nat} (hx : x < 8) (hk : k < 3) : am_or ((x : Nat) : Int) (am_shl 1 (k : Int)) = ((x ||| 2 ^ k : Nat) : Int) := by
  have : ∀ x : Nat, x < 8 → ∀ k : Nat, k < 3 → am_or ((x : Nat) : Int) (am_shl 1 (k : Int)) = ((x ||| 2 ^ k : Nat) : Int) := by decide +kernel
  exact this x hx k hk
theorem orN_8 {Q : Nat → Prop} {m : Nat} (hm : m < 8) : ∀ k, k ≤ 3 → orN Q k m < 8 := by
  intro k
  induction k with
  | zero => intro _; exact hm
  | succ k ih =>
    intro hk
    have := ih (by omega)
    by_cases g : Q k
    · rw [orN_y g]
      have e : ∀ x : Nat, x < 8 → ∀ k : Nat, k < 3 → x ||| 2 ^ k < 8 := by decide
      exact e _ this k (by omega)
    · rw [orN_n g]; exact this
def finS (ω : am_W) (p step d : Nat) : am_W := if am_get ω p 14 = -1 then am_put (am_put (am_put ω p 13 (d : Int)) p 12 ((d : Int) - 1)) p 14 (step : Int) else am_put (am_put ω p 13 (d : Int)) p 12 ((d : Int) - 1)
section AR
variable {vd : Nat → Prop} {ok : Nat → Nat → Prop} {tg ln pc : Nat → Nat → Nat} {p step q m d M W : Nat} {L : Int} {Q : Nat → Prop}
theorem c_arrive (hP : Pls ω p) (hw : Chw ω p vd ok tg ln pc) (hc : Cht vd ok tg ln pc) (hq : vd q) (hm : m < 7) (hd : d ≤ 1000) (hs : step ≤ 100) (hL : am_get ω p 12 = L) (h10 : am_get ω p 10 = (M : Int)) (hM : M ≤ 3) (h11 : am_get ω p 11 = (W : Int)) (hW : W ≤ 7) (hQ : ∀ k, k < M → (am_get ω (p + 24) k = (q : Int) ↔ Q k)) (hor : orN Q M m ≤ W) : ∃ ω', am_run (14, 0) 0 ([some (.inr (.inr ((p : Int)))), some (.inl ((step : Int))), some (.inl ((q : Int))), some (.inl ((m : Int))), some (.inl ((d : Int))), none, none], [], ω) = some (none, ω') ∧ ((L < (d : Int) ∧ ω' = ω) ∨ ((d : Int) ≤ L ∧ orN Q M m = W ∧ ω' = finS ω p step d) ∨ ((d : Int) ≤ L ∧ orN Q M m < W ∧ SpR ok tg ln pc p step q (orN Q M m) d L ω 3 ω')) := by
  have pre : ∀ n k : Nat, k + (n + 1) = M → (¬ (M : Int) ≤ (k : Int)) ∧ (0 : Int) ≤ (k : Int) ∧ (k : Int) < 3 ∧ k < 3 ∧ k ≤ 3 ∧ am_w ((k : Int) + 1) = ((k + 1 : Nat) : Int) ∧ k + 1 + n = M ∧ k < M := by
    clear hor
    intro n k hk
    exact ⟨by omega, by omega, by omega, by omega, by omega, (am_w_s (by omega) (by omega)).trans (by omega), by omega, by omega⟩
  have m8 : m < 8 := by clear hor; omega
  have dw : am_w ((d : Int) - 1) = (d : Int) - 1 := by clear hor; exact am_w_s (by omega) (by omega)
  have lt : ¬ orN Q M m = W → orN Q M m < W := fun z => Nat.lt_of_le_of_ne hor z
  have l7 : orN Q M m < W → orN Q M m < 7 := fun z => Nat.lt_of_lt_of_le z hW
  clear hor
  have q0 := pX1_arrive_0 (p : Int) step q m d ω (pl_is hP)
  rw [Int.toNat_natCast, hL] at q0
  by_cases gL : (d : Int) ≤ L
  · rw [if_pos gL] at q0
    have key : ∀ n k : Nat, k + n = M → am_run (14, 0) 16 ([some (.inr (.inr ((p : Int)))), some (.inl ((step : Int))), some (.inl ((q : Int))), some (.inl ((m : Int))), some (.inl ((d : Int))), some (.inl ((orN Q k m : Nat))), some (.inl ((k : Int)))], [], ω) = am_run (14, 0) 16 ([some (.inr (.inr ((p : Int)))), some (.inl ((step : Int))), some (.inl ((q : Int))), some (.inl ((m : Int))), some (.inl ((d : Int))), some (.inl ((orN Q M m : Nat))), some (.inl ((M : Int)))], [], ω) := by
      intro n
      induction n with
      | zero => intro k hk; obtain rfl : k = M := by omega
                rfl
      | succ n ih =>
        intro k hk
        obtain ⟨z1, z2, z3, z4, z5, k1, z7, z8⟩ := pre n k hk
        rw [← ih (k + 1) z7, pX1_arrive_16 _ _ _ _ _ _ _ _ (pl_is hP)]
        simp only [am_bi_s, am_bl_s, am_ba_s, am_bv_s, Int.toNat_zero, Int.reduceToNat, Int.toNat_natCast, if_true, if_false, not_true, not_false_eq_true, Int.reduceEq, Int.reduceLT, Int.reduceLE, h10, if_neg z1, pl_9 hP, pl_msp hP (i := (k : Int)) z2 z3, k1, or_bit (orN_8 (Q := Q) (m := m) m8 k z5) z4]
        by_cases g : Q k
        · rw [if_neg (fun z => z ((hQ k z8).mpr g)), orN_y g]
        · rw [if_pos (fun z => g ((hQ k z8).mp z)), orN_n g]
    have q1 := q0.trans (key M 0 (by omega))
    rw [pX1_arrive_16 _ _ _ _ _ _ _ _ (pl_is hP)] at q1
    simp only [am_bi_s, am_bl_s, am_ba_s, am_bv_s, Int.toNat_zero, Int.reduceToNat, Int.toNat_natCast, if_true, if_false, not_true, not_false_eq_true, Int.reduceEq, Int.reduceLT, Int.reduceLE, h10, h11, Int.le_refl] at q1
    by_cases g : orN Q M m = W
    · rw [g, if_neg (fun z => z rfl)] at q1
      have fi := pX1_finish_0 (p : Int) step d ω (pl_is hP)
      rw [Int.toNat_natCast, dw] at fi
      have e14 : am_get (am_put (am_put ω p 13 (d : Int)) p 12 ((d : Int) - 1)) p 14 = am_get ω p 14 := (gp_place (by omega)).trans (gp_place (by omega))
      rw [e14] at fi
      refine ⟨finS ω p step d, ?_, Or.inr (Or.inl ⟨gL, g, rfl⟩)⟩
      rw [q1]
      refine bv_v ?_
      rw [fi]
      unfold finS
      by_cases z : am_get ω p 14 = -1
      · rw [if_neg (fun y => y z), if_pos z]
      · rw [if_pos z, if_neg z]
    · rw [if_pos (show ¬ ((orN Q M m : Nat) : Int) = (W : Int) from fun z => g (Int.ofNat.inj z))] at q1
      obtain ⟨ω', r, S⟩ := c_spread hP hw hc hq (m := orN Q M m) (d := d) (l7 (lt g)) hd hs hL
      rw [bv_v r] at q1
      exact ⟨ω', q1, Or.inr (Or.inr ⟨gL, lt g, S⟩)⟩
  · rw [if_neg gL] at q0
    exact ⟨ω, q0, Or.inl ⟨Int.not_le.mp gL, rfl⟩⟩
/-- the limit, the fewest and the first, behind or while a step is visited -/
def LF (ok : Nat → Nat → Prop) (tg ln pc : Nat → Nat → Nat) (hr : Nat → Nat → Nat → Nat) (q0 b0 W p step : Nat) (L0 f0 g0 : Int) (ω : am_W) : Prop := (am_get ω p 12 = L0 ∧ am_get ω p 13 = f0 ∧ am_get ω p 14 = g0) ∨ ∃ f : Nat, am_get ω p 13 = (f : Int) ∧ am_get ω p 12 = (f : Int) - 1 ∧ (f : Int) ≤ L0 ∧ Win ok tg ln pc hr q0 b0 W step f ∧ am_get ω p 14 = if g0 = -1 then (step : Int) else g0
theorem rj_pr {hr : Nat → Nat → Nat → Nat} {q0 b0 : Nat} {R0 R : Nat → Nat → Int} {L0 : Int} {pr pr' : Nat → Nat → Prop} (e : ∀ m q, m < W → vd q → (pr m q ↔ pr' m q)) (j : RJ vd ok tg ln pc hr q0 b0 W step R0 L0 pr R L) : RJ vd ok tg ln pc hr q0 b0 W step R0 L0 pr' R L := by
  obtain ⟨j0, j1, j2, j3, j4⟩ := j
  refine ⟨j0, fun m hm q hq => ?_, j2, j3, fun m hm q hq z => j4 m hm q hq ((e m q hm hq).mpr z)⟩
  rw [← e m q hm hq]
  exact j1 m hm q hq
end AR
/-- what a visit leaves as it was -/
def FrP (p : Nat) (ω ω' : am_W) : Prop := Dc ω ω' ∧ ∀ a k, ¬ (a = p ∧ (k = 12 ∨ k = 13 ∨ k = 14)) → ¬ (p + 15 ≤ a ∧ a < p + 22) → am_get ω' a k = am_get ω a k
theorem FrP.rf {p : Nat} : FrP p ω ω := ⟨Dc.rf ω, fun _ _ _ _ => rfl⟩
theorem FrP.tr {p : Nat} {ω1 ω2 : am_W} (h : FrP p ω ω1) (g : FrP p ω1 ω2) : FrP p ω ω2 := ⟨h.1.tr g.1, fun a k h1 h2 => (g.2 a k h1 h2).trans (h.2 a k h1 h2)⟩
theorem FrP.ring {p r k : Nat} {v : Int} (hP : Pls ω p) (hr : 15 ≤ r ∧ r < 22) : FrP p ω (am_put ω (p + r) k v) := ⟨pl_dc hP (by omega), fun a k' _ h2 => if_neg (fun z => h2 (by omega))⟩
theorem FrP.fld {p k : Nat} {v : Int} (hP : Pls ω p) (hk : k = 12 ∨ k = 13 ∨ k = 14) : FrP p ω (am_put ω p k v) := by
  have := pl_dc hP (r := 0) (k := k) (v := v) (by omega)
  exact ⟨this, fun a k' h1 _ => if_neg (fun z => h1 ⟨z.1, by rw [z.2]; exact hk⟩)⟩
theorem FrP.fin {p step d : Nat} (hP : Pls ω p) : FrP p ω (finS ω p step d) := by
  unfold finS
  have f1 := FrP.fld hP (k := 13) (v := (d : Int)) (by omega)
  have f2 := f1.tr (FrP.fld (hP.dc f1.1) (k := 12) (v := (d : Int) - 1) (by omega))
  by_cases g : am_get ω p 14 = -1
  · rw [if_pos g]; exact f2.tr (FrP.fld (hP.dc f2.1) (by omega))
  · rw [if_neg g]; exact f2
theorem fin_12 {p step d : Nat} : am_get (finS ω p step d) p 12 = (d : Int) - 1 ∧ am_get (finS ω p step d) p 13 = (d : Int) ∧ am_get (finS ω p step d) p 14 = if am_get ω p 14 = -1 then (step : Int) else am_get ω p 14 := by
  unfold finS
  by_cases g : am_get ω p 14 = -1
  · rw [if_pos g, if_pos g]
    exact ⟨(gp_place (by omega)).trans gp_same, (gp_place (by omega)).trans ((gp_place (by omega)).trans gp_same), gp_same⟩
  · rw [if_neg g, if_neg g]
    exact ⟨gp_same, (gp_place (by omega)).trans gp_same, (gp_place (by omega)).trans (gp_place (by omega))⟩
theorem fin_o {p step d a k : Nat} (h : a ≠ p) : am_get (finS ω p step d) a k = am_get ω a k := by
  unfold finS
  by_cases g : am_get ω p 14 = -1
  · rw [if_pos g]; exact (gp_cell h).trans ((gp_cell h).trans (gp_cell h))
  · rw [if_neg g]; exact (gp_cell h).trans (gp_cell h)
end K52
