/-! ===== the way: the table, the class ===== -/
section K92
variable {ω : am_W} {p : Nat} {vd : Nat → Prop} {ok : Nat → Nat → Prop} {tg ln pc : Nat → Nat → Nat} {g : Nat}
theorem LT_r {P : Nat → Prop} {F v : Int} (h : LT P F v) (hF : 0 ≤ F) : 0 ≤ v ∧ v ≤ F := by
  rcases h with ⟨rfl, _⟩ | ⟨d, rfl, f, _⟩
  · exact ⟨hF, Int.le_refl _⟩
  · exact ⟨by omega, by omega⟩
/-- only the table is changed -/
def Fg (p : Nat) (ω ω' : am_W) : Prop := Dc ω ω' ∧ ∀ a k, a ≠ p + 22 → am_get ω' a k = am_get ω a k
theorem Fg.rf : Fg p ω ω := ⟨Dc.rf ω, fun _ _ _ => rfl⟩
theorem Fg.tr {ω1 ω2 : am_W} (h : Fg p ω ω1) (k : Fg p ω1 ω2) : Fg p ω ω2 := ⟨h.1.tr k.1, fun a j z => (k.2 a j z).trans (h.2 a j z)⟩
theorem Fg.chw {ω' : am_W} (f : Fg p ω ω') (h : Chw ω p vd ok tg ln pc) : Chw ω' p vd ok tg ln pc := h.kp (fun a k z => f.2 a k (by omega))
theorem fg_put (hP : Pls ω p) {k : Nat} {v : Int} : Fg p ω (am_put ω (p + 22) k v) := ⟨pl_dc hP (r := 22) (by omega), fun a j z => gp_cell z⟩
theorem Fg.f72 {ω' : am_W} (f : Fg p ω ω') (hp : 72 ≤ p) : F72 ω ω' := ⟨f.1, fun a k ha => f.2 a k (by omega)⟩
theorem c_row (hP : Pls ω p) (hw : Chw ω p vd ok tg ln pc) (hc : Cht vd ok tg ln pc) {step G : Nat} (hs : step < G) (hG : G ≤ 60) (B : TB vd ok tg ln pc g G (step + 1) (am_get ω (p + 22))) {l1 l3 : Int} {o6 o7 o8 : Option am_V} : ∃ (ω' : am_W) (o5' o6' o7' o8' : Option am_V), am_run (18, 0) 54 ([some (.inr (.inr ((p : Int)))), some (.inl l1), some (.inl ((G : Int))), some (.inl l3), some (.inl ((step : Int))), some (.inl 0), o6, o7, o8], [], ω) = am_run (18, 0) 45 ([some (.inr (.inr ((p : Int)))), some (.inl l1), some (.inl ((G : Int))), some (.inl l3), some (.inl ((step : Int) - 1)), o5', o6', o7', o8'], [], ω') ∧ Fg p ω ω' ∧ TB vd ok tg ln pc g G step (am_get ω' (p + 22)) := by
  obtain ⟨S, s1, s2, s3, s4⟩ := hw.1
  have key : ∀ k i : Nat, i + k = S → ∀ (ω1 : am_W) (o6 o7 o8 : Option am_V), Fg p ω ω1 → TB vd ok tg ln pc g G (step + 1) (am_get ω1 (p + 22)) → (∀ j, j < i → ∀ q : Nat, am_get ω (p + 1) j = (q : Int) → LT (fun d => Tg ok tg ln pc g (G - step) q 0 d) 1000000 (am_get ω1 (p + 22) (step * 120 + q))) → ∃ (ω' : am_W) (o5' o6' o7' o8' : Option am_V), am_run (18, 0) 54 ([some (.inr (.inr ((p : Int)))), some (.inl l1), some (.inl ((G : Int))), some (.inl l3), some (.inl ((step : Int))), some (.inl ((i : Int))), o6, o7, o8], [], ω1) = am_run (18, 0) 45 ([some (.inr (.inr ((p : Int)))), some (.inl l1), some (.inl ((G : Int))), some (.inl l3), some (.inl ((step : Int) - 1)), o5', o6', o7', o8'], [], ω') ∧ Fg p ω ω' ∧ TB vd ok tg ln pc g G step (am_get ω' (p + 22)) := by
    intro k
    induction k with
    | zero =>
      intro i hi ω1 o6 o7 o8 f B1 J
      obtain rfl : i = S := by omega
      have P1 := hP.dc f.1
      have Q := pX1_setToGo_54 (p : Int) l1 G l3 step i o6 o7 o8 ω1 (pl_is P1)
      rw [Int.toNat_natCast, f.2 p 2 (by omega), s2, if_pos (Int.le_refl _), am_w_s (by omega) (by omega)] at Q
      refine ⟨ω1, _, o6, o7, o8, Q, f, fun t q h1 h2 h3 => ?_⟩
      by_cases z : t = step
      · subst z
        obtain ⟨j, j1, j2⟩ := s4 q h3
        exact J j j1 q j2
      · exact B1 t q (by omega) h2 h3
    | succ k ih =>
      intro i hi ω1 o6 o7 o8 f B1 J
      have P1 := hP.dc f.1
      obtain ⟨q, hq, eq⟩ := s3 i (by omega)
      have q120 := (hc q hq).1
      have Q := pX1_setToGo_54 (p : Int) l1 G l3 step i o6 o7 o8 ω1 (pl_is P1)
      have e1 : am_get ω1 (p + 1) i = (q : Int) := (f.2 _ _ (by omega)).trans eq
      rw [Int.toNat_natCast, f.2 p 2 (by omega), s2, if_neg (by omega), pl_1 P1, if_pos (pl_s120 P1 (Int.natCast_nonneg _) (by omega)), Int.toNat_natCast, Int.toNat_natCast, e1] at Q
      have R := c_79 P1 (f.chw hw) hc hq (step := step) (G := G) (by omega) hG (fun t q' h1 h2 h3 => LT_r (B1 t q' (by omega) h2 h3) (by omega)) (l1 := l1) (l3 := l3) (l5 := (i : Int))
      have L := tb_3 hc hG B1 hs hq
      obtain ⟨v, hv⟩ : ∃ v, v = mi2 (mi2 (mi2 1000000 (dB ok tg ln pc G (am_get ω1 (p + 22)) 0 step q)) (dB ok tg ln pc G (am_get ω1 (p + 22)) 1 step q)) (dB ok tg ln pc G (am_get ω1 (p + 22)) 2 step q) := ⟨_, rfl⟩
      rw [← hv] at R L
      rw [am_w_s (by omega) (by omega), show (i : Int) + 1 = ((i + 1 : Nat) : Int) by omega] at R
      have f2 := f.tr (fg_put P1 (k := step * 120 + q) (v := v))
      obtain ⟨ω', a1, a2, a3, a4, r, rest⟩ := ih (i + 1) (by omega) _ _ _ _ f2 (fun t q' h1 h2 h3 => by
        rw [gp_place (by have := (hc q' h3).1; omega)]
        exact B1 t q' h1 h2 h3) (fun j hj q' e' => by
        by_cases z : q' = q
        · subst z
          rw [gp_same]
          exact L
        · rw [gp_place (by omega)]
          have : j ≠ i := fun y => by rw [y, eq] at e'; omega
          exact J j (by omega) q' e')
      exact ⟨ω', a1, a2, a3, a4, Q.trans (R.trans r), rest⟩
  exact key S 0 (by omega) ω o6 o7 o8 Fg.rf B (fun j hj => absurd hj (Nat.not_lt_zero _))
theorem c_gosteps (hP : Pls ω p) (hw : Chw ω p vd ok tg ln pc) (hc : Cht vd ok tg ln pc) {fr G : Nat} (hG : G ≤ 60) {l3 : Int} : ∀ k : Nat, fr + k ≤ G → ∀ (ω1 : am_W) (o5 o6 o7 o8 : Option am_V), Fg p ω ω1 → TB vd ok tg ln pc g G (fr + k) (am_get ω1 (p + 22)) → ∃ ω', am_run (18, 0) 45 ([some (.inr (.inr ((p : Int)))), some (.inl ((fr : Int))), some (.inl ((G : Int))), some (.inl l3), some (.inl (((fr + k : Nat) : Int) - 1)), o5, o6, o7, o8], [], ω1) = some (none, ω') ∧ Fg p ω ω' ∧ TB vd ok tg ln pc g G fr (am_get ω' (p + 22)) := by
  intro k
  induction k with
  | zero =>
    intro hk ω1 o5 o6 o7 o8 f B
    rw [pX1_setToGo_45, if_pos (by omega)]
    exact ⟨ω1, rfl, f, B⟩
  | succ k ih =>
    intro hk ω1 o5 o6 o7 o8 f B
    rw [pX1_setToGo_45, if_neg (by omega), show ((fr + (k + 1) : Nat) : Int) - 1 = ((fr + k : Nat) : Int) by omega]
    obtain ⟨ω2, a5, a6, a7, a8, r2, f2, B2⟩ := c_row (hP.dc f.1) (f.chw hw) hc (step := fr + k) (by omega) hG B (l1 := (fr : Int)) (l3 := l3) (o6 := o6) (o7 := o7) (o8 := o8)
    obtain ⟨ω3, r3, rest⟩ := ih (by omega) ω2 a5 a6 a7 a8 (f.tr f2) B2
    exact ⟨ω3, r2.trans r3, rest⟩
theorem c_goal (hP : Pls ω p) {G : Nat} (hG : G ≤ 60) {l1 : Int} : ∀ k s : Nat, s + k = 120 → ∀ (ω1 : am_W), Fg p ω ω1 → (∀ q, q < s → am_get ω1 (p + 22) (G * 120 + q) = if q = g then 0 else 1000000) → ∃ ω', am_run (18, 0) 3 ([some (.inr (.inr ((p : Int)))), some (.inl l1), some (.inl ((G : Int))), some (.inl ((g : Int))), some (.inl ((s : Int))), none, none, none, none], [], ω1) = am_run (18, 0) 45 ([some (.inr (.inr ((p : Int)))), some (.inl l1), some (.inl ((G : Int))), some (.inl ((g : Int))), some (.inl ((G : Int) - 1)), none, none, none, none], [], ω') ∧ Fg p ω ω' ∧ ∀ q, q < 120 → am_get ω' (p + 22) (G * 120 + q) = if q = g then 0 else 1000000 := by
  intro k
  induction k with
  | zero =>
    intro s hs ω1 f J
    obtain rfl : s = 120 := by omega
    rw [pX1_setToGo_3 _ _ _ _ _ _ _ _ _ _ (pl_is (hP.dc f.1)), if_pos (by omega), am_w_s (by omega) (by omega)]
    exact ⟨ω1, rfl, f, J⟩
  | succ k ih =>
    intro s hs ω1 f J
    have P1 := hP.dc f.1
    have w : ∀ _ : Unit, am_w (am_w ((G : Int) * 120) + (s : Int)) = ((G * 120 + s : Nat) : Int) := fun _ => by
      rw [am_w_s (z := (G : Int) * 120) (by omega) (by omega), am_w_s (by omega) (by omega)]
      omega
    have w1 : ∀ _ : Unit, am_w ((s : Int) + 1) = ((s + 1 : Nat) : Int) := fun _ => (am_w_s (by omega) (by omega)).trans (by omega)
    have Q := pX1_setToGo_3 (p : Int) l1 G g s none none none none ω1 (pl_is P1)
    rw [if_neg (by omega), Int.toNat_natCast, pl_7 P1, w (), w1 ()] at Q
    have i1 := pl_go P1 (i := ((G * 120 + s : Nat) : Int)) (Int.natCast_nonneg _) (by omega)
    rw [if_pos i1, if_pos i1, Int.toNat_natCast, Int.toNat_natCast] at Q
    by_cases z : s = g
    · rw [if_neg (by omega)] at Q
      obtain ⟨ω', r, rest⟩ := ih (s + 1) (by omega) _ (f.tr (fg_put P1 (k := G * 120 + s) (v := 0))) (fun q hq => by
        by_cases y : q = s
        · rw [y, gp_same, if_pos z]
        · rw [gp_place (by omega)]; exact J q (by omega))
      exact ⟨ω', Q.trans r, rest⟩
    · rw [if_pos (by omega)] at Q
      obtain ⟨ω', r, rest⟩ := ih (s + 1) (by omega) _ (f.tr (fg_put P1 (k := G * 120 + s) (v := 1000000))) (fun q hq => by
        by_cases y : q = s
        · rw [y, gp_same, if_neg z]
        · rw [gp_place (by omega)]; exact J q (by omega))
      exact ⟨ω', Q.trans r, rest⟩
theorem c_setToGo (hP : Pls ω p) (hw : Chw ω p vd ok tg ln pc) (hc : Cht vd ok tg ln pc) {fr G : Nat} (hG : G ≤ 60) (hf : fr ≤ G) : ∃ ω', am_run (18, 0) 0 ([some (.inr (.inr ((p : Int)))), some (.inl ((fr : Int))), some (.inl ((G : Int))), some (.inl ((g : Int))), none, none, none, none, none], [], ω) = some (none, ω') ∧ Fg p ω ω' ∧ TB vd ok tg ln pc g G fr (am_get ω' (p + 22)) := by
  obtain ⟨ω1, r1, f1, J⟩ := c_goal (g := g) hP hG (l1 := (fr : Int)) 120 0 (by omega) ω Fg.rf (fun q hq => absurd hq (Nat.not_lt_zero _))
  obtain ⟨ω2, r2, f2, B2⟩ := c_gosteps (g := g) (hP.dc f1.1) (f1.chw hw) hc (fr := fr) hG (l3 := (g : Int)) (G - fr) (by omega) ω1 none none none none Fg.rf (fun t q h1 h2 h3 => by
    obtain rfl : t = G := by omega
    rw [J q (hc q h3).1, Nat.sub_self]
    by_cases z : q = g
    · rw [if_pos z]
      exact Or.inr ⟨0, rfl, by omega, ⟨z, rfl, rfl⟩, fun d' _ => Nat.zero_le _⟩
    · rw [if_neg z]
      exact Or.inl ⟨rfl, fun d hd => z hd.1⟩)
  rw [show ((fr + (G - fr) : Nat) : Int) = (G : Int) by omega] at r2
  refine ⟨ω2, (pX1_setToGo_0 _ _ _ _ _).trans (r1.trans r2), f1.tr f2, B2⟩
end K92
