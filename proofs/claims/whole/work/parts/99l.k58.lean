/-! ===== the planner is made ready ===== -/
section K58
variable {ω : am_W} {p : Nat}
/-- all that lies below the planner is as it was -/
def F72 (ω ω' : am_W) : Prop := Dc ω ω' ∧ ∀ a k, a < 72 → am_get ω' a k = am_get ω a k
theorem F72.rf : F72 ω ω := ⟨Dc.rf ω, fun _ _ _ => rfl⟩
theorem F72.tr {ω1 ω2 : am_W} (h : F72 ω ω1) (g : F72 ω1 ω2) : F72 ω ω2 := ⟨h.1.tr g.1, fun a k z => (g.2 a k z).trans (h.2 a k z)⟩
theorem F72.inv {ω' : am_W} (h : Inv ω) (g : F72 ω ω') : Inv ω' := inv_scr h g.1 (fun a k z => g.2 a k (by unfold Sc at z; omega))
theorem F72.put (hP : Pls ω p) {r k : Nat} {v : Int} (hr : (r = 0 ∧ (k = 2 ∨ 10 ≤ k)) ∨ r = 1 ∨ (3 ≤ r ∧ r < 6) ∨ (7 ≤ r ∧ r < 10) ∨ (11 ≤ r ∧ r < 14) ∨ (15 ≤ r ∧ r < 25)) : F72 ω (am_put ω (p + r) k v) := ⟨pl_dc hP hr, fun a k' ha => if_neg (by have := hP.1; omega)⟩
theorem FrK.f72 {ω' : am_W} (g : FrK p ω ω') (hp : 72 ≤ p) : F72 ω ω' := ⟨g.1, g.lo hp⟩
theorem FrW.f72 {ω' : am_W} (g : FrW p ω ω') (hp : 72 ≤ p) : F72 ω ω' := ⟨g.1, fun a k ha => g.2 a k (by omega) (by omega) (by omega)⟩
section ST
variable {n : Int} {T C : Nat → Int} {K : Int} {i : Nat}
theorem c_chart (h : Inv ω) (hP : Pls ω p) (hi : i < 6) (pa : Par ω i n T C K) : ∃ ω', am_run (10, 0) 0 ([some (.inr (.inr ((p : Int)))), some (.inr (.inr (1 + 4 + (i : Int)))), none, none, none, none], [], ω) = some (none, ω') ∧ FrK p ω ω' ∧ Chw ω' p (cvd n T) (cok n C K) (ctg T) (cln T) (cpc n C K) := by
  obtain ⟨on, oT, oC⟩ := osk h
  have p72 := hP.1
  have pa' := pa
  obtain ⟨en, eT, eC, eK⟩ := pa'
  rw [en] at on
  rw [eT] at oT
  have inn : ∀ k c r : Nat, (c : Int) < n → ((r + k : Nat) : Int) = T c → ∀ ω1 (o5 : Option am_V), FrK p ω ω1 → CwI ω1 p (cvd n T) (cok n C K) (ctg T) (cln T) (cpc n C K) (c * 20 + r) → ∃ (ω2 : am_W) (o5' : Option am_V), am_run (10, 0) 30 ([some (.inr (.inr ((p : Int)))), some (.inr (.inr (1 + 4 + (i : Int)))), some (.inl ((c : Int))), some (.inl (T c)), some (.inl ((r : Int))), o5], [], ω1) = am_run (10, 0) 7 ([some (.inr (.inr ((p : Int)))), some (.inr (.inr (1 + 4 + (i : Int)))), some (.inl (((c + 1 : Nat) : Int))), some (.inl (T c)), some (.inl (T c)), o5'], [], ω2) ∧ FrK p ω ω2 ∧ CwI ω2 p (cvd n T) (cok n C K) (ctg T) (cln T) (cpc n C K) ((c + 1) * 20) := by
    intro k
    induction k with
    | zero =>
      intro c r hc hr ω1 o5 f I
      have tc := oT c (by omega)
      have er : (r : Int) = T c := hr
      refine ⟨ω1, o5, ?_, f, I.up (by omega) (fun q hq z => ?_)⟩
      · rw [pX1_chart_30 _ _ _ _ _ _ _ (pl_is (hP.dc f.1)), er, if_pos (Int.le_refl _), am_w_s (by omega) (by omega)]
        rw [show (c : Int) + 1 = ((c + 1 : Nat) : Int) by omega]
      · obtain ⟨z1, z2⟩ := hq
        by_cases y : q / 20 = c
        · rw [y] at z2; omega
        · omega
    | succ k ih =>
      intro c r hc hr ω1 o5 f I
      obtain ⟨ω2, r2, f2, I2⟩ := c_chart1 (f.inv h p72) (hP.dc f.1) hi (pa.kp hi (f.lo p72)) hc (by omega) I o5
      obtain ⟨ω3, o5', r3, rest⟩ := ih c (r + 1) hc (by omega) ω2 _ (f.tr f2) I2
      exact ⟨ω3, o5', r2.trans r3, rest⟩
  have out : ∀ k c : Nat, ((c + k : Nat) : Int) = n → ∀ ω1 (o3 o4 o5 : Option am_V), FrK p ω ω1 → CwI ω1 p (cvd n T) (cok n C K) (ctg T) (cln T) (cpc n C K) (c * 20) → ∃ (ω2 : am_W), am_run (10, 0) 7 ([some (.inr (.inr ((p : Int)))), some (.inr (.inr (1 + 4 + (i : Int)))), some (.inl ((c : Int))), o3, o4, o5], [], ω1) = some (none, ω2) ∧ FrK p ω ω2 ∧ CwI ω2 p (cvd n T) (cok n C K) (ctg T) (cln T) (cpc n C K) 120 := by
    intro k
    induction k with
    | zero =>
      intro c hc ω1 o3 o4 o5 f I
      have P1 := hP.dc f.1
      have I1 := f.inv h p72
      have ec : (c : Int) = n := hc
      have en1 : am_get ω1 1 0 = n := (f.lo p72 1 0 (by omega)).trans en
      refine ⟨ω1, ?_, f, I.up (by omega) (fun q hq z => ?_)⟩
      · rw [pX1_chart_7 _ _ _ _ _ _ _ (pl_is P1) (by rw [Int.toNat_natCast, pl_0 P1]; exact i_1 I1.1)]
        simp only [am_bi_s, am_bl_s, am_ba_s, am_bv_s, Int.toNat_zero, Int.reduceToNat, Int.toNat_natCast, if_true, if_false, not_true, not_false_eq_true, Int.reduceEq, Int.reduceLT, Int.reduceLE, pl_0 P1, en1, ec, Int.le_refl]
      · obtain ⟨z1, z2⟩ := hq
        omega
    | succ k ih =>
      intro c hc ω1 o3 o4 o5 f I
      have P1 := hP.dc f.1
      have I1 := f.inv h p72
      have cn1 : (c : Int) < n := by omega
      have nc : ¬ n ≤ (c : Int) := by omega
      have en1 : am_get ω1 1 0 = n := (f.lo p72 1 0 (by omega)).trans en
      obtain ⟨_, eT1, _, _⟩ := pa.kp hi (f.lo p72)
      have tc := oT c (by omega)
      have ti := c_timeOf I1.1 (W := 1) (Or.inl rfl) (c := (c : Int)) (by omega) (by show _ < am_get ω1 1 0; rw [en1]; exact cn1) (by show am_get ω1 1 0 ≤ 6; rw [en1]; exact on.2)
      rw [eT1, Int.toNat_natCast] at ti
      have Q := pX1_chart_7 (p : Int) (1 + 4 + (i : Int)) c o3 o4 o5 ω1 (pl_is P1) (by rw [Int.toNat_natCast, pl_0 P1]; exact i_1 I1.1)
      simp only [am_bi_s, am_bl_s, am_ba_s, am_bv_s, Int.toNat_zero, Int.reduceToNat, Int.toNat_natCast, if_true, if_false, not_true, not_false_eq_true, Int.reduceEq, Int.reduceLT, Int.reduceLE, pl_0 P1, en1, if_neg nc, ti] at Q
      obtain ⟨ω2, o5', r2, f2, I2⟩ := inn (T c).toNat c 0 cn1 (by omega) ω1 o5 f I
      obtain ⟨ω3, r3, rest⟩ := ih (c + 1) (by omega) ω2 (some (.inl (T c))) (some (.inl (T c))) o5' f2 I2
      exact ⟨ω3, Q.trans (r2.trans r3), rest⟩
  have k1 := FrK.cnt hP (v := 0)
  obtain ⟨ω2, r2, f2, I2⟩ := out n.toNat 0 (by omega) (am_put ω p 2 0) none none none k1 ⟨0, by omega, gp_same, fun i hi => by omega, fun q hq z => by omega, fun q hq z => by omega⟩
  refine ⟨ω2, ?_, f2, I2.chw (fun q hq => by obtain ⟨z1, z2⟩ := hq; omega)⟩
  rw [pX1_chart_0 _ _ _ (pl_is hP), Int.toNat_natCast]
  exact r2
end ST
/-- the members of a set among the first n, three at most -/
noncomputable def gM (bit : Nat → Prop) : Nat → List Nat
  | 0 => []
  | i + 1 => @ite _ (bit i ∧ (gM bit i).length < 3) (Classical.propDecidable _) (gM bit i ++ [i]) (gM bit i)
theorem gM_y {bit : Nat → Prop} {i : Nat} (h : bit i ∧ (gM bit i).length < 3) : gM bit (i + 1) = gM bit i ++ [i] := @if_pos _ (Classical.propDecidable _) h _ _ _
theorem gM_n {bit : Nat → Prop} {i : Nat} (h : ¬ (bit i ∧ (gM bit i).length < 3)) : gM bit (i + 1) = gM bit i := @if_neg _ (Classical.propDecidable _) h _ _ _
theorem gM_3 {bit : Nat → Prop} : ∀ i, (gM bit i).length ≤ 3 ∧ ∀ x ∈ gM bit i, x < i ∧ bit x := by
  intro i
  induction i with
  | zero => exact ⟨by show 0 ≤ 3; omega, fun x hx => by cases hx⟩
  | succ i ih =>
    by_cases g : bit i ∧ (gM bit i).length < 3
    · rw [gM_y g]
      refine ⟨by rw [List.length_append]; show _ + 1 ≤ 3; omega, fun x hx => ?_⟩
      rcases List.mem_append.mp hx with z | z
      · have := ih.2 x z; exact ⟨by omega, this.2⟩
      · have : x = i := by simpa using z
        rw [this]; exact ⟨by omega, g.1⟩
    · rw [gM_n g]
      exact ⟨ih.1, fun x hx => ⟨by have := (ih.2 x hx).1; omega, (ih.2 x hx).2⟩⟩
theorem gM_st {bit : Nat → Prop} {i : Nat} (h : (gM bit i).length = 3) : ∀ k, gM bit (i + k) = gM bit i := by
  intro k
  induction k with
  | zero => rfl
  | succ k ih =>
    show gM bit (i + k + 1) = _
    rw [gM_n (by rw [ih]; omega), ih]
def wh (M : Nat) : Nat := if M = 0 then 1 else 2 ^ M - 1
theorem wh_w {M : Nat} (h : M ≤ 3) (h0 : M ≠ 0) : am_w (am_shl 1 (M : Int) - 1) = (wh M : Int) := by
  have : ∀ M : Nat, M ≤ 3 → M ≠ 0 → am_w (am_shl 1 (M : Int) - 1) = (wh M : Int) := by decide +kernel
  exact this M h h0
theorem wh_7 {M : Nat} (h : M ≤ 3) : 1 ≤ wh M ∧ wh M ≤ 7 := by
  have : ∀ M : Nat, M ≤ 3 → 1 ≤ wh M ∧ wh M ≤ 7 := by decide
  exact this M h
def bitI (set : Int) (i : Nat) : Prop := am_and set (am_shl 1 (i : Int)) ≠ 0
def FrG (p : Nat) (ω ω' : am_W) : Prop := Dc ω ω' ∧ ∀ a k, ¬ (a = p ∧ (k = 10 ∨ k = 11)) → a ≠ p + 23 → am_get ω' a k = am_get ω a k
theorem c_gather (h : Inv ω) (hP : Pls ω p) (set : Int) {N : Nat} (hN : am_get ω 1 3 = (N : Int)) : ∃ ω', am_run (12, 0) 0 ([some (.inr (.inr ((p : Int)))), some (.inl set), none], [], ω) = some (none, ω') ∧ FrG p ω ω' ∧ am_get ω' p 10 = ((gM (bitI set) N).length : Int) ∧ am_get ω' p 11 = (wh (gM (bitI set) N).length : Int) ∧ ∀ k, k < (gM (bitI set) N).length → am_get ω' (p + 23) k = (((gM (bitI set) N).getD k 0 : Nat) : Int) := by
  have p72 := hP.1
  have N6 : N ≤ 6 := by have := h.2.2.1.2.1; have e : ω.2.1 1 3 = (N : Int) := hN; omega
  obtain ⟨B, hB⟩ : ∃ B : Nat → Prop, B = bitI set := ⟨_, rfl⟩
  rw [← hB]
  -- the end
  have fin : ∀ (l2 : Int) ω1, FrG p ω ω1 → am_get ω1 p 10 = ((gM B N).length : Int) → (∀ k, k < (gM B N).length → am_get ω1 (p + 23) k = (((gM B N).getD k 0 : Nat) : Int)) → (am_get ω1 1 3 ≤ l2 ∨ 3 ≤ am_get ω1 p 10) → ∃ ω', am_run (12, 0) 7 ([some (.inr (.inr ((p : Int)))), some (.inl set), some (.inl l2)], [], ω1) = some (none, ω') ∧ FrG p ω ω' ∧ am_get ω' p 10 = ((gM B N).length : Int) ∧ am_get ω' p 11 = (wh (gM B N).length : Int) ∧ ∀ k, k < (gM B N).length → am_get ω' (p + 23) k = (((gM B N).getD k 0 : Nat) : Int) := by
    intro l2 ω1 f e10 em st
    have P1 := hP.dc f.1
    have M3 := (gM_3 (bit := B) N).1
    refine ⟨am_put ω1 p 11 (wh (gM B N).length : Int), ?_, ⟨f.1.tr (pl_dc P1 (r := 0) (by omega)), fun a k z1 z2 => (if_neg (by omega)).trans (f.2 a k z1 z2)⟩, (gp_place (by omega)).trans e10, gp_same, fun k hk => (gp_cell (by omega)).trans (em k hk)⟩
    have Q := pX1_gather_7 (p : Int) set l2 ω1 (pl_is P1) (by rw [Int.toNat_natCast, pl_0 P1]; exact i_1 (h.1.dc f.1))
    simp only [Int.toNat_natCast, pl_0 P1, show (1 : Int).toNat = 1 from rfl] at Q
    have e : (if ¬ am_get ω1 p 10 = 0 then some (none, am_put ω1 p 11 (am_w (am_shl 1 (am_get ω1 p 10) - 1))) else some (none, am_put ω1 p 11 1) : Option (Option am_V × am_W)) = some (none, am_put ω1 p 11 (wh (gM B N).length : Int)) := by
      rw [e10]
      by_cases z : (gM B N).length = 0
      · rw [z, if_neg (fun y => y rfl)]; rfl
      · rw [if_pos (by omega), wh_w M3 z]
    rw [e] at Q
    rw [Q]
    by_cases z1 : am_get ω1 1 3 ≤ l2
    · rw [if_pos z1]
    · rw [if_neg z1, if_pos (st.resolve_left z1)]
  have key : ∀ k i : Nat, i + k = N → ∀ ω1, FrG p ω ω1 → am_get ω1 p 10 = ((gM B i).length : Int) → (∀ k, k < (gM B i).length → am_get ω1 (p + 23) k = (((gM B i).getD k 0 : Nat) : Int)) → ∃ ω', am_run (12, 0) 7 ([some (.inr (.inr ((p : Int)))), some (.inl set), some (.inl ((i : Int)))], [], ω1) = some (none, ω') ∧ FrG p ω ω' ∧ am_get ω' p 10 = ((gM B N).length : Int) ∧ am_get ω' p 11 = (wh (gM B N).length : Int) ∧ ∀ k, k < (gM B N).length → am_get ω' (p + 23) k = (((gM B N).getD k 0 : Nat) : Int) := by
    intro k
    induction k with
    | zero =>
      intro i hi ω1 f e10 em
      obtain rfl : i = N := by omega
      exact fin _ ω1 f e10 em (Or.inl (by rw [f.2 1 3 (by omega) (by omega), hN]; exact Int.le_refl _))
    | succ k ih =>
      intro i hi ω1 f e10 em
      have P1 := hP.dc f.1
      have L3 := (gM_3 (bit := B) i).1
      by_cases g3 : (gM B i).length = 3
      · have e := gM_st g3 (k + 1)
        rw [hi] at e
        exact fin _ ω1 f (by rw [e]; exact e10) (by rw [e]; exact em) (Or.inr (by rw [e10, g3]; omega))
      · have c3 : am_get ω1 1 3 = (N : Int) := (f.2 1 3 (by omega) (by omega)).trans hN
        have a1 : ¬ (N : Int) ≤ (i : Int) := by omega
        have a2 : ¬ (3 : Int) ≤ ((gM B i).length : Int) := by omega
        have a3 : ((gM B i).length : Int) < 3 := by omega
        have a4 : i + 1 + k = N := by omega
        have a5 : (gM B i).length < 3 := by omega
        have Q := pX1_gather_7 (p : Int) set i ω1 (pl_is P1) (by rw [Int.toNat_natCast, pl_0 P1]; exact i_1 (h.1.dc f.1))
        have eb : (am_and set (am_shl 1 (i : Int)) = 0) = ¬ B i := by rw [hB]; unfold bitI; simp
        have e0 : ∀ v : Int, am_get (am_put ω1 (p + 23) (gM B i).length v) p 10 = ((gM B i).length : Int) := fun v => (gp_cell (by omega)).trans e10
        simp only [am_bi_s, am_bl_s, am_ba_s, am_bv_s, Int.toNat_zero, Int.reduceToNat, Int.toNat_natCast, if_true, if_false, not_true, not_false_eq_true, Int.reduceEq, Int.reduceLT, Int.reduceLE, pl_0 P1, c3, if_neg a1, e10, if_neg a2, pl_8 P1, pl_mem P1 (Int.natCast_nonneg _) a3, e0, pX1_gather_54] at Q
        rw [show am_w ((i : Int) + 1) = ((i + 1 : Nat) : Int) from (am_w_s (by omega) (by omega)).trans (by omega), show am_w (((gM B i).length : Int) + 1) = (((gM B i).length + 1 : Nat) : Int) from (am_w_s (by omega) (by omega)).trans (by omega)] at Q
        by_cases g : B i
        · rw [if_neg (by rw [eb]; exact fun z => z g)] at Q
          have gy := gM_y (bit := B) ⟨g, a5⟩
          have gl : (gM B (i + 1)).length = (gM B i).length + 1 := by rw [gy, List.length_append]; rfl
          have d1 := pl_dc P1 (r := 23) (k := (gM B i).length) (v := (i : Int)) (by omega)
          have d2 := pl_dc (P1.dc d1) (r := 0) (k := 10) (v := (((gM B i).length + 1 : Nat) : Int)) (by omega)
          obtain ⟨ω', r, rest⟩ := ih (i + 1) a4 (am_put (am_put ω1 (p + 23) (gM B i).length (i : Int)) p 10 (((gM B i).length + 1 : Nat) : Int)) ⟨(f.1.tr d1).tr d2, fun a k z1 z2 => (if_neg (by omega)).trans ((if_neg (by omega)).trans (f.2 a k z1 z2))⟩ (by rw [gp_same, gl]) (fun k hk => by
            rw [gp_cell (by omega), gy]
            by_cases z : k = (gM B i).length
            · rw [z, gp_same]
              simp
            · rw [gp_place z, em k (by omega)]
              simp only [List.getD_eq_getElem?_getD]
              rw [List.getElem?_append_left (by omega)])
          exact ⟨ω', Q.trans r, rest⟩
        · rw [if_pos (by rw [eb]; exact g)] at Q
          have gn := gM_n (bit := B) (i := i) (fun z => g z.1)
          obtain ⟨ω', r, rest⟩ := ih (i + 1) a4 ω1 f (by rw [gn]; exact e10) (by rw [gn]; exact em)
          exact ⟨ω', Q.trans r, rest⟩
  have d0 := pl_dc hP (r := 0) (k := 10) (v := 0) (by omega)
  obtain ⟨ω', r, rest⟩ := key N 0 (by omega) (am_put ω p 10 0) ⟨d0, fun a k z1 z2 => if_neg (by omega)⟩ gp_same (fun k hk => absurd hk (Nat.not_lt_zero _))
  exact ⟨ω', by rw [pX1_gather_0 _ _ _ (pl_is hP), Int.toNat_natCast]; exact r, rest⟩
end K58
