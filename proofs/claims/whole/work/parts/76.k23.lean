/-! ===== steps in truth: advance, steps ===== -/
section K23
variable {ω : am_W} {W : Int}
theorem am_w_add {x y : Int} : am_w (am_w x + y) = am_w (x + y) := by
  unfold am_w
  exact Int.bmod_add_bmod
theorem am_w_R (z : Int) : am_R32 (am_w z) := by
  unfold am_R32 am_w
  rw [Int.bmod_def]
  omega
/-- the ships behind a step -/
def drS (T : Nat → Int) (K : Nat) (V : Nat → Nat → Int) : Nat → Nat → Int := fun i => if i < K then drF T (V i) else V i
def advV (T : Nat → Int) (K : Nat) : Nat → (Nat → Nat → Int) → Nat → Nat → Int
  | 0, V => V
  | m + 1, V => advV T K m (drS T K V)
noncomputable def advH (T : Nat → Int) (K : Nat) : Nat → (Nat → Nat → Int) → Int → Int
  | 0, _, h => h
  | m + 1, V, h => advH T K m (drS T K V) (am_w (h + cHit (drS T K V) K))
def OV (n : Int) (T : Nat → Int) (K : Nat) (V : Nat → Nat → Int) : Prop := ∀ i, i < K → O_ship n T (V i)
def EV (K : Nat) (V V' : Nat → Nat → Int) : Prop := ∀ i, i < K → E5 (V i) (V' i)
section PURE
variable {n : Int} {T T' : Nat → Int} {K : Nat} {V V' : Nat → Nat → Int}
theorem drS_O (hn : n ≤ 6) (hT : Tok T) (O : OV n T K V) : OV n T K (drS T K V) := fun i hi => by
  unfold drS
  rw [if_pos hi]
  exact dr_O hn hT (O i hi)
theorem drS_c (hn : n ≤ 6) (O : OV n T K V) (e : EV K V V') (hT : E6 T T') : EV K (drS T K V) (drS T' K V') := fun i hi => by
  unfold drS
  rw [if_pos hi, if_pos hi]
  exact dr_c hn (O i hi) (e i hi) hT
theorem hit_c (e : EV K V V') {i j : Nat} (hi : i < K) (hj : j < K) : hit V i j ↔ hit V' i j := by
  unfold hit
  rw [fW_c (e i hi) (e j hj), e i hi 0 (by omega), e j hj 0 (by omega)]
theorem mHit_c (e : EV K V V') : mHit V K = mHit V' K := by
  unfold mHit
  exact sm_c (fun s hs => sm_c (fun o ho => b01_c (hit_c e hs (by omega))))
theorem adv_c (hn : n ≤ 6) (hTk : Tok T) (hT : E6 T T') : ∀ (m : Nat) (V V' : Nat → Nat → Int) (h : Int), OV n T K V → EV K V V' → EV K (advV T K m V) (advV T' K m V') ∧ advH T K m V h = advH T' K m V' h ∧ OV n T K (advV T K m V) := by
  intro m
  induction m with
  | zero => intro V V' h O e; exact ⟨e, rfl, O⟩
  | succ m ih =>
    intro V V' h O e
    have e1 := drS_c hn O e hT
    have := ih (drS T K V) (drS T' K V') (am_w (h + cHit (drS T K V) K)) (drS_O hn hTk O) e1
    refine ⟨this.1, ?_, this.2.2⟩
    show advH T K m (drS T K V) (am_w (h + cHit (drS T K V) K)) = advH T' K m (drS T' K V') (am_w (h + cHit (drS T' K V') K))
    rw [this.2.1, hits_eq, hits_eq, mHit_c e1]
theorem advH_R : ∀ (m : Nat) (V : Nat → Nat → Int) (h : Int), am_R32 h → am_R32 (advH T K m V h) := by
  intro m
  induction m with
  | zero => intro V h q; exact q
  | succ m ih => intro V h q; exact ih _ _ (am_w_R _)
end PURE
/-- only the ships of a world have changed -/
def FrV (W : Int) (ω ω' : am_W) : Prop := Dc ω ω' ∧ ∀ a, ¬ ((W + 4).toNat ≤ a ∧ a < (W + 10).toNat) → am_get ω' a = am_get ω a
theorem FrV.rf : FrV W ω ω := ⟨Dc.rf ω, fun _ _ => rfl⟩
theorem FrV.tr {ω1 ω2 : am_W} (h : FrV W ω ω1) (g : FrV W ω1 ω2) : FrV W ω ω2 := ⟨h.1.tr g.1, fun a ha => (g.2 a ha).trans (h.2 a ha)⟩
theorem FrV.rd {ω1 : am_W} (hw : isW W) (h : FrV W ω ω1) : cn ω1 W = cn ω W ∧ ck ω1 W = ck ω W ∧ cT ω1 W = cT ω W ∧ cC ω1 W = cC ω W ∧ am_get ω1 W.toNat = am_get ω W.toNat := by
  have hw' : W = 1 ∨ W = 11 ∨ W = 23 := hw
  have e0 := h.2 W.toNat (by omega)
  exact ⟨congrFun e0 0, congrFun e0 3, h.2 _ (by omega), h.2 _ (by omega), e0⟩
theorem FrV.set (h : Bs ω) (hw : isW W) {i : Nat} (hi : i < 6) {u : Nat → Int} : FrV W ω (setV ω (W + 4 + (i : Int)).toNat u) := ⟨setV_dc (is_V h hw hi), fun a ha => setV_o (by have hw' : W = 1 ∨ W = 11 ∨ W = 23 := hw; omega)⟩
theorem cV_set {i j : Nat} {u : Nat → Int} (hw : isW W) : cV (setV ω (W + 4 + (i : Int)).toNat u) W j = if j = i then u else cV ω W j := by
  have hw' : W = 1 ∨ W = 11 ∨ W = 23 := hw
  have e : cV (setV ω (W + 4 + (i : Int)).toNat u) W j = am_get (setV ω (W + 4 + (i : Int)).toNat u) (W + 4 + (j : Int)).toNat := rfl
  rw [e]
  by_cases g : j = i
  · rw [if_pos g, g, setV_get]
  · rw [if_neg g, setV_o (by omega)]
    rfl
theorem c_driftAll (hw : isW W) {n : Int} {T : Nat → Int} {K : Nat} (h6 : K ≤ 6) (hn : n ≤ 6) (hT : Tok T) (l1 l2 l3 : Int) : ∀ d j, j + d = K → ∀ ω, Bs ω → cn ω W = n → cT ω W = T → ck ω W = (K : Int) → OV n T K (cV ω W) → ∃ ω', am_run (77, 0) 15 ([some (.inr (.inr W)), some (.inl l1), some (.inl l2), some (.inl l3), some (.inl ((j : Int)))], [], ω) = am_run (77, 0) 15 ([some (.inr (.inr W)), some (.inl l1), some (.inl l2), some (.inl l3), some (.inl ((K : Int)))], [], ω') ∧ FrV W ω ω' ∧ ∀ i, cV ω' W i = if j ≤ i ∧ i < K then drF T (cV ω W i) else cV ω W i := by
  intro d
  induction d with
  | zero =>
    intro j hj ω h e1 e2 e3 O
    obtain rfl : j = K := by omega
    exact ⟨ω, rfl, FrV.rf, fun i => (if_neg (by omega)).symm⟩
  | succ d ih =>
    intro j hj ω h e1 e2 e3 O
    have e3' : am_get ω W.toNat 3 = (K : Int) := e3
    have eV := w_V h hw (i := j) (by omega)
    have iS := ina_S h hw (i := (j : Int)) (by omega) (by omega)
    have s := c_drift h hw (by rw [e1]; exact hn) (by rw [e2]; exact hT) (is_V h hw (i := j) (by omega)) (by rw [e1, e2]; exact O j (by omega))
    have F := FrV.set (W := W) h hw (i := j) (by omega) (u := drF (cT ω W) (am_get ω (W + 4 + (j : Int)).toNat))
    obtain ⟨g1, g2, g3, g4, g5⟩ := F.rd hw
    obtain ⟨ω', r, F', c'⟩ := ih (j + 1) (by omega) _ (h.dc F.1) (g1.trans e1) (g3.trans e2) (g2.trans e3) (fun i hi => by
      rw [cV_set hw]
      by_cases q : i = j
      · rw [if_pos q, e2]
        exact dr_O hn hT (O j (by omega))
      · rw [if_neg q]
        exact O i hi)
    refine ⟨ω', ?_, F.tr F', fun i => ?_⟩
    · rw [← r, pX5_advance_15 _ _ _ _ _ _ (w_is h hw), e3', if_neg (by omega), w_S h hw, if_pos iS, Int.toNat_natCast, eV, bv_v s, am_w_s (by omega) (by omega), show (j : Int) + 1 = ((j + 1 : Nat) : Int) by omega]
    · rw [c' i, cV_set hw]
      by_cases q : i = j
      · rw [if_neg (by omega), if_pos q, if_pos (by omega), e2, q]
        rfl
      · rw [if_neg q]
        by_cases q2 : j ≤ i ∧ i < K
        · rw [if_pos (by omega), if_pos q2]
        · rw [if_neg (by omega), if_neg q2]
/-- the ships, the clock and the hits of a world have changed -/
def FrA (W : Int) (ω ω' : am_W) : Prop := Dc ω ω' ∧ ∀ a k, ¬ ((W + 4).toNat ≤ a ∧ a < (W + 10).toNat) → ¬ (a = W.toNat ∧ (k = 5 ∨ k = 6)) → am_get ω' a k = am_get ω a k
theorem FrA.rf : FrA W ω ω := ⟨Dc.rf ω, fun _ _ _ _ => rfl⟩
theorem FrA.tr {ω1 ω2 : am_W} (h : FrA W ω ω1) (g : FrA W ω1 ω2) : FrA W ω ω2 := ⟨h.1.tr g.1, fun a k h1 h2 => (g.2 a k h1 h2).trans (h.2 a k h1 h2)⟩
theorem FrA.ofV {ω1 : am_W} (h : FrV W ω ω1) : FrA W ω ω1 := ⟨h.1, fun a k h1 _ => congrFun (h.2 a h1) k⟩
theorem FrA.put (h : Bs ω) (hw : isW W) {k : Nat} (hk : k = 5 ∨ k = 6) {x : Int} : FrA W ω (am_put ω W.toNat k x) := by
  refine ⟨Dc.put ?_, fun a k' h1 h2 => if_neg (fun q => h2 ⟨q.1, by rw [q.2]; exact hk⟩)⟩
  rcases hw with rfl | rfl | rfl <;> rcases hk with rfl | rfl
  · exact am_rp_at (bs_sh h (a := 1) rfl)
  · exact am_rp_at (bs_sh h (a := 1) rfl)
  · exact am_rp_at (bs_sh h (a := 11) rfl)
  · exact am_rp_at (bs_sh h (a := 11) rfl)
  · exact am_rp_at (bs_sh h (a := 23) rfl)
  · exact am_rp_at (bs_sh h (a := 23) rfl)
theorem FrA.rd {ω1 : am_W} (hw : isW W) (h : FrA W ω ω1) : cn ω1 W = cn ω W ∧ ck ω1 W = ck ω W ∧ cT ω1 W = cT ω W ∧ cC ω1 W = cC ω W := by
  have hw' : W = 1 ∨ W = 11 ∨ W = 23 := hw
  exact ⟨h.2 _ _ (by omega) (by omega), h.2 _ _ (by omega) (by omega), funext fun j => h.2 _ _ (by omega) (by omega), funext fun j => h.2 _ _ (by omega) (by omega)⟩
theorem put_cV (hw : isW W) {k : Nat} {x : Int} : cV (am_put ω W.toNat k x) W = cV ω W := by
  have hw' : W = 1 ∨ W = 11 ∨ W = 23 := hw
  funext i f
  exact gp_cell (by omega)
theorem c_advance (hw : isW W) {n : Int} {T : Nat → Int} {K N : Nat} (h6 : K ≤ 6) (hn : n ≤ 6) (hT : Tok T) (hN : N ≤ 60) (l2 : Int) : ∀ m t, t + m = N → ∀ ω (o4 : Option am_V), Bs ω → cn ω W = n → cT ω W = T → ck ω W = (K : Int) → OV n T K (cV ω W) → ∃ ω', am_run (77, 0) 7 ([some (.inr (.inr W)), some (.inl ((N : Int))), some (.inl l2), some (.inl ((t : Int))), o4], [], ω) = some (some (.inl (am_w (am_get ω' W.toNat 6 - l2))), ω') ∧ FrA W ω ω' ∧ (∀ i, cV ω' W i = advV T K m (cV ω W) i) ∧ am_get ω' W.toNat 6 = advH T K m (cV ω W) (am_get ω W.toNat 6) ∧ am_get ω' W.toNat 5 = am_w (am_get ω W.toNat 5 + (N : Int)) := by
  have hw' : W = 1 ∨ W = 11 ∨ W = 23 := hw
  intro m
  induction m with
  | zero =>
    intro t ht ω o4 h e1 e2 e3 O
    obtain rfl : t = N := by omega
    refine ⟨am_put ω W.toNat 5 (am_w (am_get ω W.toNat 5 + (t : Int))), ?_, FrA.put h hw (Or.inl rfl), fun i => by rw [put_cV hw]; rfl, gp_place (by omega), gp_same⟩
    rw [pX5_advance_7 _ _ _ _ _ _ (w_is h hw), if_pos (by omega)]
  | succ m ih =>
    intro t ht ω o4 h e1 e2 e3 O
    obtain ⟨ω1, r1, F1, c1⟩ := c_driftAll hw h6 hn hT (N : Int) l2 (t : Int) K 0 (by omega) ω h e1 e2 e3 O
    have h1 := h.dc F1.1
    obtain ⟨g1, g2, g3, g4, g5⟩ := F1.rd hw
    have eD : cV ω1 W = drS T K (cV ω W) := funext fun i => by
      rw [c1 i]
      unfold drS
      by_cases q : i < K
      · rw [if_pos ⟨by omega, q⟩, if_pos q]
      · rw [if_neg (by omega), if_neg q]
    have e3' : am_get ω1 W.toNat 3 = (K : Int) := g2.trans e3
    have ph := c_pairsHit h1 hw (K := K) e3' h6
    rw [eD] at ph
    have F2 := FrA.put h1 hw (k := 6) (Or.inr rfl) (x := am_w (am_get ω1 W.toNat 6 + cHit (drS T K (cV ω W)) K))
    obtain ⟨k1, k2, k3, k4⟩ := F2.rd hw
    obtain ⟨ω', r, F', c', hh, hc⟩ := ih (t + 1) (by omega) _ (some (.inl (K : Int))) (h1.dc F2.1) (k1.trans (g1.trans e1)) (k3.trans (g3.trans e2)) (k2.trans (g2.trans e3)) (by
      rw [put_cV hw, eD]
      exact drS_O hn hT O)
    refine ⟨ω', ?_, (FrA.ofV F1).tr (F2.tr F'), fun i => ?_, ?_, ?_⟩
    · rw [← r, pX5_advance_7 _ _ _ _ _ _ (w_is h hw), if_neg (by omega)]
      refine r1.trans ?_
      rw [pX5_advance_15 _ _ _ _ _ _ (w_is h1 hw), e3', if_pos (by omega), bi_v ph, if_pos (w_is h1 hw), am_w_s (z := (t : Int) + 1) (by omega) (by omega), show (t : Int) + 1 = ((t + 1 : Nat) : Int) by omega]
    · rw [c' i, put_cV hw, eD]
      rfl
    · rw [hh, put_cV hw, eD, gp_same, g5]
      rfl
    · rw [hc, gp_place (by omega), g5]
end K23
