/-! ===== told flights: the first meeting; the model's flight ===== -/
section K40
variable {ω : am_W}
theorem setV_comm {a b : Nat} {u w : Nat → Int} (h : a ≠ b) : setV (setV ω a u) b w = setV (setV ω b w) a u := by
  refine Prod.ext rfl (Prod.ext (funext fun a' => funext fun k' => ?_) rfl)
  show (if a' = b then w k' else if a' = a then u k' else ω.2.1 a' k') = if a' = a then u k' else if a' = b then w k' else ω.2.1 a' k'
  by_cases g : a' = b
  · rw [if_pos g, if_neg (by omega), if_pos g]
  · rw [if_neg g, if_neg g]
def WW (ω : am_W) (u w : Nat → Int) : am_W := setV (setV ω 35 u) 36 w
section WWs
variable {u w : Nat → Int}
theorem WW_dc (h : Bs ω) : Dc ω (WW ω u w) := by
  have d1 : Dc ω (setV ω 35 u) := setV_dc (i_35 h)
  exact d1.tr (setV_dc (v := 36) (i_36 (h.dc d1)))
theorem WW_o {a : Nat} (h : a ≠ 35 ∧ a ≠ 36) : am_get (WW ω u w) a = am_get ω a := (setV_o h.2).trans (setV_o h.1)
theorem WW_35 : am_get (WW ω u w) 35 = u := (setV_o (by omega)).trans setV_get
theorem WW_36 : am_get (WW ω u w) 36 = w := setV_get
theorem WW_s35 {u' : Nat → Int} : setV (WW ω u w) 35 u' = WW ω u' w := by
  unfold WW
  rw [setV_comm (a := 36) (b := 35) (by omega), setV_setV]
theorem WW_s36 {w' : Nat → Int} : setV (WW ω u w) 36 w' = WW ω u w' := setV_setV
theorem WW_W : cn (WW ω u w) 1 = cn ω 1 ∧ ck (WW ω u w) 1 = ck ω 1 ∧ cT (WW ω u w) 1 = cT ω 1 ∧ cC (WW ω u w) 1 = cC ω 1 := ⟨congrFun (WW_o (by decide)) 0, congrFun (WW_o (by decide)) 3, WW_o (by decide), WW_o (by decide)⟩
end WWs
theorem c_fm (h : Bs ω) (hn : 2 ≤ cn ω 1 ∧ cn ω 1 ≤ 6) (hC : Cok (cC ω 1)) (hT : Tok (cT ω 1)) {s N K i j : Nat} (hs : s < 8) (hN : N ≤ 40) (hz : (N : Int) ≤ am_get ω (37 + 2 * s) 1) (hi : i < K) (hj : j < K) (hij : j ≠ i) (V : Nat → Nat → Int) (ok : ∀ m, m < N → codeF (cn ω 1) (cC ω 1) (flS (cn ω 1) (cC ω 1) (cT ω 1) K i (am_get ω (38 + 2 * s)) V m i) (am_get ω (38 + 2 * s) m)) : ∀ d m, m + d = N → ∀ u w, E5 (flS (cn ω 1) (cC ω 1) (cT ω 1) K i (am_get ω (38 + 2 * s)) V m i) u → E5 (flS (cn ω 1) (cC ω 1) (cT ω 1) K i (am_get ω (38 + 2 * s)) V m j) w → O_ship (cn ω 1) (cT ω 1) (flS (cn ω 1) (cC ω 1) (cT ω 1) K i (am_get ω (38 + 2 * s)) V m i) → O_ship (cn ω 1) (cT ω 1) (flS (cn ω 1) (cC ω 1) (cT ω 1) K i (am_get ω (38 + 2 * s)) V m j) → ∃ u' w', am_run (134, 0) 36 ([some (.inr (.inr 0)), some (.inr (.inr (((37 + 2 * s : Nat) : Int)))), some (.inl ((N : Int))), some (.inl ((i : Int))), some (.inl ((j : Int))), some (.inl ((m : Int)))], [], (WW ω u w)) = some (some (.inl (ff (fun m => fW (flS (cn ω 1) (cC ω 1) (cT ω 1) K i (am_get ω (38 + 2 * s)) V m i) (flS (cn ω 1) (cC ω 1) (cT ω 1) K i (am_get ω (38 + 2 * s)) V m j)) m (d + 1))), WW ω u' w') := by
  intro d
  induction d with
  | zero =>
    intro m hm u w E F O P
    obtain rfl : m = N := by omega
    have b : Bs (WW ω u w) := h.dc (WW_dc h)
    refine ⟨u, w, ?_⟩
    have cw := c_isWith (i_35 b) (i_36 b)
    rw [show am_get (WW ω u w) (Int.toNat 35) = u from WW_35, show am_get (WW ω u w) (Int.toNat 36) = w from WW_36] at cw
    rw [pX6_firstMeeting_36 _ _ _ _ _ _ _ (i_0 b) (by simp only [Int.toNat_zero]; rw [f_0_6 b]; exact i_35 b) (is_shelf b hs), if_pos (by omega)]
    simp only [am_bi_s, am_bl_s, am_ba_s, am_bv_s, Int.toNat_zero, Int.reduceToNat, Int.toNat_natCast, if_true, if_false, not_true, not_false_eq_true, Int.reduceEq, Int.reduceLT, Int.reduceLE, f_0_6 b, f_0_7 b, cw]
    by_cases g : fW (flS (cn ω 1) (cC ω 1) (cT ω 1) K i (am_get ω (38 + 2 * s)) V m i) (flS (cn ω 1) (cC ω 1) (cT ω 1) K i (am_get ω (38 + 2 * s)) V m j)
    · rw [b01_pos ((fW_c E F).mp g), if_neg (by omega), ff_y (p := fun m => fW (flS (cn ω 1) (cC ω 1) (cT ω 1) K i (am_get ω (38 + 2 * s)) V m i) (flS (cn ω 1) (cC ω 1) (cT ω 1) K i (am_get ω (38 + 2 * s)) V m j)) g]
    · rw [b01_neg (fun z => g ((fW_c E F).mpr z)), if_pos rfl, ff_n (p := fun m => fW (flS (cn ω 1) (cC ω 1) (cT ω 1) K i (am_get ω (38 + 2 * s)) V m i) (flS (cn ω 1) (cC ω 1) (cT ω 1) K i (am_get ω (38 + 2 * s)) V m j)) g]
      rfl
  | succ d ih =>
    intro m hm u w E F O P
    have b : Bs (WW ω u w) := h.dc (WW_dc h)
    obtain ⟨k1, k2, k3, k4⟩ := WW_W (ω := ω) (u := u) (w := w)
    have e1 : am_get (WW ω u w) (37 + 2 * s) = am_get ω (37 + 2 * s) := WW_o (by omega)
    have e2 : am_get (WW ω u w) (38 + 2 * s) = am_get ω (38 + 2 * s) := WW_o (by omega)
    have Ou := O_c hn.2 E (fun _ _ => rfl : E6 (cT ω 1) (cT ω 1)) O
    have Pw := O_c hn.2 F (fun _ _ => rfl : E6 (cT ω 1) (cT ω 1)) P
    have cc := code_c (n := cn ω 1) (C := cC ω 1) (d := am_get ω (38 + 2 * s) m) hn.2 E (fun _ _ => rfl)
    have cw := c_isWith (i_35 b) (i_36 b)
    rw [show am_get (WW ω u w) (Int.toNat 35) = u from WW_35, show am_get (WW ω u w) (Int.toNat 36) = w from WW_36] at cw
    have q := pX6_firstMeeting_36 0 ((37 + 2 * s : Nat) : Int) N i j m (WW ω u w) (i_0 b) (by simp only [Int.toNat_zero]; rw [f_0_6 b]; exact i_35 b) (is_shelf b hs)
    rw [if_neg (by omega)] at q
    simp only [am_bi_s, am_bl_s, am_ba_s, am_bv_s, Int.toNat_zero, Int.reduceToNat, Int.toNat_natCast, if_true, if_false, not_true, not_false_eq_true, Int.reduceEq, Int.reduceLT, Int.reduceLE, i_0 b, i_1 b, f_0_0 b, f_0_3 b, f_0_4 b, f_1_1 b, f_1_2 b, f_1_4 b, f_0_6 b, f_0_7 b, e1, if_neg (show ¬ am_get ω (37 + 2 * s) 1 ≤ (m : Int) by omega), cw, is_shelf b hs] at q
    by_cases g : fW (flS (cn ω 1) (cC ω 1) (cT ω 1) K i (am_get ω (38 + 2 * s)) V m i) (flS (cn ω 1) (cC ω 1) (cT ω 1) K i (am_get ω (38 + 2 * s)) V m j)
    · refine ⟨u, w, ?_⟩
      rw [q, b01_pos ((fW_c E F).mp g), if_neg (by omega), ff_y (p := fun m => fW (flS (cn ω 1) (cC ω 1) (cT ω 1) K i (am_get ω (38 + 2 * s)) V m i) (flS (cn ω 1) (cC ω 1) (cT ω 1) K i (am_get ω (38 + 2 * s)) V m j)) g]
    · have gc := ok m (by omega)
      have fy := c_fly_y b W1 (v := 35) (d := am_get ω (38 + 2 * s) m) (by rw [k1]; exact hn) (by rw [k4]; exact hC) (by rw [k3]; exact hT) (i_35 b) (by rw [k1, k3, show am_get (WW ω u w) (Int.toNat 35) = u from WW_35]; exact Ou) (by rw [k1, k4, show am_get (WW ω u w) (Int.toNat 35) = u from WW_35]; exact cc.mp gc)
      rw [k1, k4, k3, show am_get (WW ω u w) (Int.toNat 35) = u from WW_35, show setV (WW ω u w) (Int.toNat 35) (flyF (cn ω 1) (cC ω 1) (cT ω 1) u (am_get ω (38 + 2 * s) m)) = WW ω (flyF (cn ω 1) (cC ω 1) (cT ω 1) u (am_get ω (38 + 2 * s) m)) w from WW_s35] at fy
      have b2 : Bs (WW ω (flyF (cn ω 1) (cC ω 1) (cT ω 1) u (am_get ω (38 + 2 * s) m)) w) := h.dc (WW_dc h)
      obtain ⟨j1, j2, j3, j4⟩ := WW_W (ω := ω) (u := flyF (cn ω 1) (cC ω 1) (cT ω 1) u (am_get ω (38 + 2 * s) m)) (w := w)
      have dr := c_drift b2 W1 (by rw [j1]; exact hn.2) (by rw [j3]; exact hT) (v := 36) (i_36 b2) (by rw [j1, j3, show am_get (WW ω (flyF (cn ω 1) (cC ω 1) (cT ω 1) u (am_get ω (38 + 2 * s) m)) w) (Int.toNat 36) = w from WW_36]; exact Pw)
      rw [j3, show am_get (WW ω (flyF (cn ω 1) (cC ω 1) (cT ω 1) u (am_get ω (38 + 2 * s) m)) w) (Int.toNat 36) = w from WW_36, show setV (WW ω (flyF (cn ω 1) (cC ω 1) (cT ω 1) u (am_get ω (38 + 2 * s) m)) w) (Int.toNat 36) (drF (cT ω 1) w) = WW ω (flyF (cn ω 1) (cC ω 1) (cT ω 1) u (am_get ω (38 + 2 * s) m)) (drF (cT ω 1) w) from WW_s36] at dr
      obtain ⟨u', w', r⟩ := ih (m + 1) (by omega) (flyF (cn ω 1) (cC ω 1) (cT ω 1) u (am_get ω (38 + 2 * s) m)) (drF (cT ω 1) w) (by rw [flS_i hi]; exact fly_c hn.2 hT hC O gc E (fun _ _ => rfl) (fun _ _ => rfl)) (by rw [flS_o hj hij]; exact dr_c hn.2 P F (fun _ _ => rfl)) (by rw [flS_i hi]; exact fly_O hn.2 hT hC O gc) (by rw [flS_o hj hij]; exact dr_O hn.2 hT P)
      refine ⟨u', w', ?_⟩
      rw [b01_neg (fun z => g ((fW_c E F).mpr z)), if_pos rfl] at q
      have gE : am_get ω (37 + 2 * s) 2 = ((38 + 2 * s : Nat) : Int) := g_elem h hs
      simp only [gE, am_bi_s, am_bl_s, am_ba_s, am_bv_s, Int.toNat_zero, Int.reduceToNat, Int.toNat_natCast, if_true, if_false, not_true, not_false_eq_true, Int.reduceEq, Int.reduceLT, Int.reduceLE, in_elem b hs (i := (m : Int)) (by omega) (by omega), e2, fy, i_0 b2, i_1 b2, f_0_0 b2, f_0_3 b2, f_0_4 b2, f_1_1 b2, f_1_2 b2, f_1_4 b2, f_0_7 b2, dr] at q
      rw [q, am_w_s (by omega) (by omega), show (m : Int) + 1 = ((m + 1 : Nat) : Int) by omega, r, ff_n (p := fun m => fW (flS (cn ω 1) (cC ω 1) (cT ω 1) K i (am_get ω (38 + 2 * s)) V m i) (flS (cn ω 1) (cC ω 1) (cT ω 1) K i (am_get ω (38 + 2 * s)) V m j)) g]
/-- only the model's ships have changed, in their six places -/
def FrM6 (ω ω' : am_W) : Prop := Dc ω ω' ∧ ∀ a k, ¬ ((59 ≤ a ∧ a ≤ 63) ∧ k < 6) → am_get ω' a k = am_get ω a k
theorem FrM6.rf : FrM6 ω ω := ⟨Dc.rf ω, fun _ _ _ => rfl⟩
theorem FrM6.tr {ω1 ω2 : am_W} (h : FrM6 ω ω1) (g : FrM6 ω1 ω2) : FrM6 ω ω2 := ⟨h.1.tr g.1, fun a k ha => (g.2 a k ha).trans (h.2 a k ha)⟩
theorem FrM6.set (h : Bs ω) {i : Nat} (hi : i < 6) {u : Nat → Int} : FrM6 ω (setM ω i u) := ⟨setM_dc h, fun a k ha => setM_o (fun q => ha ⟨q.1, by omega⟩)⟩
theorem FrM6.rd {ω1 : am_W} (h : FrM6 ω ω1) : mn ω1 = mn ω ∧ mk ω1 = mk ω ∧ mT ω1 = mT ω ∧ mC ω1 = mC ω := ⟨h.2 53 3 (by omega), h.2 53 6 (by omega), funext fun j => h.2 57 j (by omega), funext fun j => h.2 58 j (by omega)⟩
theorem m_flyDrift {n : Int} {T : Nat → Int} {K : Nat} (h6 : K ≤ 6) (hn : n ≤ 6) (hT : Tok T) (l1 l2 l3 l4 l5 l6 : Int) : ∀ d j, j + d = K → ∀ ω V, Bs ω → mn ω = n → E6 T (mT ω) → mk ω = (K : Int) → OV n T K V → EV 6 V (mV ω) → ∃ ω', am_run (196, 0) 88 ([some (.inr (.inr 53)), some (.inl l1), some (.inl l2), some (.inl l3), some (.inl l4), some (.inl l5), some (.inr (.inl l6)), none, some (.inl ((j : Int)))], [], ω) = am_run (196, 0) 88 ([some (.inr (.inr 53)), some (.inl l1), some (.inl l2), some (.inl l3), some (.inl l4), some (.inl l5), some (.inr (.inl l6)), none, some (.inl ((K : Int)))], [], ω') ∧ FrM6 ω ω' ∧ EV 6 (fun i => if j ≤ i ∧ i < K then drF T (V i) else V i) (mV ω') := by
  intro d
  induction d with
  | zero =>
    intro j hj ω V h e1 e2 e3 O E
    obtain rfl : j = K := by omega
    exact ⟨ω, rfl, FrM6.rf, fun i hi => by dsimp only; rw [if_neg (by omega)]; exact E i hi⟩
  | succ d ih =>
    intro j hj ω V h e1 e2 e3 O E
    have e3' : am_get ω 53 6 = (K : Int) := e3
    have Oj := O_c hn (E j (by omega)) e2 (O j (by omega))
    have s := m_driftM h (by rw [e1]; exact hn) (fun k hk => by rw [← e2 k hk]; exact hT k hk) (i := j) (by omega) (by rw [e1]; exact Oj)
    have F := FrM6.set h (i := j) (by omega) (u := drF (mT ω) (mV ω j))
    obtain ⟨g1, g2, g3, g4⟩ := F.rd
    have dj := dr_c hn (O j (by omega)) (E j (by omega)) e2
    obtain ⟨ω', r, F', c'⟩ := ih (j + 1) (by omega) _ (fun i => if i = j then drF T (V i) else V i) (h.dc F.1) (g1.trans e1) (by rw [g3]; exact e2) (g2.trans e3) (fun i hi => by
      dsimp only
      by_cases q : i = j
      · rw [if_pos q]; exact dr_O hn hT (O i hi)
      · rw [if_neg q]; exact O i hi) (fun i hi f hf => by
      dsimp only
      by_cases q : i = j
      · rw [if_pos q, q, setM_V hf]; exact dj f hf
      · rw [if_neg q, setM_Vo q]; exact E i hi f hf)
    refine ⟨ω', ?_, F.tr F', fun i hi f hf => ?_⟩
    · rw [← r, pX7_fly_88 _ _ _ _ _ _ _ _ _ (i_53 h)]
      simp only [Int.reduceToNat, e3']
      rw [if_neg (by omega), bv_v s, am_w_s (by omega) (by omega), show (j : Int) + 1 = ((j + 1 : Nat) : Int) by omega]
    · rw [← c' i hi f hf]
      dsimp only
      by_cases q : i = j
      · rw [if_pos (by omega), if_neg (by omega), if_pos q]
      · by_cases q2 : j ≤ i ∧ i < K
        · rw [if_pos q2, if_pos (by omega), if_neg q]
        · rw [if_neg q2, if_neg (by omega), if_neg q]
end K40
