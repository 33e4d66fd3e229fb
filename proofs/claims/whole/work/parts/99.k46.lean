/-! ===== tag: the class's ===== -/
section K46
variable {ω : am_W}
theorem sv_c {x y : Int} {ω : am_W} (h : x = y) : (some (some (.inl x), ω) : Option am_R) = some (some (.inl y), ω) := by rw [h]
/-- the chase stands, its first cell being c -/
def Chs (ω : am_W) (c : Nat) : Prop := 72 ≤ c ∧ (∀ j, j < 15 → ω.1[c + j]? = sh_C[j]?) ∧ B_ch ω.2.1 c
theorem Chs.dc {ω' : am_W} {c : Nat} (h : Chs ω c) (d : Dc ω ω') : Chs ω' c := ⟨h.1, by rw [d.1]; exact h.2.1, ch_kp h.2.1 d h.2.2⟩
section CH
variable {c : Nat}
theorem chs_is (h : Chs ω c) : am_is ω (c : Int) (0, 3) = true := by
  have := h.2.1 0 (by omega)
  unfold am_is
  rw [Int.toNat_natCast, show ω.1[c]? = some (0, 3) from this]
  simp
theorem chs_1 (h : Chs ω c) : am_get ω c 1 = ((c + 1 : Nat) : Int) := h.2.2.2.1
theorem chs_2 (h : Chs ω c) : am_get ω c 2 = ((c + 2 : Nat) : Int) := h.2.2.2.2.1
theorem chs_0 (h : Chs ω c) : am_get ω c 0 = 1 := h.2.2.1
theorem chs_A (h : Chs ω c) {j : Nat} (hj : j < 6) : am_get ω (c + 1) j = ((c + 3 + 2 * j : Nat) : Int) := (h.2.2.2.2.2 j hj).1
theorem chs_R (h : Chs ω c) {j : Nat} (hj : j < 6) : am_get ω (c + 2) j = ((c + 4 + 2 * j : Nat) : Int) := (h.2.2.2.2.2 j hj).2
theorem chs_ina (h : Chs ω c) {r : Nat} (hr : r = c + 1 ∨ r = c + 2) {i : Int} (h0 : 0 ≤ i) (h6 : i < 6) : am_ina ω (r : Int) i = true := by
  have sh : ω.1[r]? = some (102, 6) := by
    rcases hr with rfl | rfl
    · exact h.2.1 1 (by omega)
    · exact h.2.1 2 (by omega)
  have : am_in ω (r : Int) 102 i = true := by
    unfold am_in am_ar am_len
    rw [Int.toNat_natCast, sh]
    simp
    omega
  unfold am_ina
  rw [this]
  rfl
theorem chs_v (h : Chs ω c) {j : Nat} (hj : 3 ≤ j ∧ j < 15) : am_is ω ((c + j : Nat) : Int) (4, 5) = true := by
  have := h.2.1 j hj.2
  have e : sh_C[j]? = some (4, 5) := by
    have : ∀ j, j < 15 → 3 ≤ j → sh_C[j]? = some (4, 5) := by decide
    exact this j hj.2 hj.1
  rw [e] at this
  unfold am_is
  rw [Int.toNat_natCast, this]
  simp
  omega
/-- only ships of the chase behind that depth have changed -/
def FrT (c d : Nat) (ω ω' : am_W) : Prop := Dc ω ω' ∧ ∀ a, ¬ (c + 5 + 2 * d ≤ a ∧ a < c + 15) → am_get ω' a = am_get ω a
theorem FrT.rf {d : Nat} : FrT c d ω ω := ⟨Dc.rf ω, fun _ _ => rfl⟩
theorem FrT.tr {d : Nat} {ω1 ω2 : am_W} (h : FrT c d ω ω1) (g : FrT c d ω1 ω2) : FrT c d ω ω2 := ⟨h.1.tr g.1, fun a ha => (g.2 a ha).trans (h.2 a ha)⟩
theorem FrT.mono {d d' : Nat} (hd : d ≤ d') {ω1 : am_W} (h : FrT c d' ω ω1) : FrT c d ω ω1 := ⟨h.1, fun a ha => h.2 a (by omega)⟩
theorem FrT.set {d : Nat} (h : Chs ω c) {j : Nat} (hj : 5 + 2 * d ≤ j ∧ j < 15) {u : Nat → Int} : FrT c d ω (setV ω (c + j) u) := by
  refine ⟨?_, fun a ha => setV_o (by omega)⟩
  have := setV_dc (chs_v h (j := j) (by omega)) (u := u)
  rw [Int.toNat_natCast] at this
  exact this
theorem FrT.sky {d : Nat} {ω1 : am_W} (hc : 72 ≤ c) (h : FrT c d ω ω1) : cn ω1 1 = cn ω 1 ∧ cT ω1 1 = cT ω 1 ∧ cC ω1 1 = cC ω 1 ∧ ck ω1 1 = ck ω 1 := by
  have e : ∀ a, a < 72 → am_get ω1 a = am_get ω a := fun a ha => h.2 a (by omega)
  exact ⟨congrFun (e 1 (by omega)) 0, e 2 (by omega), e 3 (by omega), congrFun (e 1 (by omega)) 3⟩
end CH
/-- a ship of the chase becomes the one before it and flies: it is there, or the code can't be -/
theorem c_try {c d j : Nat} (h : Bs ω) (hc : Chs ω c) (hn : 2 ≤ cn ω 1 ∧ cn ω 1 ≤ 6) (hT : Tok (cT ω 1)) (hC : Cok (cC ω 1)) (hj : j = 3 + 2 * d ∨ j = 4 + 2 * d) (hd : d < 5) (O : O_ship (cn ω 1) (cT ω 1) (am_get ω (c + j))) (x : Int) : ∃ ω1, am_run (47, 0) 0 ([some (.inr (.inr (((c + (j + 2) : Nat) : Int)))), some (.inr (.inr (((c + j : Nat) : Int))))], [], ω) = some (none, ω1) ∧ FrT c d ω ω1 ∧ ∃ ω2, am_run (76, 0) 0 ([some (.inr (.inr 1)), some (.inr (.inr (((c + (j + 2) : Nat) : Int)))), some (.inr (.inl x)), none, none], [], ω1) = some (some (.inl (b01 (codeF (cn ω 1) (cC ω 1) (am_get ω (c + j)) x))), ω2) ∧ FrT c d ω ω2 ∧ (codeF (cn ω 1) (cC ω 1) (am_get ω (c + j)) x → E5 (flyF (cn ω 1) (cC ω 1) (cT ω 1) (am_get ω (c + j)) x) (am_get ω2 (c + (j + 2)))) ∧ ∀ a, a ≠ c + (j + 2) → am_get ω2 a = am_get ω a := by
  have vb := c_vbecome (v := ((c + (j + 2) : Nat) : Int)) (u := ((c + j : Nat) : Int)) (chs_v hc (by omega)) (chs_v hc (by omega)) (by omega)
  rw [Int.toNat_natCast, Int.toNat_natCast] at vb
  have F1 := FrT.set (d := d) hc (j := j + 2) (by omega) (u := cp5 (am_get ω (c + j)) (am_get ω (c + (j + 2))))
  refine ⟨_, vb, F1, ?_⟩
  have B1 := h.dc F1.1
  have C1 := hc.dc F1.1
  obtain ⟨s1, s2, s3, s4⟩ := F1.sky hc.1
  have g1 : am_get (setV ω (c + (j + 2)) (cp5 (am_get ω (c + j)) (am_get ω (c + (j + 2))))) (c + (j + 2)) = cp5 (am_get ω (c + j)) (am_get ω (c + (j + 2))) := setV_get
  have e5 : E5 (am_get ω (c + j)) (cp5 (am_get ω (c + j)) (am_get ω (c + (j + 2)))) := fun f hf => (cp5_E _ _ f hf).symm
  have O1 := O_c hn.2 e5 (fun _ _ => rfl : E6 (cT ω 1) (cT ω 1)) O
  have cc := code_c (n := cn ω 1) (C := cC ω 1) (C' := cC ω 1) (d := x) hn.2 e5 (fun _ _ => rfl)
  by_cases g : codeF (cn ω 1) (cC ω 1) (am_get ω (c + j)) x
  · have fy := c_fly_y B1 W1 (v := ((c + (j + 2) : Nat) : Int)) (d := x) (by rw [s1]; exact hn) (by rw [s3]; exact hC) (by rw [s2]; exact hT) (chs_v C1 (by omega)) (by rw [s1, s2, Int.toNat_natCast, g1]; exact O1) (by rw [s1, s3, Int.toNat_natCast, g1]; exact cc.mp g)
    rw [s1, s2, s3, Int.toNat_natCast, g1, setV_setV] at fy
    rw [b01_pos g]
    refine ⟨_, fy, FrT.set (d := d) hc (by omega), fun _ => ?_, fun a ha => setV_o ha⟩
    rw [setV_get]
    exact fly_c hn.2 hT hC O g e5 (fun _ _ => rfl) (fun _ _ => rfl)
  · have fn := c_fly_n B1 W1 (v := ((c + (j + 2) : Nat) : Int)) (d := x) (by rw [s1]; exact hn) (by rw [s3]; exact hC) (by rw [s2]; exact hT) (chs_v C1 (by omega)) (by rw [s1, s2, Int.toNat_natCast, g1]; exact O1) (by rw [s1, s3, Int.toNat_natCast, g1]; exact fun z => g (cc.mpr z))
    rw [b01_neg g]
    exact ⟨_, fn, F1, fun z => absurd z g, fun a ha => setV_o ha⟩
theorem c_catches {c : Nat} : ∀ (t d ℓ : Nat) (ω : am_W), 2 * t + 1 ≤ ℓ → d + t ≤ 5 → Bs ω → Chs ω c → 2 ≤ cn ω 1 ∧ cn ω 1 ≤ 6 → Tok (cT ω 1) → Cok (cC ω 1) → O_ship (cn ω 1) (cT ω 1) (am_get ω (c + (3 + 2 * d))) → O_ship (cn ω 1) (cT ω 1) (am_get ω (c + (4 + 2 * d))) → ∃ ω', am_run (2, ℓ) 0 ([some (.inr (.inr ((c : Int)))), some (.inl ((d : Int))), some (.inl (((d + t : Nat) : Int))), none], [], ω) = some (some (.inl (b01 (tgF (cn ω 1) (cC ω 1) (cT ω 1) t (am_get ω (c + (3 + 2 * d))) (am_get ω (c + (4 + 2 * d)))))), ω') ∧ FrT c d ω ω' := by
  intro t
  induction t with
  | zero =>
    intro d ℓ ω hℓ h5 h hc hn hT hC O P
    obtain ⟨lv, rfl⟩ : ∃ lv, ℓ = lv + 1 := ⟨ℓ - 1, by omega⟩
    refine ⟨ω, ?_, FrT.rf⟩
    have cw := c_isWith (chs_v hc (j := 3 + 2 * d) (by omega)) (chs_v hc (j := 4 + 2 * d) (by omega))
    rw [Int.toNat_natCast, Int.toNat_natCast] at cw
    rw [pX0_catches_0 _ _ _ _ _ (chs_is hc)]
    simp only [am_bi_s, am_bl_s, am_ba_s, am_bv_s, Int.toNat_zero, Int.reduceToNat, Int.toNat_natCast, if_true, if_false, not_true, not_false_eq_true, Int.reduceEq, Int.reduceLT, Int.reduceLE, chs_1 hc, chs_2 hc, chs_ina hc (Or.inl rfl) (i := (d : Int)) (by omega) (by omega), chs_ina hc (Or.inr rfl) (i := (d : Int)) (by omega) (by omega), chs_A hc (j := d) (by omega), chs_R hc (j := d) (by omega)]
    rw [show c + 3 + 2 * d = c + (3 + 2 * d) by omega, show c + 4 + 2 * d = c + (4 + 2 * d) by omega, if_pos (chs_v hc (j := 3 + 2 * d) (by omega)), bi_v cw, show tgF (cn ω 1) (cC ω 1) (cT ω 1) 0 (am_get ω (c + (3 + 2 * d))) (am_get ω (c + (4 + 2 * d))) = fW (am_get ω (c + (3 + 2 * d))) (am_get ω (c + (4 + 2 * d))) from rfl]
    by_cases g : fW (am_get ω (c + (3 + 2 * d))) (am_get ω (c + (4 + 2 * d)))
    · rw [b01_pos g, if_neg (by omega)]
    · rw [b01_neg g, if_pos rfl, if_pos (by omega)]
  | succ t ih =>
    intro d ℓ ω hℓ h5 h hc hn hT hC O P
    obtain ⟨lv, rfl⟩ : ∃ lv, ℓ = lv + 2 := ⟨ℓ - 2, by omega⟩
    have hn6 := hn.2
    have last : ((d + (t + 1) : Nat) : Int) = ((d + 1 + t : Nat) : Int) := by omega
    have d1 : am_w ((d : Int) + 1) = ((d + 1 : Nat) : Int) := (am_w_s (by omega) (by omega)).trans (by omega)
    have eA : c + 3 + 2 * d = c + (3 + 2 * d) := by omega
    have eA1 : c + 3 + 2 * (d + 1) = c + ((3 + 2 * d) + 2) := by omega
    have eR : c + 4 + 2 * d = c + (4 + 2 * d) := by omega
    have eR1 : c + 4 + 2 * (d + 1) = c + ((4 + 2 * d) + 2) := by omega
    -- all answers to one code: the chaser of the next depth has flown to u
    have all : ∀ (u : Nat → Int), O_ship (cn ω 1) (cT ω 1) u → ∀ k a : Nat, a + k = 3 → ∀ ω1, FrT c d ω ω1 → E5 u (am_get ω1 (c + ((3 + 2 * d) + 2))) → ∃ ω2, am_run (3, (lv + 1)) 2 ([some (.inr (.inr ((c : Int)))), some (.inl ((d : Int))), some (.inl (((d + (t + 1) : Nat) : Int))), some (.inl ((a : Int)))], [], ω1) = some (some (.inl (b01 (∀ a' : Nat, a ≤ a' → a' < 3 → codeF (cn ω 1) (cC ω 1) (am_get ω (c + (4 + 2 * d))) (a' : Int) → tgF (cn ω 1) (cC ω 1) (cT ω 1) t u (flyF (cn ω 1) (cC ω 1) (cT ω 1) (am_get ω (c + (4 + 2 * d))) (a' : Int))))), ω2) ∧ FrT c d ω ω2 := by
      intro u Ou k
      induction k with
      | zero =>
        intro a ha ω1 F E
        refine ⟨ω1, ?_, F⟩
        rw [pX0_catchesAll_2 _ _ _ _ _ _ (chs_is (hc.dc F.1)), if_pos (by omega), b01_pos (fun a' h1 h2 => by omega)]
      | succ k ihk =>
        intro a ha ω1 F E
        have a3 : a < 3 := by omega
        have a2 : ¬ (2 : Int) < (a : Int) := by omega
        have ak : a + 1 + k = 3 := by omega
        have a1 : am_w ((a : Int) + 1) = ((a + 1 : Nat) : Int) := (am_w_s (by omega) (by omega)).trans (by omega)
        have d5 : d < 5 := by omega
        have B1 := h.dc F.1
        have C1 := hc.dc F.1
        obtain ⟨s1, s2, s3, s4⟩ := F.sky hc.1
        have gR : am_get ω1 (c + (4 + 2 * d)) = am_get ω (c + (4 + 2 * d)) := F.2 _ (by omega)
        obtain ⟨ω2, r2, F2, ω3, r3, F3, E3, o3⟩ := c_try (d := d) B1 C1 (by rw [s1]; exact hn) (by rw [s2]; exact hT) (by rw [s3]; exact hC) (j := 4 + 2 * d) (Or.inr rfl) d5 (by rw [s1, s2, gR]; exact P) (a : Int)
        rw [s1, s3, gR] at r3 E3
        rw [s2] at E3
        have C2 := C1.dc F2.1
        have C3 := C1.dc F3.1
        have F13 := F.tr F3
        have q := pX0_catchesAll_2 lv (c : Int) d ((d + (t + 1) : Nat) : Int) a ω1 (chs_is C1)
        rw [if_neg a2] at q
        simp only [am_bi_s, am_bl_s, am_ba_s, am_bv_s, Int.toNat_zero, Int.reduceToNat, Int.toNat_natCast, if_true, if_false, not_true, not_false_eq_true, Int.reduceEq, Int.reduceLT, Int.reduceLE, d1, chs_2 C1, chs_ina C1 (Or.inr rfl) (i := (d : Int)) (by omega) (by omega), chs_ina C1 (Or.inr rfl) (i := ((d + 1 : Nat) : Int)) (by omega) (by omega), chs_R C1 (j := d) (by omega), chs_R C1 (j := d + 1) (by omega), eR, eR1, chs_v C1 (j := (4 + 2 * d) + 2) (by omega), r2, chs_is C2, chs_2 C2, chs_ina C2 (Or.inr rfl) (i := ((d + 1 : Nat) : Int)) (by omega) (by omega), chs_0 C2, i_1 (B1.dc F2.1), chs_R C2 (j := d + 1) (by omega), r3, a1, chs_is C3] at q
        have E' : E5 u (am_get ω3 (c + ((3 + 2 * d) + 2))) := by rw [o3 _ (by omega)]; exact E
        by_cases ga : codeF (cn ω 1) (cC ω 1) (am_get ω (c + (4 + 2 * d))) (a : Int)
        · rw [b01_pos ga, if_neg (by omega)] at q
          have Pf := fly_O hn6 hT hC P ga
          obtain ⟨t1, t2, t3, t4⟩ := F13.sky hc.1
          obtain ⟨ω4, r4, F4⟩ := ih (d + 1) lv ω3 (by omega) (by omega) (h.dc F13.1) C3 (by rw [t1]; exact hn) (by rw [t2]; exact hT) (by rw [t3]; exact hC) (by rw [t1, t2, show 3 + 2 * (d + 1) = (3 + 2 * d) + 2 by omega]; exact O_c hn6 E' (fun _ _ => rfl) Ou) (by rw [t1, t2, show 4 + 2 * (d + 1) = (4 + 2 * d) + 2 by omega]; exact O_c hn6 (E3 ga) (fun _ _ => rfl) Pf)
          rw [t1, t2, t3, show 3 + 2 * (d + 1) = (3 + 2 * d) + 2 by omega, show 4 + 2 * (d + 1) = (4 + 2 * d) + 2 by omega, ← b01_c (tg_c hn6 hT hC (fun _ _ => rfl) (fun _ _ => rfl) t _ _ _ _ Ou Pf E' (E3 ga))] at r4
          rw [last, bi_v r4] at q
          have F14 := F13.tr (F4.mono (d := d) (by omega))
          by_cases gz : tgF (cn ω 1) (cC ω 1) (cT ω 1) t u (flyF (cn ω 1) (cC ω 1) (cT ω 1) (am_get ω (c + (4 + 2 * d))) (a : Int))
          · rw [b01_pos gz, if_pos (by omega), ← last] at q
            obtain ⟨ω5, r5, F5⟩ := ihk (a + 1) ak ω4 F14 (by rw [F4.2 _ (by omega)]; exact E')
            refine ⟨ω5, q.trans (r5.trans ?_), F5⟩
            refine sv_c (b01_c ⟨fun z a' h1 h2 h3 => ?_, fun z a' h1 h2 h3 => z a' (by omega) h2 h3⟩)
            by_cases e : a' = a
            · rw [e]; exact gz
            · exact z a' (by omega) h2 h3
          · rw [b01_neg gz, if_neg (by omega), ← last] at q
            refine ⟨ω4, q.trans ?_, F14⟩
            rw [b01_neg (fun z => gz (z a (Nat.le_refl a) a3 ga))]
        · rw [b01_neg ga, if_pos rfl] at q
          obtain ⟨ω5, r5, F5⟩ := ihk (a + 1) ak ω3 F13 E'
          refine ⟨ω5, q.trans (r5.trans ?_), F5⟩
          refine sv_c (b01_c ⟨fun z a' h1 h2 h3 => ?_, fun z a' h1 h2 h3 => z a' (by omega) h2 h3⟩)
          by_cases e : a' = a
          · exact absurd (e ▸ h3) ga
          · exact z a' (by omega) h2 h3
    -- the codes
    have cod : ∀ k x : Nat, x + k = 3 → ∀ ω1, FrT c d ω ω1 → ∃ ω2, am_run (2, (lv + 2)) 34 ([some (.inr (.inr ((c : Int)))), some (.inl ((d : Int))), some (.inl (((d + (t + 1) : Nat) : Int))), some (.inl ((x : Int)))], [], ω1) = some (some (.inl (b01 (∃ x' : Nat, x ≤ x' ∧ x' < 3 ∧ codeF (cn ω 1) (cC ω 1) (am_get ω (c + (3 + 2 * d))) (x' : Int) ∧ ∀ a : Nat, a < 3 → codeF (cn ω 1) (cC ω 1) (am_get ω (c + (4 + 2 * d))) (a : Int) → tgF (cn ω 1) (cC ω 1) (cT ω 1) t (flyF (cn ω 1) (cC ω 1) (cT ω 1) (am_get ω (c + (3 + 2 * d))) (x' : Int)) (flyF (cn ω 1) (cC ω 1) (cT ω 1) (am_get ω (c + (4 + 2 * d))) (a : Int))))), ω2) ∧ FrT c d ω ω2 := by
      intro k
      induction k with
      | zero =>
        intro x hx ω1 F
        refine ⟨ω1, ?_, F⟩
        rw [pX0_catches_34 _ _ _ _ _ _ (chs_is (hc.dc F.1)), if_pos (by omega), b01_neg (fun ⟨x', h1, h2, _⟩ => by omega)]
      | succ k ihk =>
        intro x hx ω1 F
        have x3 : x < 3 := by omega
        have x2 : ¬ (2 : Int) < (x : Int) := by omega
        have xk : x + 1 + k = 3 := by omega
        have x1 : am_w ((x : Int) + 1) = ((x + 1 : Nat) : Int) := (am_w_s (by omega) (by omega)).trans (by omega)
        have d5 : d < 5 := by omega
        have B1 := h.dc F.1
        have C1 := hc.dc F.1
        obtain ⟨s1, s2, s3, s4⟩ := F.sky hc.1
        have gA : am_get ω1 (c + (3 + 2 * d)) = am_get ω (c + (3 + 2 * d)) := F.2 _ (by omega)
        obtain ⟨ω2, r2, F2, ω3, r3, F3, E3, o3⟩ := c_try (d := d) B1 C1 (by rw [s1]; exact hn) (by rw [s2]; exact hT) (by rw [s3]; exact hC) (j := 3 + 2 * d) (Or.inl rfl) d5 (by rw [s1, s2, gA]; exact O) (x : Int)
        rw [s1, s3, gA] at r3 E3
        rw [s2] at E3
        have C2 := C1.dc F2.1
        have C3 := C1.dc F3.1
        have F13 := F.tr F3
        have q := pX0_catches_34 (lv + 1) (c : Int) d ((d + (t + 1) : Nat) : Int) x ω1 (chs_is C1)
        rw [if_neg x2] at q
        simp only [am_bi_s, am_bl_s, am_ba_s, am_bv_s, Int.toNat_zero, Int.reduceToNat, Int.toNat_natCast, if_true, if_false, not_true, not_false_eq_true, Int.reduceEq, Int.reduceLT, Int.reduceLE, d1, chs_1 C1, chs_ina C1 (Or.inl rfl) (i := (d : Int)) (by omega) (by omega), chs_ina C1 (Or.inl rfl) (i := ((d + 1 : Nat) : Int)) (by omega) (by omega), chs_A C1 (j := d) (by omega), chs_A C1 (j := d + 1) (by omega), eA, eA1, chs_v C1 (j := (3 + 2 * d) + 2) (by omega), r2, chs_is C2, chs_1 C2, chs_ina C2 (Or.inl rfl) (i := ((d + 1 : Nat) : Int)) (by omega) (by omega), chs_0 C2, i_1 (B1.dc F2.1), chs_A C2 (j := d + 1) (by omega), r3, x1, chs_is C3] at q
        have nx : ¬ (codeF (cn ω 1) (cC ω 1) (am_get ω (c + (3 + 2 * d))) (x : Int) ∧ ∀ a : Nat, a < 3 → codeF (cn ω 1) (cC ω 1) (am_get ω (c + (4 + 2 * d))) (a : Int) → tgF (cn ω 1) (cC ω 1) (cT ω 1) t (flyF (cn ω 1) (cC ω 1) (cT ω 1) (am_get ω (c + (3 + 2 * d))) (x : Int)) (flyF (cn ω 1) (cC ω 1) (cT ω 1) (am_get ω (c + (4 + 2 * d))) (a : Int))) → b01 (∃ x' : Nat, x + 1 ≤ x' ∧ x' < 3 ∧ codeF (cn ω 1) (cC ω 1) (am_get ω (c + (3 + 2 * d))) (x' : Int) ∧ ∀ a : Nat, a < 3 → codeF (cn ω 1) (cC ω 1) (am_get ω (c + (4 + 2 * d))) (a : Int) → tgF (cn ω 1) (cC ω 1) (cT ω 1) t (flyF (cn ω 1) (cC ω 1) (cT ω 1) (am_get ω (c + (3 + 2 * d))) (x' : Int)) (flyF (cn ω 1) (cC ω 1) (cT ω 1) (am_get ω (c + (4 + 2 * d))) (a : Int))) = b01 (∃ x' : Nat, x ≤ x' ∧ x' < 3 ∧ codeF (cn ω 1) (cC ω 1) (am_get ω (c + (3 + 2 * d))) (x' : Int) ∧ ∀ a : Nat, a < 3 → codeF (cn ω 1) (cC ω 1) (am_get ω (c + (4 + 2 * d))) (a : Int) → tgF (cn ω 1) (cC ω 1) (cT ω 1) t (flyF (cn ω 1) (cC ω 1) (cT ω 1) (am_get ω (c + (3 + 2 * d))) (x' : Int)) (flyF (cn ω 1) (cC ω 1) (cT ω 1) (am_get ω (c + (4 + 2 * d))) (a : Int))) := fun ng => b01_c ⟨fun ⟨c', h1, h2⟩ => ⟨c', by omega, h2⟩, fun ⟨c', h1, h2, h3⟩ => ⟨c', by
          by_cases e : c' = x
          · exact absurd (e ▸ h3) ng
          · omega, h2, h3⟩⟩
        by_cases gx : codeF (cn ω 1) (cC ω 1) (am_get ω (c + (3 + 2 * d))) (x : Int)
        · rw [b01_pos gx, if_neg (by omega)] at q
          obtain ⟨ω4, r4, F4⟩ := all _ (fly_O hn6 hT hC O gx) 3 0 (by omega) ω3 F13 (E3 gx)
          rw [pX0_catchesAll_0, show (some (.inl 0) : Option am_V) = some (.inl ((0 : Nat) : Int)) from rfl, bi_v r4] at q
          by_cases ga : ∀ a : Nat, a < 3 → codeF (cn ω 1) (cC ω 1) (am_get ω (c + (4 + 2 * d))) (a : Int) → tgF (cn ω 1) (cC ω 1) (cT ω 1) t (flyF (cn ω 1) (cC ω 1) (cT ω 1) (am_get ω (c + (3 + 2 * d))) (x : Int)) (flyF (cn ω 1) (cC ω 1) (cT ω 1) (am_get ω (c + (4 + 2 * d))) (a : Int))
          · rw [b01_pos (fun a' _ h2 => ga a' h2), if_neg (by omega)] at q
            refine ⟨ω4, q.trans ?_, F4⟩
            rw [b01_pos ⟨x, Nat.le_refl x, x3, gx, ga⟩]
          · rw [b01_neg (fun z => ga (fun a h2 => z a (by omega) h2)), if_pos rfl] at q
            obtain ⟨ω5, r5, F5⟩ := ihk (x + 1) xk ω4 F4
            refine ⟨ω5, q.trans (r5.trans ?_), F5⟩
            rw [nx (fun z => ga z.2)]
        · rw [b01_neg gx, if_pos rfl] at q
          obtain ⟨ω5, r5, F5⟩ := ihk (x + 1) xk ω3 F13
          refine ⟨ω5, q.trans (r5.trans ?_), F5⟩
          rw [nx (fun z => gx z.1)]
    have cw := c_isWith (chs_v hc (j := 3 + 2 * d) (by omega)) (chs_v hc (j := 4 + 2 * d) (by omega))
    rw [Int.toNat_natCast, Int.toNat_natCast] at cw
    have q := pX0_catches_0 (lv + 1) (c : Int) d ((d + (t + 1) : Nat) : Int) ω (chs_is hc)
    simp only [am_bi_s, am_bl_s, am_ba_s, am_bv_s, Int.toNat_zero, Int.reduceToNat, Int.toNat_natCast, if_true, if_false, not_true, not_false_eq_true, Int.reduceEq, Int.reduceLT, Int.reduceLE, chs_1 hc, chs_2 hc, chs_ina hc (Or.inl rfl) (i := (d : Int)) (by omega) (by omega), chs_ina hc (Or.inr rfl) (i := (d : Int)) (by omega) (by omega), chs_A hc (j := d) (by omega), chs_R hc (j := d) (by omega), eA, eR, chs_v hc (j := 3 + 2 * d) (by omega), cw] at q
    by_cases g : fW (am_get ω (c + (3 + 2 * d))) (am_get ω (c + (4 + 2 * d)))
    · rw [b01_pos g, if_neg (by omega)] at q
      exact ⟨ω, by rw [b01_pos (tg_s.mpr (Or.inl g))]; exact q, FrT.rf⟩
    · rw [b01_neg g, if_pos rfl, if_neg (by omega), if_pos (by omega)] at q
      obtain ⟨ω2, r2, F2⟩ := cod 3 0 (by omega) ω FrT.rf
      refine ⟨ω2, q.trans (r2.trans ?_), F2⟩
      refine sv_c (b01_c ?_)
      rw [tg_s]
      constructor
      · rintro ⟨c', _, z⟩; exact Or.inr ⟨c', z⟩
      · rintro (z | ⟨c', z⟩)
        · exact absurd z g
        · exact ⟨c', by omega, z⟩
end K46
