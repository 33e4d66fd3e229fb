/-! ===== burnt: the model ===== -/
section K104
variable {ω : am_W} {n : Int} {T C : Nat → Int} {K : Int} {i : Nat} {A : Nat → Nat → Nat → Prop}
/-- the model's numbers stand for a set -/
def MR (ω : am_W) (A : Nat → Nat → Nat → Prop) : Prop := (∀ q b m, q < 120 → b ≤ 10 → m < 8 → am_get ω 68 (stI q b m) = 10000 ∨ ∃ d : Nat, am_get ω 68 (stI q b m) = (d : Int) ∧ m = 0 ∧ A q b d) ∧ ∀ q b d, A q b d → am_get ω 68 (stI q b 0) ≤ (d : Int)
theorem MR.rg (hc : Cht (cvd n T) (cok n C K) (ctg T) (cln T) (cpc n C K)) (h : MR ω A) (av : AV (cvd n T) 900 A) : Rg n T ω := by
  intro q b m hq hb hm
  rcases h.1 q b m (hc q hq).1 hb hm with z | ⟨d, z1, z2, z3⟩
  · exact Or.inl z
  · exact Or.inr ⟨d, by have := (av _ _ _ z3).2.2; omega, z1⟩
theorem MR.step {ω' : am_W} (hc : Cht (cvd n T) (cok n C K) (ctg T) (cln T) (cpc n C K)) (h : MR ω A) (av : AV (cvd n T) 900 A) (g : NG n T C K ω ω') : MR ω' (StF n T C K A) := by
  refine ⟨fun q' b' m hq' hb' hm => ?_, fun q' b' d' hp => ?_⟩
  · rcases g.1 q' b' m hq' hb' hm with z | ⟨q, b, e, d, y1, y2, y3, y4, y5, y6⟩
    · exact Or.inl z
    · rcases h.1 q b m (hc q y1).1 y2 hm with z | ⟨d2, z1, z2, z3⟩
      · rw [z] at y3; omega
      · have : d2 = d := by omega
        subst this
        exact Or.inr ⟨d2 + e, y6, z2, q, b, d2, e, z3, y5, rfl⟩
  · obtain ⟨q, b, d, e, x1, x2, x3⟩ := hp
    obtain ⟨v1, v2, v3⟩ := av _ _ _ x1
    have B := h.2 q b d x1
    rcases h.1 q b 0 (hc q v1).1 v2 (by omega) with z | ⟨d2, z1, z2, z3⟩
    · rw [z] at B; omega
    · rw [z1] at B
      have := g.2 q b 0 v1 v2 (by omega) d2 z1 (by omega) q' b' e x2
      omega
/-- all but one number is taken away -/
theorem m_333 (h : Bs ω) {l1 l2 l3 l4 l5 l6 l7 l8 : Int} {o10 o11 : Option am_V} : ∀ m k : Nat, k + m = 10560 → am_run (218, 0) 333 ([some (.inr (.inr 53)), some (.inl l1), some (.inl l2), some (.inl l3), some (.inl l4), some (.inl l5), some (.inl l6), some (.inl l7), some (.inl l8), some (.inl ((k : Int))), o10, o11], [], (fillR ω 68 0 k 10000)) = am_run (218, 0) 333 ([some (.inr (.inr 53)), some (.inl l1), some (.inl l2), some (.inl l3), some (.inl l4), some (.inl l5), some (.inl l6), some (.inl l7), some (.inl l8), some (.inl 10560), o10, o11], [], (fillR ω 68 0 10560 10000)) := by
  intro m
  have bs : ∀ k, Bs (fillR ω 68 0 k 10000) := fun k => h.dc (fillR_dc (fun k => am_rp_at (bs_sh h (a := 68) rfl)))
  induction m with
  | zero =>
    intro k hk
    obtain rfl : k = 10560 := by omega
    rfl
  | succ m ih =>
    intro k hk
    have B1 := bs k
    have Q := pX7_burnt_333 53 l1 l2 l3 l4 l5 l6 l7 l8 k o10 o11 (fillR ω 68 0 k 10000) (i_53 B1)
    simp only [am_bi_s, am_bl_s, am_ba_s, am_bv_s, Int.toNat_zero, Int.reduceToNat, Int.toNat_natCast, if_true, if_false, not_true, not_false_eq_true, Int.reduceEq, Int.reduceLT, Int.reduceLE, f_53_25 B1, (ar_68 B1).2, (ar_68 B1).1, n_68 B1 (i := (k : Int)) (by omega) (by omega)] at Q
    rw [if_neg (by omega), am_w_s (by omega) (by omega), fillR_s (by omega), show (k : Int) + 1 = ((k + 1 : Nat) : Int) by omega] at Q
    exact Q.trans (ih (k + 1) (by omega))
theorem m_only (h : Bs ω) (hc : Cht (cvd n T) (cok n C K) (ctg T) (cln T) (cpc n C K)) {x k : Nat} (hx : cvd n T x) (mr : MR ω A) (av : AV (cvd n T) 900 A) (hk : k ≤ 100) {l1 l2 l3 l4 l5 : Int} {o10 o11 : Option am_V} : ∃ (ω2 : am_W) (o8' o9' : Option am_V), am_run (218, 0) 333 ([some (.inr (.inr 53)), some (.inl l1), some (.inl l2), some (.inl l3), some (.inl l4), some (.inl l5), some (.inl (am_get ω 68 (stI x 0 0))), some (.inl ((k : Int))), some (.inl ((stI x 0 0 : Int))), some (.inl 0), o10, o11], [], ω) = am_run (218, 0) 242 ([some (.inr (.inr 53)), some (.inl l1), some (.inl l2), some (.inl l3), some (.inl l4), some (.inl l5), some (.inl (am_get ω 68 (stI x 0 0))), some (.inl (((k + 1 : Nat) : Int))), o8', o9', o10, o11], [], ω2) ∧ F89 ω ω2 ∧ MR ω2 (Kp A x) ∧ LT (A x 0) 10000 (am_get ω 68 (stI x 0 0)) := by
  have x120 := (hc x hx).1
  have lt0 := stI_lt x120 (show 0 ≤ 10 by omega) (show 0 < 8 by omega)
  have lt : ((stI x 0 0 : Nat) : Int) < 10560 := Int.ofNat_lt.mpr lt0
  obtain ⟨v, hv⟩ : ∃ v, v = am_get ω 68 (stI x 0 0) := ⟨_, rfl⟩
  rw [← hv]
  have fl := m_333 h (l1 := l1) (l2 := l2) (l3 := l3) (l4 := l4) (l5 := l5) (l6 := v) (l7 := (k : Int)) (l8 := (stI x 0 0 : Int)) (o10 := o10) (o11 := o11) 10560 0 (by omega)
  rw [fillR_0] at fl
  obtain ⟨ω1, w1⟩ : ∃ w, w = fillR ω 68 0 10560 10000 := ⟨_, rfl⟩
  have d1 : Dc ω ω1 := by rw [w1]; exact fillR_dc (fun k => am_rp_at (bs_sh h (a := 68) rfl))
  have o1 : ∀ a k, a ≠ 68 → am_get ω1 a k = am_get ω a k := fun a k z => by rw [w1]; exact fillR_g (fun y => z y.1)
  rw [← w1] at fl
  have B1 := h.dc d1
  have le : ((10560 : Nat) : Int) ≤ 10560 := by omega
  have Q := pX7_burnt_333 53 l1 l2 l3 l4 l5 v k (stI x 0 0 : Int) 10560 o10 o11 ω1 (i_53 B1)
  simp only [am_bi_s, am_bl_s, am_ba_s, am_bv_s, Int.toNat_zero, Int.reduceToNat, Int.toNat_natCast, if_true, if_false, not_true, not_false_eq_true, Int.reduceEq, Int.reduceLT, Int.reduceLE, f_53_25 B1, (ar_68 B1).2, (ar_68 B1).1, if_pos le, n_68 B1 (Int.natCast_nonneg _) lt] at Q
  rw [am_w_s (by omega) (by omega), show (k : Int) + 1 = ((k + 1 : Nat) : Int) by omega] at Q
  have g1 := mr.1 x 0 0 x120 (by omega) (by omega)
  rw [← hv] at g1
  have g2 : ∀ d, A x 0 d → v ≤ (d : Int) := fun d hd => by rw [hv]; exact mr.2 x 0 d hd
  refine ⟨_, _, _, fl.trans Q, ⟨d1.tr (Dc.put (am_rp_at (bs_sh B1 (a := 68) rfl))), fun a k z1 z2 => (gp_cell z1).trans (o1 a k z1)⟩, ⟨fun q b m hq hb hm => ?_, fun q b d hp => ?_⟩, ?_⟩
  · by_cases z : stI q b m = stI x 0 0
    · obtain ⟨rfl, rfl, rfl⟩ := stI_inj hb hm (by omega) (by omega) z
      rw [gp_same]
      rcases g1 with y | ⟨d, y1, _, y2⟩
      · exact Or.inl y
      · exact Or.inr ⟨d, y1, rfl, rfl, rfl, y2⟩
    · rw [gp_place z, w1]
      exact Or.inl (fillR_v ⟨by omega, stI_lt hq hb hm⟩)
  · obtain ⟨rfl, rfl, h3⟩ := hp
    rw [gp_same]
    exact g2 d h3
  · rcases g1 with y | ⟨d, y1, _, y2⟩
    · exact Or.inl ⟨y, fun d hd => by have a := g2 d hd; have b := (av _ _ _ hd).2.2; omega⟩
    · exact Or.inr ⟨d, y1, by have b := (av _ _ _ y2).2.2; omega, y2, fun d' hd' => by have := g2 d' hd'; omega⟩
/-- up to a sighting -/
theorem m_upto (h : Bs ω) (mp : MP ω i n T C K) {σ k : Nat} {t x : Nat → Nat} {R : Nat → Int} {N : Nat} (hσ : σ < 8) (hN : N ≤ 10) (hk : k < N) (eR : ∀ j, j < 40 → am_get ω 56 (40 * σ + j) = R j) (w : Rw R t x N) (o : SgO n T t x N) {D : Nat} (hD : D + 9 * t k ≤ 900) {l2 l4 l6 : Int} {o8 o9 o10 o11 : Option am_V} : ∀ m τ, τ + m = t k → ∀ ω1 A, F89 ω ω1 → MR ω1 A → AV (cvd n T) (D + 9 * τ) A → ∃ (ω2 : am_W) (v : Int) (o8' o9' : Option am_V), am_run (218, 0) 248 ([some (.inr (.inr 53)), some (.inl ((σ : Int))), some (.inl l2), some (.inl ((i : Int))), some (.inl l4), some (.inl ((τ : Int))), some (.inl l6), some (.inl ((k : Int))), o8, o9, o10, o11], [], ω1) = am_run (218, 0) 242 ([some (.inr (.inr 53)), some (.inl ((σ : Int))), some (.inl l2), some (.inl ((i : Int))), some (.inl l4), some (.inl ((t k : Int))), some (.inl v), some (.inl (((k + 1 : Nat) : Int))), o8', o9', o10, o11], [], ω2) ∧ F89 ω ω2 ∧ MR ω2 (Kp (StnF n T C K A m) (x k)) ∧ LT (StnF n T C K A m (x k) 0) 10000 v := by
  have hc := mp_c mp
  obtain ⟨o1, o2, o3⟩ := o k hk
  obtain ⟨w1, w2, w3, w4, w5, w6⟩ := w k hk
  have Ax := ix3 (k := k) (by omega)
  have ix : ∀ _ : Unit, am_w (am_w (40 * (σ : Int)) + ((3 * k : Nat) : Int)) = ((40 * σ + 3 * k : Nat) : Int) ∧ am_w (((40 * σ + 3 * k : Nat) : Int) + 1) = ((40 * σ + (3 * k + 1) : Nat) : Int) ∧ am_w (((40 * σ + 3 * k : Nat) : Int) + 2) = ((40 * σ + (3 * k + 2) : Nat) : Int) := fun _ => by
    refine ⟨?_, (am_w_s (by omega) (by omega)).trans (by omega), (am_w_s (by omega) (by omega)).trans (by omega)⟩
    rw [am_w_s (z := 40 * (σ : Int)) (by omega) (by omega), am_w_s (by omega) (by omega)]
    omega
  intro m
  induction m with
  | zero =>
    intro τ hτ ω1 A f mr av
    obtain rfl : τ = t k := by omega
    have B1 := h.dc f.1
    have x120 := (hc _ o3).1
    have n0 := n_56 B1 (i := ((40 * σ + 3 * k : Nat) : Int)) (by omega) (by omega)
    have n1 := n_56 B1 (i := ((40 * σ + (3 * k + 1) : Nat) : Int)) (by omega) (by omega)
    have n2 := n_56 B1 (i := ((40 * σ + (3 * k + 2) : Nat) : Int)) (by omega) (by omega)
    have e : ∀ j, j < 40 → am_get ω1 56 (40 * σ + j) = R j := fun j hj => (f.2 _ _ (by omega) (by omega)).trans (eR j hj)
    have Q := pX7_burnt_248 53 σ l2 i l4 (t k) l6 k o8 o9 o10 o11 ω1 (i_53 B1)
    have ge : ((t k : Nat) : Int) ≤ ((t k : Nat) : Int) := Int.le_refl _
    have c1 : ∀ _ : Unit, am_w (R (3 * k + 1)) = (((R (3 * k + 1)).toNat : Nat) : Int) ∧ am_w (R (3 * k + 2)) = (((R (3 * k + 2)).toNat : Nat) : Int) := fun _ => ⟨(am_w_s (by omega) (by omega)).trans (by omega), (am_w_s (by omega) (by omega)).trans (by omega)⟩
    have ms : am_run (200, 0) 0 ([some (.inl ((((R (3 * k + 1)).toNat : Nat) : Int))), some (.inl ((((R (3 * k + 2)).toNat : Nat) : Int))), some (.inl 0), some (.inl 0)], [], ω1) = some (some (.inl (stI (x k) 0 0 : Int)), ω1) := by
      have := m_state (ω := ω1) (c := (R (3 * k + 1)).toNat) (r := (R (3 * k + 2)).toNat) (b := 0) (m := 0) (by omega) (by omega) (by omega) (by omega)
      rw [show (R (3 * k + 1)).toNat * 20 + (R (3 * k + 2)).toNat = x k by omega] at this
      exact this
    have lt : ((stI (x k) 0 0 : Nat) : Int) < 10560 := Int.ofNat_lt.mpr (stI_lt x120 (by omega) (by omega))
    simp only [(Ax ()).1, (ix ()).1, (ix ()).2.1, (ix ()).2.2, Int.toNat_natCast, am_bi_s, am_bl_s, am_ba_s, am_bv_s, Int.toNat_zero, Int.reduceToNat, Int.toNat_natCast, if_true, if_false, not_true, not_false_eq_true, Int.reduceEq, Int.reduceLT, Int.reduceLE, f_53_2 B1, n0, n1, n2, e (3 * k) (by omega), e (3 * k + 1) (by omega), e (3 * k + 2) (by omega), w1, cmp_g0, if_pos ge, (c1 ()).1, (c1 ()).2, ms, i_53 B1, f_53_25 B1, n_68 B1 (Int.natCast_nonneg _) lt] at Q
    obtain ⟨ω2, a8, a9, r2, f2, mr2, l2'⟩ := m_only B1 hc o3 mr (AV_le av hD) (k := k) (by omega) (l1 := (σ : Int)) (l2 := l2) (l3 := (i : Int)) (l4 := l4) (l5 := (t k : Int)) (o10 := o10) (o11 := o11)
    exact ⟨ω2, _, a8, a9, Q.trans r2, f.tr f2, mr2, l2'⟩
  | succ m ih =>
    intro τ hτ ω1 A f mr av
    have B1 := h.dc f.1
    have mp1 := mp.kp (mk_kp f)
    have av9 := AV_le (E := 900) av (by omega)
    obtain ⟨ω2, r2, f2, g2⟩ := m_goOn B1 mp1 (mr.rg hc av9)
    have n0 := n_56 B1 (i := ((40 * σ + 3 * k : Nat) : Int)) (by omega) (by omega)
    have e : ∀ j, j < 40 → am_get ω1 56 (40 * σ + j) = R j := fun j hj => (f.2 _ _ (by omega) (by omega)).trans (eR j hj)
    have Q := pX7_burnt_248 53 σ l2 i l4 τ l6 k o8 o9 o10 o11 ω1 (i_53 B1)
    have ge : ¬ ((t k : Nat) : Int) ≤ (τ : Int) := by omega
    simp only [(Ax ()).1, (ix ()).1, Int.toNat_natCast, am_bi_s, am_bl_s, am_ba_s, am_bv_s, Int.toNat_zero, Int.reduceToNat, Int.toNat_natCast, if_true, if_false, not_true, not_false_eq_true, Int.reduceEq, Int.reduceLT, Int.reduceLE, f_53_2 B1, n0, e (3 * k) (by omega), w1, cmp_g0, if_neg ge, r2] at Q
    rw [am_w_s (by omega) (by omega), show (τ : Int) + 1 = ((τ + 1 : Nat) : Int) by omega] at Q
    obtain ⟨ω3, v, a8, a9, r3, f3, mr3, l3⟩ := ih (τ + 1) (by omega) ω2 _ (f.tr f2) (mr.step hc av9 g2) (AV_le (AV_s hc av) (by omega))
    have ea : StnF n T C K (StF n T C K A) m = StnF n T C K A (m + 1) := by
      have := Stn_a (ok := cok n C K) (tg := ctg T) (ln := cln T) (pc := cpc n C K) (A := A) (k := 1) (j := m)
      rw [Nat.add_comm 1 m] at this
      exact this
    rw [ea] at mr3 l3
    exact ⟨ω3, v, a8, a9, Q.trans r3, f3, mr3, l3⟩
theorem m_through (h : Bs ω) (mp : MP ω i n T C K) {σ N : Nat} {t x : Nat → Nat} {R : Nat → Int} (hσ : σ < 8) (hN : N ≤ 10) (h1N : 1 ≤ N) (eR : ∀ j, j < 40 → am_get ω 56 (40 * σ + j) = R j) (w : Rw R t x N) (o : SgO n T t x N) (av0 : AV (cvd n T) 0 A) {l4 : Int} : ∀ m k, k + m = N → ∀ (ω1 : am_W) (l6 : Int) (o8 o9 o10 o11 : Option am_V), F89 ω ω1 → MR ω1 (Sg n T C K A t x k) → (k = N → LT (Any (Sg n T C K A t x k)) 10000 l6) → ∃ (ω2 : am_W) (r : Int), am_run (218, 0) 242 ([some (.inr (.inr 53)), some (.inl ((σ : Int))), some (.inl ((N : Int))), some (.inl ((i : Int))), some (.inl l4), some (.inl ((pv t k : Int))), some (.inl l6), some (.inl ((k : Int))), o8, o9, o10, o11], [], ω1) = some (some (.inl r), ω2) ∧ F89 ω ω2 ∧ RZ (Any (Sg n T C K A t x N)) r := by
  have hc := mp_c mp
  intro m
  induction m with
  | zero =>
    intro k hk ω1 l6 o8 o9 o10 o11 f mr hkN
    obtain rfl : k = N := by omega
    have Q := pX7_burnt_242 53 σ k i l4 (pv t k) l6 k o8 o9 o10 o11 ω1
    rw [if_pos (Int.le_refl _)] at Q
    have rz := RZ_l (hkN rfl)
    by_cases z : l6 = 10000
    · rw [if_neg (fun y => y z)] at Q
      rw [if_pos z] at rz
      exact ⟨ω1, -1, Q, f, rz⟩
    · rw [if_pos z] at Q
      rw [if_neg z] at rz
      exact ⟨ω1, l6, Q, f, rz⟩
  | succ m ih =>
    intro k hk ω1 l6 o8 o9 o10 o11 f mr hkN
    obtain ⟨o1, o2, o3⟩ := o k (by omega)
    have Q := pX7_burnt_242 53 σ N i l4 (pv t k) l6 k o8 o9 o10 o11 ω1
    rw [if_neg (by omega)] at Q
    have av := Sg_v hc o av0 k (by omega)
    obtain ⟨ω2, v, a8, a9, r2, f2, mr2, l2⟩ := m_upto h mp hσ hN (k := k) (by omega) eR w o (D := 0) (by omega) (l2 := (N : Int)) (l4 := l4) (l6 := l6) (o8 := o8) (o9 := o9) (o10 := o10) (o11 := o11) (t k - pv t k) (pv t k) (by omega) ω1 _ f mr (AV_le av (by omega))
    obtain ⟨ω3, r, r3, rest⟩ := ih (k + 1) (by omega) ω2 v a8 a9 o10 o11 f2 mr2 (fun _ => LT_any l2)
    exact ⟨ω3, r, Q.trans (r2.trans r3), rest⟩
theorem k_burnt (h : Inv ω) (s m sh : Int) : Pair 117 218 [some (.inr (.inr 0)), some (.inl s), some (.inl m), some (.inl sh), none, none] [some (.inr (.inr 53)), some (.inl s), some (.inl m), some (.inl sh), none, none, none, none, none, none, none, none] ω := by
  have h0 := h.1
  obtain ⟨e1, e2, e3, e4⟩ := inv_k h
  have b := fun k => rfz_bs (k := k) h0
  have p0 : ∃ f w : Int, (f ≠ 0 ↔ (1 ≤ m ∧ m ≤ 10) ∧ (0 ≤ sh ∧ sh < ck ω 1)) ∧ (f ≠ 0 → w = 3 * m) ∧ am_run (117, 0) 0 ([some (.inr (.inr 0)), some (.inl s), some (.inl m), some (.inl sh), none, none], [], ω) = am_run (117, 0) 45 ([some (.inr (.inr 0)), some (.inl s), some (.inl m), some (.inl sh), some (.inl f), none], [(.inl w), (.inl f), (.inl s), (.inr (.inr 0))], ω) := by
    have q := pX6_burnt_0 0 s m sh ω (i_0 h0) (by simp only [Int.toNat_zero, f_0_0 h0]; exact i_1 h0)
    simp only [am_bi_s, am_bl_s, am_ba_s, am_bv_s, Int.toNat_zero, Int.reduceToNat, Int.toNat_natCast, if_true, if_false, not_true, not_false_eq_true, Int.reduceEq, Int.reduceLT, Int.reduceLE, i_0 h0, i_1 h0, f_0_0 h0, f_0_3 h0, f_0_4 h0, f_1_1 h0, f_1_2 h0, f_1_4 h0, c_hasShip h0 W1] at q
    have z0 : am_run (117, 0) 26 ([some (.inr (.inr 0)), some (.inl s), some (.inl m), some (.inl sh), none, none], [], ω) = am_run (117, 0) 45 ([some (.inr (.inr 0)), some (.inl s), some (.inl m), some (.inl sh), some (.inl 0), none], [(.inl 0), (.inl 0), (.inl s), (.inr (.inr 0))], ω) := by
      rw [pX6_burnt_26, pX6_burnt_27, if_pos rfl]
    by_cases g1 : m < 1
    · rw [if_pos g1, z0] at q
      exact ⟨0, 0, by omega, by omega, q⟩
    · rw [if_neg g1] at q
      by_cases g2 : 10 < m
      · rw [if_pos g2, z0] at q
        exact ⟨0, 0, by omega, by omega, q⟩
      · rw [if_neg g2] at q
        by_cases g3 : 0 ≤ sh ∧ sh < ck ω 1
        · rw [b01_pos g3, if_neg (by omega), pX6_burnt_27, if_neg (by omega), am_w_s (by omega) (by omega)] at q
          exact ⟨1, 3 * m, by omega, by omega, q⟩
        · rw [b01_neg g3, if_pos rfl, z0] at q
          exact ⟨0, 0, by omega, by omega, q⟩
  obtain ⟨f, w, hf, hw, p0⟩ := p0
  have p1 := pX6_burnt_45 0 s m sh f 0 s f w none ω (i_0 h0)
  rw [bi_v (c_rowRef h0)] at p1
  have hz : rrF ((0 ≤ s ∧ s ≤ 7) ∧ f ≠ 0) (am_get ω (37 + 2 * s.toNat) 0) (am_get ω (37 + 2 * s.toNat) 1) w = rrF ((0 ≤ s ∧ s ≤ 7) ∧ (1 ≤ m ∧ m ≤ 10) ∧ (0 ≤ sh ∧ sh < ck ω 1)) (am_get ω (37 + 2 * s.toNat) 0) (am_get ω (37 + 2 * s.toNat) 1) (3 * m) := by
    by_cases g : f ≠ 0
    · rw [hw g, propext hf]
    · rw [rrF_f (fun z => g z.2), rrF_f (fun z => g (hf.mpr z.2))]
  rw [hz] at p1
  clear hz hw
  have mi : ∀ ω', Bs ω' → mk ω' = ck ω 1 → (∀ a k, 53 ≤ a → a < 60 → am_get ω' a k = am_get ω a k) → (¬ rrF ((0 ≤ s ∧ s ≤ 7) ∧ (1 ≤ m ∧ m ≤ 10) ∧ (0 ≤ sh ∧ sh < ck ω 1)) (am_get ω (37 + 2 * s.toNat) 0) (am_get ω (37 + 2 * s.toNat) 1) (3 * m) = 0 → ∀ κ : Nat, κ < 5 → rrF ((0 ≤ s ∧ s ≤ 7) ∧ (1 ≤ m ∧ m ≤ 10) ∧ (0 ≤ sh ∧ sh < ck ω 1)) (am_get ω (37 + 2 * s.toNat) 0) (am_get ω (37 + 2 * s.toNat) 1) (3 * m) = -2 - (κ : Int) → am_run (218, 0) 0 ([some (.inr (.inr 53)), some (.inl s), some (.inl m), some (.inl sh), none, none, none, none, none, none, none, none], [], ω') = some (some (.inl (-2 - (κ : Int))), noz ω' κ)) ∧ (rrF ((0 ≤ s ∧ s ≤ 7) ∧ (1 ≤ m ∧ m ≤ 10) ∧ (0 ≤ sh ∧ sh < ck ω 1)) (am_get ω (37 + 2 * s.toNat) 0) (am_get ω (37 + 2 * s.toNat) 1) (3 * m) = 0 → am_run (218, 0) 0 ([some (.inr (.inr 53)), some (.inl s), some (.inl m), some (.inl sh), none, none, none, none, none, none, none, none], [], ω') = am_run (218, 0) 76 ([some (.inr (.inr 53)), some (.inl s), some (.inl m), some (.inl sh), some (.inl 0), some (.inl 0), none, none, none, none, none, none], [], ω')) := by
    intro ω' b' k' ke
    have q := pX7_burnt_0 53 s m sh ω'
    have no := fun (κ : Nat) (hκ : κ < 5) {c : Int} (hc : c = -2 - (κ : Int)) => m_no b' (k := κ) hκ hc
    have n2 := no 0 (by omega) (c := -2) (by omega)
    simp only [am_bi_s, am_bl_s, am_ba_s, am_bv_s, Int.toNat_zero, Int.reduceToNat, Int.toNat_natCast, if_true, if_false, not_true, not_false_eq_true, Int.reduceEq, Int.reduceLT, Int.reduceLE, m_in1, i_53 b', n2, m_isShip b' (by rw [k']; exact e3), k'] at q
    by_cases hs : 0 ≤ s ∧ s ≤ 7
    · rw [b01_pos hs, if_neg (by omega)] at q
      by_cases hm : 1 ≤ m ∧ m ≤ 10
      · rw [b01_pos hm, if_neg (by omega)] at q
        by_cases hh : 0 ≤ sh ∧ sh < ck ω 1
        · rw [b01_pos hh, if_pos (by omega)] at q
          rw [rrF_t ⟨hs, hm, hh⟩]
          obtain ⟨t, rfl⟩ : ∃ t : Nat, s = t := ⟨s.toNat, by omega⟩
          rw [Int.toNat_natCast]
          have ht : t < 8 := by omega
          have c54 : am_get ω' 54 t = am_get ω (37 + 2 * t) 0 := (ke _ _ (by omega) (by omega)).trans (shelf_c h hs).1
          obtain ⟨_, sc1, sc2⟩ := shelf_c h hs
          rw [Int.toNat_natCast] at sc1 sc2
          by_cases g1 : 10 ≤ am_get ω (37 + 2 * t) 0
          · rw [if_pos g1]
            rw [bi_v (m_noRow_o b' ht (by rw [c54]; omega)), if_neg (by omega), if_pos (i_53 b'), bi_v (no 1 (by omega) (c := -3) (by omega))] at q
            refine ⟨fun _ κ hκ e => ?_, fun z => by omega⟩
            obtain rfl : κ = 1 := by omega
            exact q
          · rw [if_neg g1]
            by_cases g2 : am_get ω (37 + 2 * t) 0 = -1
            · rw [if_pos g2]
              rw [bi_v (m_noRow_n b' ht (by rw [c54]; omega)), if_neg (by omega), if_pos (i_53 b'), bi_v (no 2 (by omega) (c := -4) (by omega))] at q
              refine ⟨fun _ κ hκ e => ?_, fun z => by omega⟩
              obtain rfl : κ = 2 := by omega
              exact q
            · rw [if_neg g2]
              have g4 : 0 ≤ am_get ω (37 + 2 * t) 0 ∧ am_get ω (37 + 2 * t) 0 ≤ 4 := by omega
              have c55 : am_get ω' 55 t = am_get ω (37 + 2 * t) 1 := (ke _ _ (by omega) (by omega)).trans (sc2 g4)
              rw [bi_v (m_noRow_r b' ht (by rw [c54]; exact g4)), if_pos (by omega)] at q
              simp only [am_bi_s, am_bl_s, am_ba_s, am_bv_s, Int.toNat_zero, Int.reduceToNat, Int.toNat_natCast, if_true, if_false, not_true, not_false_eq_true, Int.reduceEq, Int.reduceLT, Int.reduceLE, f_53_1 b', n_55 b' (i := (t : Int)) (by omega) (by omega), c55, i_53 b'] at q
              rw [am_w_s (by omega) (by omega)] at q
              by_cases g3 : am_get ω (37 + 2 * t) 1 < 3 * m
              · rw [if_pos g3]
                rw [if_neg (by omega), bi_v n2] at q
                refine ⟨fun _ κ hκ e => ?_, fun z => by omega⟩
                obtain rfl : κ = 0 := by omega
                exact q
              · rw [if_neg g3]
                rw [if_pos (by omega)] at q
                exact ⟨fun z => absurd rfl z, fun _ => q⟩
        · rw [b01_neg hh, if_neg (fun z => z rfl)] at q
          rw [rrF_f (fun z => hh z.2.2)]
          refine ⟨fun _ κ hκ e => ?_, fun z => by omega⟩
          obtain rfl : κ = 0 := by omega
          exact q
      · rw [b01_neg hm, if_pos rfl] at q
        rw [rrF_f (fun z => hm z.2.1)]
        refine ⟨fun _ κ hκ e => ?_, fun z => by omega⟩
        obtain rfl : κ = 0 := by omega
        exact q
    · rw [b01_neg hs, if_pos rfl] at q
      rw [rrF_f (fun z => hs z.1)]
      refine ⟨fun _ κ hκ e => ?_, fun z => by omega⟩
      obtain rfl : κ = 0 := by omega
      exact q
  by_cases gR : rrF ((0 ≤ s ∧ s ≤ 7) ∧ (1 ≤ m ∧ m ≤ 10) ∧ (0 ≤ sh ∧ sh < ck ω 1)) (am_get ω (37 + 2 * s.toNat) 0) (am_get ω (37 + 2 * s.toNat) 1) (3 * m) = 0
  · obtain ⟨⟨hs, hm, hi⟩, c1, c2, c3⟩ := rr_0 gR
    have mi0 := fun ω' b' k' ke => (mi ω' b' k' ke).2 gR
    clear mi
    obtain ⟨t, rfl⟩ : ∃ t : Nat, s = t := ⟨s.toNat, by omega⟩
    obtain ⟨N, rfl⟩ : ∃ N : Nat, m = N := ⟨m.toNat, by omega⟩
    obtain ⟨i, rfl⟩ : ∃ j : Nat, sh = j := ⟨sh.toNat, by omega⟩
    obtain ⟨M, hM⟩ : ∃ M : Nat, ck ω 1 = M := ⟨(ck ω 1).toNat, by omega⟩
    have ht : t < 8 := by omega
    rw [gR, if_pos rfl] at p1
    rw [Int.toNat_natCast] at c1 c2 c3
    obtain ⟨on, oT, oC⟩ := osk h
    have i6 : i < 6 := by omega
    have iM : i < M := by omega
    have si := c_sight h0 on.2 ht (N := N) (by omega) (by omega)
    simp only [am_bi_s, am_bl_s, am_ba_s, am_bv_s, Int.toNat_zero, Int.reduceToNat, Int.toNat_natCast, if_true, if_false, not_true, not_false_eq_true, Int.reduceEq, Int.reduceLT, Int.reduceLE, i_0 h0, i_1 h0, f_0_0 h0, f_0_3 h0, f_0_4 h0, f_1_1 h0, f_1_2 h0, f_1_4 h0, g_shelf h0 ht, ina_33 h0 (i := (t : Int)) (by omega) (by omega), si, c_r2 h0] at p1
    by_cases gS : ∀ k, k < N → VS (cn ω 1) (cT ω 1) (am_get ω (38 + 2 * t)) k
    · rw [b01_pos gS, if_pos (by omega)] at p1
      obtain ⟨ω1, p, r1, I1, P1, sc1, lo1⟩ := c_thinking h
      have hM1 : am_get ω1 1 3 = (M : Int) := (lo1 1 3 (by omega) (by omega)).trans hM
      have x1 : am_get ω1 1 4 = 4 := w_S I1.1 (W := 1) (Or.inl rfl)
      have x2 : am_ina ω1 4 (i : Int) = true := ina_S I1.1 (W := 1) (Or.inl rfl) (Int.natCast_nonneg _) (by omega)
      have x3 : am_get ω1 4 i = 1 + 4 + (i : Int) := w_V I1.1 (W := 1) (Or.inl rfl) i6
      have en : cn ω1 1 = cn ω 1 := lo1 _ _ (by decide) (by decide)
      have eT : cT ω1 1 = cT ω 1 := funext fun k => lo1 _ _ (by decide) (fun z => absurd z.1 (by decide))
      have eR1 : am_get ω1 (38 + 2 * t) = am_get ω (38 + 2 * t) := funext fun k => lo1 _ _ (by omega) (by omega)
      have ez : am_get ω1 (37 + 2 * t) 1 = am_get ω (37 + 2 * t) 1 := lo1 _ _ (by omega) (by omega)
      obtain ⟨vs1, vs2⟩ := vs_ok on.2 oT gS
      obtain ⟨ω2, r, r2, f2, z2⟩ := c_dropsThrough I1 P1 hM1 iM ht (N := N) (by omega) (by omega) (by rw [ez]; exact c3) (by rw [eR1]; exact vs1) (by rw [en, eT]; exact vs2)
      rw [ba_v r1] at p1
      simp only [am_bi_s, am_bl_s, am_ba_s, am_bv_s, Int.toNat_zero, Int.reduceToNat, Int.toNat_natCast, if_true, if_false, not_true, not_false_eq_true, Int.reduceEq, Int.reduceLT, Int.reduceLE, i_0 I1.1, f_0_0 I1.1, i_1 I1.1, x1, x2, x3, f_0_4 I1.1, g_shelf I1.1 ht, ina_33 I1.1 (i := (t : Int)) (by omega) (by omega), pl_is P1, r2] at p1
      have I2 := f2.inv I1
      have B2 := I2.1
      have hM2 : am_get ω2 1 3 = (M : Int) := (f2.2 1 3 (by omega)).trans hM1
      obtain ⟨a1, a2, a3, a4⟩ := inv_k I2
      have kk : mk ω2 = ck ω 1 := by rw [a1, hM]; exact hM2
      obtain ⟨en2, eT2, eC2, eV2⟩ := sky72 f2
      have mm := mi0 ω2 B2 kk (fun a k ha h60 => (f2.2 a k (by omega)).trans (lo1 a k (by omega) (by omega)))
      obtain ⟨q1, q2, q3⟩ := h.2.2.2.2.1 t ht
      have eR2 : ∀ j, j < 40 → am_get ω2 56 (40 * t + j) = am_get ω (38 + 2 * t) j := fun j hj => ((f2.2 _ _ (by omega)).trans (lo1 _ _ (by omega) (by omega))).trans (q2 j hj)
      obtain ⟨u6, u8, u10, ms⟩ := (m_sight B2 (n := cn ω 1) (T := cT ω 1) (R := am_get ω (38 + 2 * t)) on.2 (by rw [a2, en2, en]) (fun j hj => by rw [← eT, ← eT2]; exact (inv_E6 I2 j hj).symm) ht (N := N) (by omega) eR2 (l3 := (i : Int)) (l4 := 0) N 0 (by omega) (fun j hj => absurd hj (Nat.not_lt_zero _)) none none none).1 gS
      have q76 := pX7_burnt_76 53 t N i 0 N u6 u8 u10 none none none ω2 (i_53 B2)
      obtain ⟨ω3, r3, f3, N3⟩ := m_begun I2 hM2 iM (n := cn ω1 1) (T := cT ω1 1) (C := cC ω1 1) (K := cV ω1 1 i 0)
      rw [if_pos (Int.le_refl _), bv_v r3] at q76
      have mp := (ms_of I2 hM2 iM iM).2.1
      rw [en2, eT2, eC2, eV2 i i6] at mp
      rw [eV2 i i6] at N3
      obtain ⟨_, s1, s2, s3, _⟩ := ship_q I1 hM1 iM
      obtain ⟨ω4, r', r4, f4, z4⟩ := m_through B2 mp (A := fun q b d => q = sQ (cV ω1 1 i) ∧ b = sB (cV ω1 1 i) ∧ d = 0) ht (N := N) (by omega) (by omega) eR2 vs1 (by rw [en, eT]; exact vs2) (by rintro q b d ⟨rfl, rfl, rfl⟩; exact ⟨s1, s3, Nat.le_refl _⟩) (l4 := 0) N 0 (by omega) ω3 0 u8 none u10 none f3 ⟨fun q b m hq hb hm => (N3.1 q b m hq hb hm).elim Or.inl (fun ⟨d, y1, y2, y3⟩ => Or.inr ⟨d, y1, y2, y3.1, y3.2.1, y3.2.2.2⟩), fun q b d hp => N3.2 q b d ⟨hp.1, hp.2.1, rfl, hp.2.2⟩⟩ (fun z => by omega)
      have eq : r' = r := RZ_u z4 z2
      subst eq
      exact ⟨_, _, _, p0.trans p1, B2, f2.1.2.1.trans sc1, mm.trans (ms.trans (q76.trans r4)), f4.1.2.1.trans (f2.1.2.1.trans sc1), f89_inv I2 f4⟩
    · rw [b01_neg gS, if_neg (fun z => z rfl)] at p1
      refine pair_ref h 0 (by omega) (p0.trans p1) ?_
      have mm := mi0 _ (b 0) (by rw [mk_rfz, e1]) (fun a k ha _ => rfz_get (by omega))
      obtain ⟨q1, q2, q3⟩ := h.2.2.2.2.1 t ht
      have ms := (m_sight (b 0) (n := cn ω 1) (T := cT ω 1) (R := am_get ω (38 + 2 * t)) on.2 ((rfz_get (by omega)).trans e2) (fun j hj => (rfz_get (by omega)).trans (inv_E6 h j hj).symm) ht (N := N) (by omega) (fun j hj => (rfz_get (by omega)).trans (q2 j hj)) (l3 := (i : Int)) (l4 := 0) N 0 (by omega) (fun j hj => absurd hj (Nat.not_lt_zero _)) none none none).2 gS
      exact mm.trans ms
  · obtain ⟨κ, hκ, eR⟩ := rr_n gR
    rw [if_neg gR, if_pos (i_0 h0), bi_v (c_ref h0 (by omega) eR)] at p1
    refine pair_ref h κ (by omega) (p0.trans p1) ?_
    rw [eR]
    exact (mi _ (b κ) (by rw [mk_rfz, e1]) (fun a k ha _ => rfz_get (by omega))).1 gR κ (by omega) eR
end K104
