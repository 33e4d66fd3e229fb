/-! ===== image, back ===== -/
section K27
variable {ω : am_W}
theorem osky_cp {m m' : Nat → Nat → Int} {w w' : Nat} (e0 : m' w' 0 = m w 0) (e3 : m' w' 3 = m w 3) (e6 : m' w' 6 = m w 6) (eT : ∀ j, j < 6 → m' (w' + 1) j = m (w + 1) j) (eC : ∀ j, j < 5 → m' (w' + 2) j = m (w + 2) j) (eV : ∀ i, i < 6 → ∀ f, f < 5 → m' (w' + 4 + i) f = m (w + 4 + i) f) (q : O_sky m w) : O_sky m' w' := by
  obtain ⟨q1, q2, q3, q4, q5, q6⟩ := q
  unfold O_sky
  rw [e0, e3, e6]
  refine ⟨q1, q2, fun j hj => by rw [eT j hj]; exact q3 j hj, fun j hj => by rw [eC j hj]; exact q4 j hj, fun i hi => ?_, q6⟩
  have hi6 : i < 6 := by omega
  exact O_c q1.2 (fun f hf => (eV i hi6 f hf).symm) (fun j hj => (eT j hj).symm) (q5 i hi)
theorem becF_W {d s k : Nat} (hk : k = 0 ∨ k = 3 ∨ k = 5 ∨ k = 6 ∨ k = 7) : am_get (becF ω d s) d k = am_get ω s k := if_pos ⟨rfl, hk⟩
theorem becF_T {d s k : Nat} (hk : k < 6) : am_get (becF ω d s) (d + 1) k = am_get ω (s + 1) k := (if_neg (by omega)).trans (if_pos ⟨rfl, hk⟩)
theorem becF_C {d s k : Nat} (hk : k < 5) : am_get (becF ω d s) (d + 2) k = am_get ω (s + 2) k := (if_neg (by omega)).trans ((if_neg (by omega)).trans (if_pos ⟨rfl, hk⟩))
theorem becF_V {d s i k : Nat} (hi : i < 6) (hk : k < 5) : am_get (becF ω d s) (d + 4 + i) k = am_get ω (s + 4 + i) k := ((if_neg (by omega)).trans ((if_neg (by omega)).trans ((if_neg (by omega)).trans (if_pos (by omega))))).trans (by rw [show s + (d + 4 + i - d) = s + 4 + i by omega]; rfl)
theorem becF_o {d s a k : Nat} (h : ¬ (d ≤ a ∧ a < d + 10)) : am_get (becF ω d s) a k = am_get ω a k := (if_neg (by omega)).trans ((if_neg (by omega)).trans ((if_neg (by omega)).trans (if_neg (by omega))))
theorem kpU_V {r c i : Nat} (hc : c < 7) (hi : i < 6) : kpU ω r (6 * c + i) = am_get ω (57 + c) i := by
  unfold kpU
  rw [if_pos (by omega), show (6 * c + i) / 6 = c by omega, show (6 * c + i) % 6 = i by omega]
  rfl
theorem k_image (h : Inv ω) : Pair 125 231 [some (.inr (.inr 0))] [some (.inr (.inr 53))] ω := by
  have h0 := h.1
  have D1 : Dc ω (becF ω 11 1) := becF_dc h0 (by omega)
  have B1 := h0.dc D1
  have p1 := pX6_image_0 0 ω (i_0 h0) (by simp only [Int.toNat_zero, f_0_1 h0]; exact i_11 h0)
  simp only [am_bi_s, am_bl_s, am_ba_s, am_bv_s, Int.toNat_zero, Int.reduceToNat, Int.toNat_natCast, if_true, if_false, not_true, not_false_eq_true, Int.reduceEq, Int.reduceLT, Int.reduceLE, f_0_0 h0, f_0_1 h0, c_become_11_1 h0, i_0 B1] at p1
  have D2 : Dc (becF ω 11 1) (am_put (becF ω 11 1) 0 2 1) := Dc.put (am_rp_at (bs_sh B1 (a := 0) rfl))
  have B2 := B1.dc D2
  have D3 : Dc (am_put (becF ω 11 1) 0 2 1) (am_put (am_put (becF ω 11 1) 0 2 1) 53 22 1) := Dc.put (am_rp_at (bs_sh B2 (a := 53) rfl))
  have B3 := B2.dc D3
  have p2 := pX7_image_0 53 (am_put (becF ω 11 1) 0 2 1) (i_53 B2)
  simp only [am_bi_s, am_bl_s, am_ba_s, am_bv_s, Int.toNat_zero, Int.reduceToNat, Int.toNat_natCast, if_true, if_false, not_true, not_false_eq_true, Int.reduceEq, Int.reduceLT, Int.reduceLE, f_53_23 B3, m_keep_66 B3] at p2
  have D4 := setA_dc (ω := am_put (am_put (becF ω 11 1) 0 2 1) 53 22 1) (a := 66) (kd := 100) (n := 47) (u := kpU (am_put (am_put (becF ω 11 1) 0 2 1) 53 22 1) 66) (bs_sh B3 rfl) (by omega)
  have o3 : ∀ a k, ¬ (a = 0 ∧ k = 2) → ¬ (11 ≤ a ∧ a ≤ 20) → ¬ (a = 53 ∧ k = 22) → am_get (am_put (am_put (becF ω 11 1) 0 2 1) 53 22 1) a k = am_get ω a k := fun a k g1 g2 g3 => (if_neg g3).trans ((if_neg g1).trans (becF_o (by omega)))
  have o11 : ∀ a k, (11 ≤ a ∧ a ≤ 20) → am_get (setV (am_put (am_put (becF ω 11 1) 0 2 1) 53 22 1) 66 (kpU (am_put (am_put (becF ω 11 1) 0 2 1) 53 22 1) 66)) a k = am_get (becF ω 11 1) a k := fun a k g => (congrFun (setV_o (by omega)) k).trans ((if_neg (by omega)).trans (if_neg (by omega)))
  have e : ∀ a k, ¬ ((a = 0 ∧ k = 2) ∨ (11 ≤ a ∧ a ≤ 20) ∨ (a = 53 ∧ k = 22) ∨ a = 66) → am_get (setV (am_put (am_put (becF ω 11 1) 0 2 1) 53 22 1) 66 (kpU (am_put (am_put (becF ω 11 1) 0 2 1) 53 22 1) 66)) a k = am_get ω a k := fun a k g => (congrFun (setV_o (by omega)) k).trans (o3 a k (by omega) (by omega) (by omega))
  have u66 : ∀ k, am_get (setV (am_put (am_put (becF ω 11 1) 0 2 1) 53 22 1) 66 (kpU (am_put (am_put (becF ω 11 1) 0 2 1) 53 22 1) 66)) 66 k = kpU (am_put (am_put (becF ω 11 1) 0 2 1) 53 22 1) 66 k := fun k => congrFun setV_get k
  refine ⟨_, _, _, p1, B2, rfl, p2, rfl, inv_kp _ h (D1.tr (D2.tr (D3.tr D4))) e (Or.inl (fun a k s b => by unfold S_sky at s; omega)) (Or.inl (fun a k s b => by unfold S_osky at s; omega)) (Or.inl (fun a k s b => by unfold S_tape at s; omega)) (Or.inl (fun a k s b => by unfold S_shelf at s; omega)) (Or.inl (fun a k s b => by unfold S_ref at s; omega)) (Or.inr ?_)⟩
  obtain ⟨q1, q2, q3, q4, q5, q6, q7, q8⟩ := h.2.1
  have kV : ∀ c i, c < 7 → i < 6 → kpU (am_put (am_put (becF ω 11 1) 0 2 1) 53 22 1) 66 (6 * c + i) = am_get ω (57 + c) i := fun c i hc hi => (kpU_V hc hi).trans (o3 _ _ (by omega) (by omega) (by omega))
  have k53 : ∀ j, j ≠ 22 → am_get (am_put (am_put (becF ω 11 1) 0 2 1) 53 22 1) 53 j = am_get ω 53 j := fun j hj => o3 _ _ (by omega) (by omega) (by omega)
  refine ⟨?_, Or.inr ⟨?_, ?_, fun j hj => ?_, fun j hj => ?_, fun i hi f hf => ?_, ?_, ?_, ?_, ?_, ?_⟩⟩
  · exact ((congrFun (setV_o (by omega)) 22).trans gp_same).trans ((congrFun (setV_o (by omega)) 2).trans ((gp_cell (by omega)).trans gp_same)).symm
  · exact (congrFun (setV_o (by omega)) 2).trans ((gp_cell (by omega)).trans gp_same)
  · refine osky_cp (m := ω.2.1) (w := 1) ((o11 _ _ (by omega)).trans (becF_W (by omega))) ((o11 _ _ (by omega)).trans (becF_W (by omega))) ((o11 _ _ (by omega)).trans (becF_W (by omega))) (fun j hj => (o11 _ _ (by omega)).trans (becF_T hj)) (fun j hj => (o11 _ _ (by omega)).trans (becF_C hj)) (fun i hi f hf => (o11 _ _ (by omega)).trans (becF_V hi hf)) h.2.2.1
  · refine (u66 j).trans (Eq.trans ?_ ((o11 _ _ (by omega)).trans (becF_T (s := 1) hj)).symm)
    have := kV 0 j (by omega) hj
    rw [show 6 * 0 + j = j by omega] at this
    exact this.trans (q2 j hj)
  · refine (u66 (6 + j)).trans (Eq.trans ?_ ((o11 _ _ (by omega)).trans (becF_C (s := 1) hj)).symm)
    have := kV 1 j (by omega) (by omega)
    exact this.trans (q3 j hj)
  · refine (u66 (12 + 6 * f + i)).trans (Eq.trans ?_ ((o11 _ _ (by omega)).trans (becF_V (d := 11) (s := 1) hi hf)).symm)
    have := kV (2 + f) i (by omega) (by omega)
    rw [show 6 * (2 + f) + i = 12 + 6 * f + i by omega, show 57 + (2 + f) = 59 + f by omega] at this
    refine this.trans ((q1 i hi f hf).trans ?_)
    rw [show 5 + i = 1 + 4 + i by omega]
    rfl
  · exact (u66 42).trans (Eq.trans ((k53 3 (by omega)).trans q4) ((o11 _ _ (by omega)).trans (becF_W (by omega))).symm)
  · exact (u66 43).trans (Eq.trans ((k53 6 (by omega)).trans q5) ((o11 _ _ (by omega)).trans (becF_W (by omega))).symm)
  · exact (u66 44).trans (Eq.trans ((k53 12 (by omega)).trans q6) ((o11 _ _ (by omega)).trans (becF_W (by omega))).symm)
  · exact (u66 45).trans (Eq.trans ((k53 13 (by omega)).trans q7) ((o11 _ _ (by omega)).trans (becF_W (by omega))).symm)
  · exact (u66 46).trans (Eq.trans ((k53 14 (by omega)).trans q8) ((o11 _ _ (by omega)).trans (becF_W (by omega))).symm)
/-! ===== shelves whose ship is gone ===== -/
def bkC (ω : am_W) (K : Int) (i : Nat) : am_W := (ω.1, fun a k => if ((37 ≤ a ∧ (a - 37) / 2 < i) ∧ a % 2 = 1) ∧ (k < 2 ∧ 10 + K ≤ ω.2.1 a 0) then (if k = 0 then -1 else 0) else ω.2.1 a k, ω.2.2)
def bkM (ω : am_W) (K : Int) (i : Nat) : am_W := (ω.1, fun a k => if (a = 54 ∧ k < i) ∧ 10 + K ≤ ω.2.1 54 k then -1 else ω.2.1 a k, ω.2.2)
theorem bkC_dc (h : Bs ω) {K : Int} {i : Nat} (hi : i ≤ 8) : Dc ω (bkC ω K i) := by
  refine ⟨rfl, rfl, fun a k q => if_neg (fun z => ?_)⟩
  have s : ∀ s, s < 8 → sh_0[37 + 2 * s]? = some (2, 3) := by decide
  have : a = 37 + 2 * ((a - 37) / 2) := by omega
  rw [this, am_rp_at (bs_sh h (s _ (by omega)))] at q
  have : k = 0 ∨ k = 1 := by omega
  rcases this with rfl | rfl <;> cases q
theorem bkM_dc (h : Bs ω) {K : Int} {i : Nat} : Dc ω (bkM ω K i) := by
  refine ⟨rfl, rfl, fun a k q => if_neg (fun z => ?_)⟩
  rw [z.1.1, am_rp_at (bs_sh h (a := 54) rfl)] at q
  cases q
theorem bkC_o {K : Int} {i a k : Nat} (h : a < 37 ∨ 53 ≤ a ∧ i ≤ 8) : am_get (bkC ω K i) a k = am_get ω a k := if_neg (by omega)
theorem bkM_o {K : Int} {i a k : Nat} (h : a ≠ 54) : am_get (bkM ω K i) a k = am_get ω a k := if_neg (by omega)
theorem c_back_lp (h : Bs ω) {K : Int} (hk : ck ω 1 = K) (hK : 0 ≤ K ∧ K ≤ 6) (hS : ∀ s, s < 8 → -1 ≤ am_get ω (37 + 2 * s) 0 ∧ am_get ω (37 + 2 * s) 0 ≤ 16) : ∀ d i : Nat, i + d = 8 → am_run (126, 0) 27 ([some (.inr (.inr 0)), some (.inl ((i : Int)))], [], (bkC ω K i)) = some (some (.inl 1), bkC ω K 8) := by
  intro d
  induction d with
  | zero =>
    intro i hi
    obtain rfl : i = 8 := by omega
    rw [pX6_back_27 _ _ _ (by exact i_0 (h.dc (bkC_dc h (by omega)))), if_pos (by omega)]
  | succ d ih =>
    intro i hi
    have b := h.dc (bkC_dc h (K := K) (i := i) (by omega))
    have g0 : am_get (bkC ω K i) (37 + 2 * i) 0 = am_get ω (37 + 2 * i) 0 := if_neg (by omega)
    have gk : ck (bkC ω K i) 1 = K := (bkC_o (by left; decide)).trans hk
    have sS := hS i (by omega)
    have eS := g_shelf b (s := i) (by omega)
    have iS := is_shelf b (s := i) (by omega)
    have aS := ina_33 b (i := (i : Int)) (by omega) (by omega)
    have n1 : am_w ((i : Int) + 1) = ((i + 1 : Nat) : Int) := (am_w_s (by omega) (by omega)).trans (by omega)
    have q := pX6_back_27 0 (i : Int) (bkC ω K i) (i_0 b)
    rw [if_neg (by omega)] at q
    simp only [am_bi_s, am_bl_s, am_ba_s, am_bv_s, Int.toNat_zero, Int.reduceToNat, Int.toNat_natCast, if_true, if_false, not_true, not_false_eq_true, Int.reduceEq, Int.reduceLT, Int.reduceLE, i_0 b, i_1 b, f_0_0 b, f_0_3 b, f_0_4 b, f_1_1 b, f_1_2 b, f_1_4 b, eS, iS, aS, pX2_isShip_0 _ _ iS, pX2_shipNumber_0 _ _ iS, pX2_beEmpty_0 _ _ iS, g0, n1, am_w_s (z := am_get ω (37 + 2 * i) 0 - 10) (by omega) (by omega)] at q
    rw [← ih (i + 1) (by omega), q]
    by_cases g : 10 + K ≤ am_get ω (37 + 2 * i) 0
    · rw [if_neg (by omega)]
      simp only [am_bi_s, am_bl_s, am_ba_s, am_bv_s, Int.toNat_zero, Int.reduceToNat, Int.toNat_natCast, if_true, if_false, not_true, not_false_eq_true, Int.reduceEq, Int.reduceLT, Int.reduceLE, i_0 b, i_1 b, f_0_0 b, f_0_3 b, f_0_4 b, f_1_1 b, f_1_2 b, f_1_4 b, eS, iS, aS, pX2_isShip_0 _ _ iS, pX2_shipNumber_0 _ _ iS, pX2_beEmpty_0 _ _ iS, g0, n1, am_w_s (z := am_get ω (37 + 2 * i) 0 - 10) (by omega) (by omega), if_neg (show ¬ am_get ω (37 + 2 * i) 0 < 10 by omega), c_hasShip b W1, gk, b01_neg (show ¬ (0 ≤ am_get ω (37 + 2 * i) 0 - 10 ∧ am_get ω (37 + 2 * i) 0 - 10 < K) by omega)]
      refine congrArg (fun x => am_run (126, 0) 27 ([some (.inr (.inr 0)), some (.inl (((i + 1 : Nat) : Int)))], [], x)) ?_
      refine Prod.ext rfl (Prod.ext (funext fun a => funext fun k => ?_) rfl)
      show (if a = 37 + 2 * i ∧ k = 1 then 0 else if a = 37 + 2 * i ∧ k = 0 then -1 else if ((37 ≤ a ∧ (a - 37) / 2 < i) ∧ a % 2 = 1) ∧ (k < 2 ∧ 10 + K ≤ ω.2.1 a 0) then (if k = 0 then -1 else 0) else ω.2.1 a k) = if ((37 ≤ a ∧ (a - 37) / 2 < i + 1) ∧ a % 2 = 1) ∧ (k < 2 ∧ 10 + K ≤ ω.2.1 a 0) then (if k = 0 then -1 else 0) else ω.2.1 a k
      by_cases ga : a = 37 + 2 * i
      · have g' : 10 + K ≤ ω.2.1 a 0 := by rw [ga]; exact g
        by_cases k1 : k = 1
        · rw [if_pos ⟨ga, k1⟩, if_pos ⟨by omega, by omega, g'⟩, if_neg (by omega)]
        · by_cases k0 : k = 0
          · rw [if_neg (by omega), if_pos ⟨ga, k0⟩, if_pos ⟨by omega, by omega, g'⟩, if_pos k0]
          · rw [if_neg (by omega), if_neg (by omega), if_neg (by omega), if_neg (by omega)]
      · rw [if_neg (by omega), if_neg (by omega)]
        have : (((37 ≤ a ∧ (a - 37) / 2 < i) ∧ a % 2 = 1) ∧ (k < 2 ∧ 10 + K ≤ ω.2.1 a 0)) = (((37 ≤ a ∧ (a - 37) / 2 < i + 1) ∧ a % 2 = 1) ∧ (k < 2 ∧ 10 + K ≤ ω.2.1 a 0)) := propext (by omega)
        simp only [this]
    · have e : bkC ω K i = bkC ω K (i + 1) := by
        refine Prod.ext rfl (Prod.ext (funext fun a => funext fun k => ?_) rfl)
        show (if ((37 ≤ a ∧ (a - 37) / 2 < i) ∧ a % 2 = 1) ∧ (k < 2 ∧ 10 + K ≤ ω.2.1 a 0) then (if k = 0 then -1 else 0) else ω.2.1 a k) = if ((37 ≤ a ∧ (a - 37) / 2 < i + 1) ∧ a % 2 = 1) ∧ (k < 2 ∧ 10 + K ≤ ω.2.1 a 0) then (if k = 0 then -1 else 0) else ω.2.1 a k
        have : (((37 ≤ a ∧ (a - 37) / 2 < i) ∧ a % 2 = 1) ∧ (k < 2 ∧ 10 + K ≤ ω.2.1 a 0)) = (((37 ≤ a ∧ (a - 37) / 2 < i + 1) ∧ a % 2 = 1) ∧ (k < 2 ∧ 10 + K ≤ ω.2.1 a 0)) := by
          by_cases ga : a = 37 + 2 * i
          · have g' : ¬ 10 + K ≤ ω.2.1 a 0 := by rw [ga]; exact g
            exact propext (by omega)
          · exact propext (by omega)
        simp only [this]
      by_cases g2 : am_get ω (37 + 2 * i) 0 < 10
      · rw [if_pos g2]
        simp only [am_bi_s, am_bl_s, am_ba_s, am_bv_s, Int.toNat_zero, Int.reduceToNat, Int.toNat_natCast, if_true, if_false, not_true, not_false_eq_true, Int.reduceEq, Int.reduceLT, Int.reduceLE]
        rw [e]
      · rw [if_neg g2]
        simp only [am_bi_s, am_bl_s, am_ba_s, am_bv_s, Int.toNat_zero, Int.reduceToNat, Int.toNat_natCast, if_true, if_false, not_true, not_false_eq_true, Int.reduceEq, Int.reduceLT, Int.reduceLE, i_0 b, i_1 b, f_0_0 b, f_0_3 b, f_0_4 b, f_1_1 b, f_1_2 b, f_1_4 b, eS, iS, aS, pX2_isShip_0 _ _ iS, pX2_shipNumber_0 _ _ iS, g0, n1, am_w_s (z := am_get ω (37 + 2 * i) 0 - 10) (by omega) (by omega), if_neg g2, c_hasShip b W1, gk, b01_pos (show 0 ≤ am_get ω (37 + 2 * i) 0 - 10 ∧ am_get ω (37 + 2 * i) 0 - 10 < K by omega)]
        rw [e]
theorem m_back_lp (h : Bs ω) {K : Int} (hk : mk ω = K) (hK : 0 ≤ K ∧ K ≤ 6) : ∀ d i : Nat, i + d = 8 → am_run (232, 0) 24 ([some (.inr (.inr 53)), some (.inl ((i : Int)))], [], (bkM ω K i)) = some (some (.inl 1), bkM ω K 8) := by
  intro d
  induction d with
  | zero =>
    intro i hi
    obtain rfl : i = 8 := by omega
    rw [pX7_back_24 _ _ _ (by exact i_53 (h.dc (bkM_dc h))), if_pos (by omega)]
  | succ d ih =>
    intro i hi
    have b := h.dc (bkM_dc h (K := K) (i := i))
    have g0 : am_get (bkM ω K i) 54 i = am_get ω 54 i := if_neg (by omega)
    have gk : am_get (bkM ω K i) 53 6 = K := (bkM_o (by omega)).trans hk
    have n1 : am_w ((i : Int) + 1) = ((i + 1 : Nat) : Int) := (am_w_s (by omega) (by omega)).trans (by omega)
    have q := pX7_back_24 53 (i : Int) (bkM ω K i) (i_53 b)
    rw [if_neg (by omega)] at q
    simp only [am_bi_s, am_bl_s, am_ba_s, am_bv_s, Int.toNat_zero, Int.reduceToNat, Int.toNat_natCast, if_true, if_false, not_true, not_false_eq_true, Int.reduceEq, Int.reduceLT, Int.reduceLE, i_53 b, f_53_0 b, f_53_1 b, f_53_2 b, f_53_4 b, f_53_5 b, f_53_7 b, f_53_8 b, f_53_9 b, f_53_10 b, f_53_11 b, n_54 b (i := (i : Int)) (by omega) (by omega), g0, gk, n1, am_w_s (z := 10 + K) (by omega) (by omega)] at q
    rw [← ih (i + 1) (by omega), q]
    by_cases g : 10 + K ≤ am_get ω 54 i
    · rw [if_neg (by omega)]
      refine congrArg (fun x => am_run (232, 0) 24 ([some (.inr (.inr 53)), some (.inl (((i + 1 : Nat) : Int)))], [], x)) ?_
      refine Prod.ext rfl (Prod.ext (funext fun a => funext fun k => ?_) rfl)
      show (if a = 54 ∧ k = i then -1 else if (a = 54 ∧ k < i) ∧ 10 + K ≤ ω.2.1 54 k then -1 else ω.2.1 a k) = if (a = 54 ∧ k < i + 1) ∧ 10 + K ≤ ω.2.1 54 k then -1 else ω.2.1 a k
      by_cases ga : a = 54 ∧ k = i
      · rw [if_pos ga, if_pos ⟨by omega, by rw [ga.2]; exact g⟩]
      · rw [if_neg ga]
        have : ((a = 54 ∧ k < i) ∧ 10 + K ≤ ω.2.1 54 k) = ((a = 54 ∧ k < i + 1) ∧ 10 + K ≤ ω.2.1 54 k) := propext (by omega)
        simp only [this]
    · rw [if_pos (by omega)]
      refine congrArg (fun x => am_run (232, 0) 24 ([some (.inr (.inr 53)), some (.inl (((i + 1 : Nat) : Int)))], [], x)) ?_
      refine Prod.ext rfl (Prod.ext (funext fun a => funext fun k => ?_) rfl)
      show (if (a = 54 ∧ k < i) ∧ 10 + K ≤ ω.2.1 54 k then -1 else ω.2.1 a k) = if (a = 54 ∧ k < i + 1) ∧ 10 + K ≤ ω.2.1 54 k then -1 else ω.2.1 a k
      have : ((a = 54 ∧ k < i) ∧ 10 + K ≤ ω.2.1 54 k) = ((a = 54 ∧ k < i + 1) ∧ 10 + K ≤ ω.2.1 54 k) := by
        by_cases ga : k = i
        · have g' : ¬ 10 + K ≤ ω.2.1 54 k := by rw [ga]; exact g
          exact propext (by omega)
        · exact propext (by omega)
      simp only [this]
end K27
