/-! ===== copy ===== -/
section K38
variable {ω : am_W}
def cpM (ω : am_W) (src dst lo hi : Nat) : am_W := (ω.1, fun a x => if a = 56 ∧ (dst + lo ≤ x ∧ x < dst + hi) then ω.2.1 56 (src + (x - dst)) else ω.2.1 a x, ω.2.2)
theorem cpM_dc (h : Bs ω) {src dst lo hi : Nat} : Dc ω (cpM ω src dst lo hi) := memD (a := 56) (kd := 101) (n := 320) (bs_sh h rfl) (by omega) rfl rfl (fun a k z => if_neg (fun q => z q.1))
theorem cpM_o {src dst lo hi a x : Nat} (h : a ≠ 56) : am_get (cpM ω src dst lo hi) a x = am_get ω a x := if_neg (fun q => h q.1)
theorem cpM_n {src dst lo hi x : Nat} (h : ¬ (dst + lo ≤ x ∧ x < dst + hi)) : am_get (cpM ω src dst lo hi) 56 x = am_get ω 56 x := if_neg (fun q => h q.2)
theorem cpM_e {src dst lo : Nat} : cpM ω src dst lo lo = ω := Prod.ext rfl (Prod.ext (funext fun a => funext fun k => if_neg (by omega)) rfl)
theorem cpM_up {src dst lo hi : Nat} (h : lo ≤ hi) : am_put (cpM ω src dst lo hi) 56 (dst + hi) (am_get ω 56 (src + hi)) = cpM ω src dst lo (hi + 1) := by
  refine Prod.ext rfl (Prod.ext (funext fun a => funext fun x => ?_) rfl)
  show (if a = 56 ∧ x = dst + hi then ω.2.1 56 (src + hi) else if a = 56 ∧ (dst + lo ≤ x ∧ x < dst + hi) then ω.2.1 56 (src + (x - dst)) else ω.2.1 a x) = if a = 56 ∧ (dst + lo ≤ x ∧ x < dst + (hi + 1)) then ω.2.1 56 (src + (x - dst)) else ω.2.1 a x
  by_cases g : a = 56 ∧ x = dst + hi
  · rw [if_pos g, if_pos (by omega), g.2, show dst + hi - dst = hi by omega]
  · rw [if_neg g]
    by_cases g2 : a = 56 ∧ (dst + lo ≤ x ∧ x < dst + hi)
    · rw [if_pos g2, if_pos (by omega)]
    · rw [if_neg g2, if_neg (by omega)]
theorem cpM_dn {src dst lo hi : Nat} (h : lo < hi) : am_put (cpM ω src dst (lo + 1) hi) 56 (dst + lo) (am_get ω 56 (src + lo)) = cpM ω src dst lo hi := by
  refine Prod.ext rfl (Prod.ext (funext fun a => funext fun x => ?_) rfl)
  show (if a = 56 ∧ x = dst + lo then ω.2.1 56 (src + lo) else if a = 56 ∧ (dst + (lo + 1) ≤ x ∧ x < dst + hi) then ω.2.1 56 (src + (x - dst)) else ω.2.1 a x) = if a = 56 ∧ (dst + lo ≤ x ∧ x < dst + hi) then ω.2.1 56 (src + (x - dst)) else ω.2.1 a x
  by_cases g : a = 56 ∧ x = dst + lo
  · rw [if_pos g, if_pos (by omega), g.2, show dst + lo - dst = lo by omega]
  · rw [if_neg g]
    by_cases g2 : a = 56 ∧ (dst + (lo + 1) ≤ x ∧ x < dst + hi)
    · rw [if_pos g2, if_pos (by omega)]
    · rw [if_neg g2, if_neg (by omega)]
theorem m_cpA (h : Bs ω) {p q i j n : Nat} (hp : p < 8) (hq : q < 8) (hi : i + n ≤ 40) (hj : j + n ≤ 40) (A : 40 * q + j ≤ 40 * p + i ∨ 40 * p + i + n ≤ 40 * q + j) : ∀ d m : Nat, m + d = n → am_run (158, 0) 229 ([some (.inr (.inr 53)), some (.inl ((p : Int))), some (.inl ((q : Int))), some (.inl ((i : Int))), some (.inl ((j : Int))), some (.inl ((n : Int))), some (.inl ((m : Int)))], [], (cpM ω (40 * p + i) (40 * q + j) 0 m)) = some (some (.inl (n : Int)), cpM ω (40 * p + i) (40 * q + j) 0 n) := by
  intro d
  induction d with
  | zero =>
    intro m hm
    obtain rfl : m = n := by omega
    rw [pX7_copy_229 _ _ _ _ _ _ _ _ (by exact i_53 (h.dc (cpM_dc h))), if_pos (by omega)]
  | succ d ih =>
    intro m hm
    have b := h.dc (cpM_dc h (src := 40 * p + i) (dst := 40 * q + j) (lo := 0) (hi := m))
    have a1 : am_w (am_w (am_w (40 * (p : Int)) + (i : Int)) + (m : Int)) = ((40 * p + i + m : Nat) : Int) := by
      rw [am_w_s (z := 40 * (p : Int)) (by omega) (by omega), am_w_s (z := 40 * (p : Int) + (i : Int)) (by omega) (by omega), am_w_s (by omega) (by omega)]; omega
    have a2 : am_w (am_w (am_w (40 * (q : Int)) + (j : Int)) + (m : Int)) = ((40 * q + j + m : Nat) : Int) := by
      rw [am_w_s (z := 40 * (q : Int)) (by omega) (by omega), am_w_s (z := 40 * (q : Int) + (j : Int)) (by omega) (by omega), am_w_s (by omega) (by omega)]; omega
    have r : am_get (cpM ω (40 * p + i) (40 * q + j) 0 m) 56 (40 * p + i + m) = am_get ω 56 (40 * p + i + m) := cpM_n (by omega)
    rw [pX7_copy_229 _ _ _ _ _ _ _ _ (i_53 b), if_neg (by omega)]
    simp only [am_bi_s, am_bl_s, am_ba_s, am_bv_s, Int.toNat_zero, Int.reduceToNat, Int.toNat_natCast, if_true, if_false, not_true, not_false_eq_true, Int.reduceEq, Int.reduceLT, Int.reduceLE, i_53 b, f_53_0 b, f_53_1 b, f_53_2 b, f_53_4 b, f_53_5 b, f_53_7 b, f_53_8 b, f_53_9 b, f_53_10 b, f_53_11 b, a1, a2, n_56 b (i := ((40 * p + i + m : Nat) : Int)) (by omega) (by omega), n_56 b (i := ((40 * q + j + m : Nat) : Int)) (by omega) (by omega), r]
    rw [cpM_up (by omega), am_w_s (by omega) (by omega), show (m : Int) + 1 = ((m + 1 : Nat) : Int) by omega]
    exact ih (m + 1) (by omega)
theorem m_cpD (h : Bs ω) {p q i j n : Nat} (hp : p < 8) (hq : q < 8) (hi : i + n ≤ 40) (hj : j + n ≤ 40) (A : 40 * p + i ≤ 40 * q + j) : ∀ m : Nat, m ≤ n → am_run (158, 0) 183 ([some (.inr (.inr 53)), some (.inl ((p : Int))), some (.inl ((q : Int))), some (.inl ((i : Int))), some (.inl ((j : Int))), some (.inl ((n : Int))), some (.inl ((m : Int) - 1))], [], (cpM ω (40 * p + i) (40 * q + j) m n)) = some (some (.inl (n : Int)), cpM ω (40 * p + i) (40 * q + j) 0 n) := by
  intro m
  induction m with
  | zero =>
    intro hm
    rw [pX7_copy_183 _ _ _ _ _ _ _ _ (by exact i_53 (h.dc (cpM_dc h))), if_pos (by omega)]
  | succ m ih =>
    intro hm
    have b := h.dc (cpM_dc h (src := 40 * p + i) (dst := 40 * q + j) (lo := m + 1) (hi := n))
    have a1 : am_w (am_w (am_w (40 * (p : Int)) + (i : Int)) + (m : Int)) = ((40 * p + i + m : Nat) : Int) := by
      rw [am_w_s (z := 40 * (p : Int)) (by omega) (by omega), am_w_s (z := 40 * (p : Int) + (i : Int)) (by omega) (by omega), am_w_s (by omega) (by omega)]; omega
    have a2 : am_w (am_w (am_w (40 * (q : Int)) + (j : Int)) + (m : Int)) = ((40 * q + j + m : Nat) : Int) := by
      rw [am_w_s (z := 40 * (q : Int)) (by omega) (by omega), am_w_s (z := 40 * (q : Int) + (j : Int)) (by omega) (by omega), am_w_s (by omega) (by omega)]; omega
    have r : am_get (cpM ω (40 * p + i) (40 * q + j) (m + 1) n) 56 (40 * p + i + m) = am_get ω 56 (40 * p + i + m) := cpM_n (by omega)
    rw [show ((m + 1 : Nat) : Int) - 1 = (m : Int) by omega, pX7_copy_183 _ _ _ _ _ _ _ _ (i_53 b), if_neg (by omega)]
    simp only [am_bi_s, am_bl_s, am_ba_s, am_bv_s, Int.toNat_zero, Int.reduceToNat, Int.toNat_natCast, if_true, if_false, not_true, not_false_eq_true, Int.reduceEq, Int.reduceLT, Int.reduceLE, i_53 b, f_53_0 b, f_53_1 b, f_53_2 b, f_53_4 b, f_53_5 b, f_53_7 b, f_53_8 b, f_53_9 b, f_53_10 b, f_53_11 b, a1, a2, n_56 b (i := ((40 * p + i + m : Nat) : Int)) (by omega) (by omega), n_56 b (i := ((40 * q + j + m : Nat) : Int)) (by omega) (by omega), r]
    rw [cpM_dn (by omega), am_w_s (by omega) (by omega), show (m : Int) + (-1) = (m : Int) - 1 by omega]
    exact ih (by omega)
theorem c_hasPart {v f n : Int} (hv : am_is ω v (2, 3) = true) (hs0 : 0 ≤ am_get ω v.toNat 1) (hs4 : am_get ω v.toNat 1 ≤ 40) : am_run (30, 0) 0 ([some (.inr (.inr v)), some (.inl f), some (.inl n)], [], ω) = some (some (.inl (b01 (0 ≤ f ∧ 0 ≤ n ∧ f + n ≤ am_get ω v.toNat 1))), ω) := by
  rw [pX2_hasPart_0 _ _ _ _ hv]
  by_cases g1 : f < 0
  · rw [if_pos g1, b01_neg (by omega)]
  rw [if_neg g1]
  by_cases g2 : n < 0
  · rw [if_pos g2, b01_neg (by omega)]
  rw [if_neg g2]
  by_cases g3 : am_get ω v.toNat 1 < f
  · rw [if_pos g3, b01_neg (by omega)]
  rw [if_neg g3, am_w_s (by omega) (by omega)]
  by_cases g4 : am_get ω v.toNat 1 - f < n
  · rw [if_pos g4, b01_neg (by omega)]
  rw [if_neg g4, b01_pos (by omega)]
theorem c_isShipS {v : Int} (hv : am_is ω v (2, 3) = true) : am_run (24, 0) 0 ([some (.inr (.inr v))], [], ω) = some (some (.inl (b01 (10 ≤ am_get ω v.toNat 0))), ω) := by
  rw [pX2_isShip_0 _ _ hv]
  by_cases g : am_get ω v.toNat 0 < 10
  · rw [if_pos g, b01_neg (by omega)]
  · rw [if_neg g, b01_pos (by omega)]
theorem c_isEmptyS {v : Int} (hv : am_is ω v (2, 3) = true) : am_run (23, 0) 0 ([some (.inr (.inr v))], [], ω) = some (some (.inl (b01 (am_get ω v.toNat 0 = -1))), ω) := by
  rw [pX2_isEmpty_0 _ _ hv]
  by_cases g : am_get ω v.toNat 0 = -1
  · rw [if_neg (fun z => z g), b01_pos g]
  · rw [if_pos g, b01_neg g]
theorem cmp_gt {x y : Int} : 0 < am_cmp x y ↔ y < x := by unfold am_cmp; by_cases a : x < y <;> by_cases b : x = y <;> simp [a, b] <;> omega
theorem cmp_le {x y : Int} : am_cmp x y ≤ 0 ↔ x ≤ y := by unfold am_cmp; by_cases a : x < y <;> by_cases b : x = y <;> simp [a, b] <;> omega
theorem k_copy (h : Inv ω) (p q i j n : Int) (ri : am_R32 i) (rj : am_R32 j) (rn : am_R32 n) : Pair 86 158 [some (.inr (.inr 0)), some (.inl p), some (.inl q), some (.inl i), some (.inl j), some (.inl n), none, none, none] [some (.inr (.inr 53)), some (.inl p), some (.inl q), some (.inl i), some (.inl j), some (.inl n), none] ω := by
  have h0 := h.1
  unfold am_R32 at ri rj rn
  have b := fun k => rfz_bs (k := k) h0
  have p1 := pX6_copy_0 0 p q i j n ω
  have p2 := fun ω' => pX7_copy_0 53 p q i j n ω'
  simp only [am_bi_s, am_bl_s, am_ba_s, am_bv_s, Int.toNat_zero, Int.reduceToNat, Int.toNat_natCast, if_true, if_false, not_true, not_false_eq_true, Int.reduceEq, Int.reduceLT, Int.reduceLE, c_shelf1, i_0 h0, c_r2 h0] at p1
  by_cases hp : 0 ≤ p ∧ p ≤ 7
  · by_cases hq : 0 ≤ q ∧ q ≤ 7
    · obtain ⟨s, rfl⟩ : ∃ s : Nat, p = s := ⟨p.toNat, by omega⟩
      obtain ⟨t, rfl⟩ : ∃ t : Nat, q = t := ⟨q.toNat, by omega⟩
      have hs : s < 8 := by omega
      have ht : t < 8 := by omega
      obtain ⟨s1, s2, s3⟩ := h.2.2.2.2.1 s hs
      obtain ⟨t1, t2, t3⟩ := h.2.2.2.2.1 t ht
      obtain ⟨u, hu⟩ : ∃ u, u = am_get ω (37 + 2 * s) 0 := ⟨_, rfl⟩
      obtain ⟨w, hw⟩ : ∃ w, w = am_get ω (37 + 2 * t) 0 := ⟨_, rfl⟩
      have s3' : u = -1 ∨ (0 ≤ u ∧ u ≤ 4 ∧ am_get ω 55 s = am_get ω (37 + 2 * s) 1 ∧ 0 ≤ am_get ω (37 + 2 * s) 1 ∧ am_get ω (37 + 2 * s) 1 ≤ 40) ∨ 10 ≤ u := by
        rw [hu]
        rcases s3 with z | z | z
        · exact Or.inl z
        · exact Or.inr (Or.inl z)
        · exact Or.inr (Or.inr z.1)
      have t3' : w = -1 ∨ (0 ≤ w ∧ w ≤ 4 ∧ am_get ω 55 t = am_get ω (37 + 2 * t) 1 ∧ 0 ≤ am_get ω (37 + 2 * t) 1 ∧ am_get ω (37 + 2 * t) 1 ≤ 40) ∨ 10 ≤ w := by
        rw [hw]
        rcases t3 with z | z | z
        · exact Or.inl z
        · exact Or.inr (Or.inl z)
        · exact Or.inr (Or.inr z.1)
      clear s3 t3
      have s1' : am_get ω 54 s = u := by rw [hu]; exact s1
      have t1' : am_get ω 54 t = w := by rw [hw]; exact t1
      have eS := g_shelf h0 hs
      have eT := g_shelf h0 ht
      have iS := is_shelf h0 hs
      have iT := is_shelf h0 ht
      have aS := ina_33 h0 (i := (s : Int)) (by omega) (by omega)
      have aT := ina_33 h0 (i := (t : Int)) (by omega) (by omega)
      have gS := g_elem h0 hs
      have gT := g_elem h0 ht
      have q71 := fun s0 => pX6_copy_71 0 s t i j n ((37 + 2 * s : Nat) : Int) ((37 + 2 * t : Nat) : Int) s0 none ω iS
      simp only [am_bi_s, am_bl_s, am_ba_s, am_bv_s, Int.toNat_zero, Int.reduceToNat, Int.toNat_natCast, if_true, if_false, not_true, not_false_eq_true, Int.reduceEq, Int.reduceLT, Int.reduceLE, i_0 h0, iS, iT, c_isShipS iS, c_isShipS iT, c_isEmptyS iS, c_isEmptyS iT, ← hu, ← hw, c_r2 h0, c_r3 h0, c_r4 h0] at q71
      simp only [b01_pos hp, b01_pos hq, am_bi_s, am_bl_s, am_ba_s, am_bv_s, Int.toNat_zero, Int.reduceToNat, Int.toNat_natCast, if_true, if_false, not_true, not_false_eq_true, Int.reduceEq, Int.reduceLT, Int.reduceLE, i_0 h0, i_1 h0, f_0_0 h0, f_0_3 h0, f_0_4 h0, f_1_1 h0, f_1_2 h0, f_1_4 h0, eS, eT, iS, iT, aS, aT, c_isRow iS, c_isRow iT, ← hu, ← hw, pX6_copy_70] at p1
      have m85 := fun ω' (b' : Bs ω') => pX7_copy_85 53 s t i j n none ω' (i_53 b')
      have bad : ∀ k (hk : k < 5) {c : Int}, am_run (86, 0) 0 ([some (.inr (.inr 0)), some (.inl ((s : Int))), some (.inl ((t : Int))), some (.inl i), some (.inl j), some (.inl n), none, none, none], [], ω) = some (some (.inl c), rfz ω k) → am_run (158, 0) 0 ([some (.inr (.inr 53)), some (.inl ((s : Int))), some (.inl ((t : Int))), some (.inl i), some (.inl j), some (.inl n), none], [], (rfz ω k)) = some (some (.inl c), noz (rfz ω k) k) → Pair 86 158 [some (.inr (.inr 0)), some (.inl ((s : Int))), some (.inl ((t : Int))), some (.inl i), some (.inl j), some (.inl n), none, none, none] [some (.inr (.inr 53)), some (.inl ((s : Int))), some (.inl ((t : Int))), some (.inl i), some (.inl j), some (.inl n), none] ω := fun k hk _ a1 a2 => pair_ref h k hk a1 a2
      have r54s : ∀ k, am_get (rfz ω k) 54 s = u := fun k => (rfz_get (by omega)).trans s1'
      have r54t : ∀ k, am_get (rfz ω k) 54 t = w := fun k => (rfz_get (by omega)).trans t1'
      by_cases go : 10 ≤ u ∨ 10 ≤ w ∨ ((0 ≤ u ∧ u ≤ 4) ∧ (0 ≤ w ∧ w ≤ 4) ∧ u ≠ w)
      · refine bad 1 (by omega) (c := -3) ?_ ?_
        · rw [p1]
          simp only [q71]
          by_cases a4 : 10 ≤ u
          · rw [b01_neg (show ¬ (0 ≤ u ∧ u ≤ 4) by omega), b01_pos a4, if_pos rfl, if_pos (by omega)]
          · rw [b01_neg a4]
            by_cases a5 : 10 ≤ w
            · rw [b01_neg (show ¬ (0 ≤ w ∧ w ≤ 4) by omega), b01_pos a5]
              simp only [am_bi_s, am_bl_s, am_ba_s, am_bv_s, Int.toNat_zero, Int.reduceToNat, Int.toNat_natCast, if_true, if_false, not_true, not_false_eq_true, Int.reduceEq, Int.reduceLT, Int.reduceLE, ite_self]
            · have ac : (0 ≤ u ∧ u ≤ 4) ∧ (0 ≤ w ∧ w ≤ 4) ∧ u ≠ w := by omega
              rw [b01_neg a5, b01_pos ac.1, b01_pos ac.2.1, if_neg (by omega), if_neg (by omega), if_neg ac.2.2]
              simp only [am_bi_s, am_bl_s, am_ba_s, am_bv_s, Int.toNat_zero, Int.reduceToNat, Int.toNat_natCast, if_true, if_false, not_true, not_false_eq_true, Int.reduceEq, Int.reduceLT, Int.reduceLE]
        · rw [p2]
          simp only [m_in1, b01_pos hp, b01_pos hq, am_bi_s, am_bl_s, am_ba_s, am_bv_s, Int.toNat_zero, Int.reduceToNat, Int.toNat_natCast, if_true, if_false, not_true, not_false_eq_true, Int.reduceEq, Int.reduceLT, Int.reduceLE, i_53 (b 1), f_53_0 (b 1), f_53_1 (b 1), f_53_2 (b 1), f_53_4 (b 1), f_53_5 (b 1), f_53_7 (b 1), f_53_8 (b 1), f_53_9 (b 1), f_53_10 (b 1), f_53_11 (b 1), n_54 (b 1) (i := (s : Int)) (by omega) (by omega), n_54 (b 1) (i := (t : Int)) (by omega) (by omega), r54s, r54t, m_isRow (b 1) hs, m_isRow (b 1) ht, m_r3 (b 1)]
          by_cases a4 : 4 < u
          · rw [if_pos a4]
          · rw [if_neg a4]
            by_cases a5 : 4 < w
            · rw [if_pos a5]
            · rw [if_neg a5, b01_pos (show 0 ≤ u ∧ u ≤ 4 by omega), if_neg (by omega), b01_pos (show 0 ≤ w ∧ w ≤ 4 by omega), if_neg (by omega), if_neg (by omega)]
      · have c71 : am_run (86, 0) 0 ([some (.inr (.inr 0)), some (.inl ((s : Int))), some (.inl ((t : Int))), some (.inl i), some (.inl j), some (.inl n), none, none, none], [], ω) = am_run (86, 0) 71 ([some (.inr (.inr 0)), some (.inl ((s : Int))), some (.inl ((t : Int))), some (.inl i), some (.inl j), some (.inl n), some (.inr (.inr (((37 + 2 * s : Nat) : Int)))), some (.inr (.inr (((37 + 2 * t : Nat) : Int)))), none], [(.inl 0)], ω) := by
          rw [p1]
          by_cases a1 : 0 ≤ u ∧ u ≤ 4
          · rw [b01_pos a1, if_neg (by omega)]
            by_cases a2 : 0 ≤ w ∧ w ≤ 4
            · rw [b01_pos a2, if_neg (by omega), if_pos (by omega)]
            · rw [b01_neg a2, if_pos rfl]
          · rw [b01_neg a1, if_pos rfl]
        have c85 : ∀ ω', Bs ω' → am_get ω' 54 s = u → am_get ω' 54 t = w → am_run (158, 0) 0 ([some (.inr (.inr 53)), some (.inl ((s : Int))), some (.inl ((t : Int))), some (.inl i), some (.inl j), some (.inl n), none], [], ω') = am_run (158, 0) 85 ([some (.inr (.inr 53)), some (.inl ((s : Int))), some (.inl ((t : Int))), some (.inl i), some (.inl j), some (.inl n), none], [], ω') := fun ω' b' y1 y2 => by
          rw [p2]
          simp only [m_in1, b01_pos hp, b01_pos hq, am_bi_s, am_bl_s, am_ba_s, am_bv_s, Int.toNat_zero, Int.reduceToNat, Int.toNat_natCast, if_true, if_false, not_true, not_false_eq_true, Int.reduceEq, Int.reduceLT, Int.reduceLE, i_53 b', f_53_0 b', f_53_1 b', f_53_2 b', f_53_4 b', f_53_5 b', f_53_7 b', f_53_8 b', f_53_9 b', f_53_10 b', f_53_11 b', n_54 b' (i := (s : Int)) (by omega) (by omega), n_54 b' (i := (t : Int)) (by omega) (by omega), y1, y2, m_isRow b' hs, m_isRow b' ht, if_neg (show ¬ 4 < u by omega), if_neg (show ¬ 4 < w by omega)]
          by_cases a1 : 0 ≤ u ∧ u ≤ 4
          · rw [b01_pos a1, if_neg (by omega)]
            by_cases a2 : 0 ≤ w ∧ w ≤ 4
            · rw [b01_pos a2, if_neg (by omega), if_pos (by omega)]
            · rw [b01_neg a2, if_pos rfl]
          · rw [b01_neg a1, if_pos rfl]
        rw [q71, b01_neg (show ¬ 10 ≤ u by omega), b01_neg (show ¬ 10 ≤ w by omega)] at c71
        simp only [am_bi_s, am_bl_s, am_ba_s, am_bv_s, Int.toNat_zero, Int.reduceToNat, Int.toNat_natCast, if_true, if_false, not_true, not_false_eq_true, Int.reduceEq, Int.reduceLT, Int.reduceLE] at c71
        by_cases ge : u = -1 ∨ w = -1
        · refine bad 2 (by omega) (c := -4) ?_ ?_
          · rw [c71]
            by_cases a1 : u = -1
            · rw [b01_pos a1, if_pos (by omega)]
            · rw [b01_neg a1, if_neg (by omega), b01_pos (show w = -1 by omega), if_neg (by omega)]
          · rw [c85 _ (b 2) (r54s 2) (r54t 2), m85 _ (b 2)]
            simp only [am_bi_s, am_bl_s, am_ba_s, am_bv_s, Int.toNat_zero, Int.reduceToNat, Int.toNat_natCast, if_true, if_false, not_true, not_false_eq_true, Int.reduceEq, Int.reduceLT, Int.reduceLE, i_53 (b 2), f_53_0 (b 2), f_53_1 (b 2), f_53_2 (b 2), f_53_4 (b 2), f_53_5 (b 2), f_53_7 (b 2), f_53_8 (b 2), f_53_9 (b 2), f_53_10 (b 2), f_53_11 (b 2), n_54 (b 2) (i := (s : Int)) (by omega) (by omega), n_54 (b 2) (i := (t : Int)) (by omega) (by omega), r54s, r54t, m_r4 (b 2)]
            by_cases a1 : u < 0
            · rw [if_pos a1]
            · rw [if_neg a1, if_neg (by omega)]
        · have ss := s3'.resolve_left (by omega) |>.resolve_right (by omega)
          have tt := t3'.resolve_left (by omega) |>.resolve_right (by omega)
          obtain ⟨-, -, sl, sl0, sl4⟩ := ss
          obtain ⟨-, -, tl, tl0, tl4⟩ := tt
          have hS := c_hasPart iS (f := i) (n := n) (by rw [Int.toNat_natCast]; exact sl0) (by rw [Int.toNat_natCast]; exact sl4)
          have hT := c_hasPart iT (f := j) (n := n) (by rw [Int.toNat_natCast]; exact tl0) (by rw [Int.toNat_natCast]; exact tl4)
          rw [Int.toNat_natCast] at hS hT
          rw [b01_neg (show ¬ u = -1 by omega), b01_neg (show ¬ w = -1 by omega)] at c71
          simp only [am_bi_s, am_bl_s, am_ba_s, am_bv_s, Int.toNat_zero, Int.reduceToNat, Int.toNat_natCast, if_true, if_false, not_true, not_false_eq_true, Int.reduceEq, Int.reduceLT, Int.reduceLE, hS, hT, iS, iT, i_0 h0, gS, gT, c_r2 h0] at c71
          have m85' : ∀ ω' (b' : Bs ω'), am_get ω' 54 s = u → am_get ω' 54 t = w → am_get ω' 55 s = am_get ω (37 + 2 * s) 1 → am_get ω' 55 t = am_get ω (37 + 2 * t) 1 → am_run (158, 0) 85 ([some (.inr (.inr 53)), some (.inl ((s : Int))), some (.inl ((t : Int))), some (.inl i), some (.inl j), some (.inl n), none], [], ω') = if n < 0 ∨ i < 0 ∨ j < 0 ∨ am_get ω (37 + 2 * s) 1 < i + n ∨ am_get ω (37 + 2 * t) 1 < j + n then some (some (.inl (-2)), noz ω' 0) else (if s = t ∧ i < j then am_run (158, 0) 183 ([some (.inr (.inr 53)), some (.inl ((s : Int))), some (.inl ((t : Int))), some (.inl i), some (.inl j), some (.inl n), some (.inl (am_w (n - 1)))], [], ω') else am_run (158, 0) 229 ([some (.inr (.inr 53)), some (.inl ((s : Int))), some (.inl ((t : Int))), some (.inl i), some (.inl j), some (.inl n), some (.inl 0)], [], ω')) := fun ω' b' y1 y2 y3 y4 => by
            rw [m85 _ b']
            simp only [am_bi_s, am_bl_s, am_ba_s, am_bv_s, Int.toNat_zero, Int.reduceToNat, Int.toNat_natCast, if_true, if_false, not_true, not_false_eq_true, Int.reduceEq, Int.reduceLT, Int.reduceLE, i_53 b', f_53_0 b', f_53_1 b', f_53_2 b', f_53_4 b', f_53_5 b', f_53_7 b', f_53_8 b', f_53_9 b', f_53_10 b', f_53_11 b', n_54 b' (i := (s : Int)) (by omega) (by omega), n_54 b' (i := (t : Int)) (by omega) (by omega), n_55 b' (i := (s : Int)) (by omega) (by omega), n_55 b' (i := (t : Int)) (by omega) (by omega), y1, y2, y3, y4, if_neg (show ¬ u < 0 by omega), if_pos (show 0 ≤ w by omega), m_r2 b', cmp_gt, cmp_le, am_wl_s (z := i + n) (by omega) (by omega), am_wl_s (z := j + n) (by omega) (by omega)]
            by_cases a1 : n < 0
            · rw [if_pos a1, if_pos (by omega)]
            rw [if_neg a1]
            by_cases a2 : i < 0
            · rw [if_pos a2, if_pos (by omega)]
            rw [if_neg a2]
            by_cases a3 : j < 0
            · rw [if_pos a3, if_pos (by omega)]
            rw [if_neg a3]
            by_cases a4 : am_get ω (37 + 2 * s) 1 < i + n
            · rw [if_pos a4, if_pos (by omega)]
            rw [if_neg a4]
            by_cases a5 : j + n ≤ am_get ω (37 + 2 * t) 1
            · rw [if_pos a5, if_neg (show ¬ (n < 0 ∨ i < 0 ∨ j < 0 ∨ am_get ω (37 + 2 * s) 1 < i + n ∨ am_get ω (37 + 2 * t) 1 < j + n) by omega)]
              by_cases a6 : (s : Int) = (t : Int)
              · rw [if_neg (fun z => z a6)]
                by_cases a7 : j ≤ i
                · rw [if_pos a7, if_neg (by omega)]
                · rw [if_neg a7, if_pos (by omega)]
              · rw [if_pos a6, if_neg (by omega)]
            · rw [if_neg a5, if_pos (by omega)]
          by_cases G : (0 ≤ i ∧ 0 ≤ n ∧ i + n ≤ am_get ω (37 + 2 * s) 1) ∧ (0 ≤ j ∧ 0 ≤ n ∧ j + n ≤ am_get ω (37 + 2 * t) 1)
          · obtain ⟨I, rfl⟩ : ∃ I : Nat, i = I := ⟨i.toNat, by omega⟩
            obtain ⟨J, rfl⟩ : ∃ J : Nat, j = J := ⟨j.toNat, by omega⟩
            obtain ⟨N, rfl⟩ : ∃ N : Nat, n = N := ⟨n.toNat, by omega⟩
            have IN : I + N ≤ 40 := by omega
            have JN : J + N ≤ 40 := by omega
            have ok : am_cpok ω ((38 + 2 * s : Nat) : Int) (I : Int) ((38 + 2 * t : Nat) : Int) (J : Int) (N : Int) = true := by
              have sh : ∀ s, s < 8 → sh_0[38 + 2 * s]? = some (101, 40) := by decide
              unfold am_cpok
              rw [show am_ar ω ((38 + 2 * s : Nat) : Int) 101 = true from bs_ar h0 (sh s hs), show am_ar ω ((38 + 2 * t : Nat) : Int) 101 = true from bs_ar h0 (sh t ht), show am_len ω ((38 + 2 * s : Nat) : Int) = ((40 : Nat) : Int) from bs_len h0 (sh s hs), show am_len ω ((38 + 2 * t : Nat) : Int) = ((40 : Nat) : Int) from bs_len h0 (sh t ht)]
              simp
              omega
            rw [b01_pos G.1, b01_pos G.2, ok] at c71
            simp only [am_bi_s, am_bl_s, am_ba_s, am_bv_s, Int.toNat_zero, Int.reduceToNat, Int.toNat_natCast, if_true, if_false, not_true, not_false_eq_true, Int.reduceEq, Int.reduceLT, Int.reduceLE, iS, iT, gS, gT, ok] at c71
            have shT : ω.1[38 + 2 * t]? = some (101, 40) := bs_sh h0 ((by decide : ∀ s, s < 8 → sh_0[38 + 2 * s]? = some (101, 40)) t ht)
            have D1 : Dc ω (am_cpy ω (38 + 2 * s) I (38 + 2 * t) J N) := memD shT (by omega) rfl rfl (fun a k z => cpy_o z)
            have B1 := h0.dc D1
            have o1 : ∀ a k, 53 ≤ a → am_get (am_cpy ω (38 + 2 * s) I (38 + 2 * t) J N) a k = am_get ω a k := fun a k ha => cpy_o (by omega)
            have D2 := cpM_dc B1 (src := 40 * s + I) (dst := 40 * t + J) (lo := 0) (hi := N)
            have fin : am_run (158, 0) 0 ([some (.inr (.inr 53)), some (.inl ((s : Int))), some (.inl ((t : Int))), some (.inl ((I : Int))), some (.inl ((J : Int))), some (.inl ((N : Int))), none], [], (am_cpy ω (38 + 2 * s) I (38 + 2 * t) J N)) = some (some (.inl (N : Int)), cpM (am_cpy ω (38 + 2 * s) I (38 + 2 * t) J N) (40 * s + I) (40 * t + J) 0 N) := by
              rw [c85 _ B1 ((o1 _ _ (by omega)).trans s1') ((o1 _ _ (by omega)).trans t1'), m85' _ B1 ((o1 _ _ (by omega)).trans s1') ((o1 _ _ (by omega)).trans t1') ((o1 _ _ (by omega)).trans sl) ((o1 _ _ (by omega)).trans tl), if_neg (by omega)]
              by_cases g : s = t ∧ (I : Int) < (J : Int)
              · rw [if_pos g, am_w_s (by omega) (by omega)]
                have := m_cpD B1 hs ht IN JN (by omega) N (Nat.le_refl N)
                rw [cpM_e] at this
                exact this
              · rw [if_neg g]
                have := m_cpA B1 hs ht IN JN (by omega) N 0 (by omega)
                rw [cpM_e] at this
                exact this
            have e : ∀ a k, ¬ (a = 38 + 2 * t ∨ a = 56) → am_get (cpM (am_cpy ω (38 + 2 * s) I (38 + 2 * t) J N) (40 * s + I) (40 * t + J) 0 N) a k = am_get ω a k := fun a k g => (cpM_o (by omega)).trans (cpy_o (by omega))
            refine ⟨_, _, _, c71, B1, rfl, fin, rfl, inv_kp _ h (D1.tr D2) e (Or.inl (fun a k s b => by unfold S_sky at s; omega)) (Or.inl (fun a k s b => by unfold S_osky at s; omega)) (Or.inl (fun a k s b => by unfold S_tape at s; omega)) (Or.inr ?_) (Or.inl (fun a k s b => by unfold S_ref at s; omega)) (Or.inl (fun a k s b => by unfold S_img at s; omega))⟩
            intro r hr
            obtain ⟨r1, r2, r3⟩ := h.2.2.2.2.1 r hr
            rw [show (cpM (am_cpy ω (38 + 2 * s) I (38 + 2 * t) J N) (40 * s + I) (40 * t + J) 0 N).2.1 54 r = ω.2.1 54 r from e _ _ (by omega), show (cpM (am_cpy ω (38 + 2 * s) I (38 + 2 * t) J N) (40 * s + I) (40 * t + J) 0 N).2.1 (37 + 2 * r) 0 = ω.2.1 (37 + 2 * r) 0 from e _ _ (by omega), show (cpM (am_cpy ω (38 + 2 * s) I (38 + 2 * t) J N) (40 * s + I) (40 * t + J) 0 N).2.1 55 r = ω.2.1 55 r from e _ _ (by omega), show (cpM (am_cpy ω (38 + 2 * s) I (38 + 2 * t) J N) (40 * s + I) (40 * t + J) 0 N).2.1 (37 + 2 * r) 1 = ω.2.1 (37 + 2 * r) 1 from e _ _ (by omega), show (cpM (am_cpy ω (38 + 2 * s) I (38 + 2 * t) J N) (40 * s + I) (40 * t + J) 0 N).2.1 1 3 = ω.2.1 1 3 from e _ _ (by omega)]
            refine ⟨r1, fun x hx => ?_, r3⟩
            show am_get (cpM (am_cpy ω (38 + 2 * s) I (38 + 2 * t) J N) (40 * s + I) (40 * t + J) 0 N) 56 (40 * r + x) = am_get (cpM (am_cpy ω (38 + 2 * s) I (38 + 2 * t) J N) (40 * s + I) (40 * t + J) 0 N) (38 + 2 * r) x
            rw [cpM_o (a := 38 + 2 * r) (by omega), cpy_g]
            by_cases g : r = t ∧ (J ≤ x ∧ x < J + N)
            · obtain ⟨rfl, g⟩ := g
              rw [if_pos ⟨rfl, g⟩]
              refine (if_pos ⟨rfl, by omega, by omega⟩).trans ?_
              refine (cpy_o (ω := ω) (by omega)).trans ?_
              have := s2 (I + (x - J)) (by omega)
              rw [show 40 * s + I + (40 * r + x - (40 * r + J)) = 40 * s + (I + (x - J)) by omega]
              exact this
            · rw [if_neg (by omega), cpM_n (by omega), cpy_o (by omega)]
              exact r2 x hx
          · have gneg : n < 0 ∨ i < 0 ∨ j < 0 ∨ am_get ω (37 + 2 * s) 1 < i + n ∨ am_get ω (37 + 2 * t) 1 < j + n := by omega
            refine bad 0 (by omega) (c := -2) ?_ ?_
            · rw [c71]
              by_cases g1 : 0 ≤ i ∧ 0 ≤ n ∧ i + n ≤ am_get ω (37 + 2 * s) 1
              · rw [b01_pos g1, if_neg (by omega), b01_neg (fun z => G ⟨g1, z⟩), if_neg (by omega)]
              · rw [b01_neg g1, if_pos rfl]
            · rw [c85 _ (b 0) (r54s 0) (r54t 0), m85' _ (b 0) (r54s 0) (r54t 0) ((rfz_get (by omega)).trans sl) ((rfz_get (by omega)).trans tl), if_pos gneg]
    · simp only [b01_pos hp, b01_neg hq, am_bi_s, am_bl_s, am_ba_s, am_bv_s, Int.toNat_zero, Int.reduceToNat, Int.toNat_natCast, if_true, if_false, not_true, not_false_eq_true, Int.reduceEq, Int.reduceLT, Int.reduceLE, i_0 h0, c_r2 h0] at p1
      refine pair_ref h 0 (by omega) p1 ?_
      rw [p2]
      simp only [m_in1, b01_pos hp, b01_neg hq, am_bi_s, am_bl_s, am_ba_s, am_bv_s, Int.toNat_zero, Int.reduceToNat, Int.toNat_natCast, if_true, if_false, not_true, not_false_eq_true, Int.reduceEq, Int.reduceLT, Int.reduceLE, i_53 (b 0), m_r2 (b 0)]
  · simp only [b01_neg hp, am_bi_s, am_bl_s, am_ba_s, am_bv_s, Int.toNat_zero, Int.reduceToNat, Int.toNat_natCast, if_true, if_false, not_true, not_false_eq_true, Int.reduceEq, Int.reduceLT, Int.reduceLE] at p1
    refine pair_ref h 0 (by omega) p1 ?_
    rw [p2]
    simp only [m_in1, b01_neg hp, am_bi_s, am_bl_s, am_ba_s, am_bv_s, Int.toNat_zero, Int.reduceToNat, Int.toNat_natCast, if_true, if_false, not_true, not_false_eq_true, Int.reduceEq, Int.reduceLT, Int.reduceLE, i_53 (b 0), m_r2 (b 0)]
end K38
