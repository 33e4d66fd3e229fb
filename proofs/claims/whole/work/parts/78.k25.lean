/-! ===== keep, again ===== -/
section K25
variable {ω : am_W}
theorem put_in {a k : Nat} {v r i : Int} {kd : Nat} : am_in (am_put ω a k v) r kd i = am_in ω r kd i := rfl
theorem put_is {a k : Nat} {v r : Int} {q : Nat × Nat} : am_is (am_put ω a k v) r q = am_is ω r q := rfl
theorem put_ina {a k : Nat} {v r i : Int} : am_ina (am_put ω a k v) r i = am_ina ω r i := rfl
def kpS (ω : am_W) (r i : Nat) : am_W := am_put (am_put (am_put (am_put (am_put (am_put (am_put ω r i (am_get ω 57 i)) r (6 + i) (am_get ω 58 i)) r (12 + i) (am_get ω 59 i)) r (18 + i) (am_get ω 60 i)) r (24 + i) (am_get ω 61 i)) r (30 + i) (am_get ω 62 i)) r (36 + i) (am_get ω 63 i)
def kpM (ω : am_W) (r i : Nat) : am_W := (ω.1, fun a k => if a = r ∧ k < 42 ∧ k % 6 < i then ω.2.1 (57 + k / 6) (k % 6) else ω.2.1 a k, ω.2.2)
def kpU (ω : am_W) (r k : Nat) : Int := if k < 42 then ω.2.1 (57 + k / 6) (k % 6) else if k = 42 then ω.2.1 53 3 else if k = 43 then ω.2.1 53 6 else if k = 44 then ω.2.1 53 12 else if k = 45 then ω.2.1 53 13 else if k = 46 then ω.2.1 53 14 else ω.2.1 r k
theorem kpM_s {r i : Nat} (hr : 63 < r) (hi : i < 6) : kpS (kpM ω r i) r i = kpM ω r (i + 1) := by
  have g : ∀ a, a ≤ 63 → ∀ k, am_get (kpM ω r i) a k = ω.2.1 a k := fun a ha k => if_neg (by omega)
  unfold kpS
  rw [g 57 (by omega), g 58 (by omega), g 59 (by omega), g 60 (by omega), g 61 (by omega), g 62 (by omega), g 63 (by omega)]
  refine Prod.ext rfl (Prod.ext (funext fun a => funext fun k => ?_) rfl)
  show (if a = r ∧ k = 36 + i then ω.2.1 63 i else if a = r ∧ k = 30 + i then ω.2.1 62 i else if a = r ∧ k = 24 + i then ω.2.1 61 i else if a = r ∧ k = 18 + i then ω.2.1 60 i else if a = r ∧ k = 12 + i then ω.2.1 59 i else if a = r ∧ k = 6 + i then ω.2.1 58 i else if a = r ∧ k = i then ω.2.1 57 i else if a = r ∧ k < 42 ∧ k % 6 < i then ω.2.1 (57 + k / 6) (k % 6) else ω.2.1 a k) = if a = r ∧ k < 42 ∧ k % 6 < i + 1 then ω.2.1 (57 + k / 6) (k % 6) else ω.2.1 a k
  by_cases ga : a = r
  · by_cases gk : k < 42 ∧ k % 6 = i
    · rw [if_pos (show a = r ∧ k < 42 ∧ k % 6 < i + 1 by omega), gk.2]
      have : k / 6 = 0 ∨ k / 6 = 1 ∨ k / 6 = 2 ∨ k / 6 = 3 ∨ k / 6 = 4 ∨ k / 6 = 5 ∨ k / 6 = 6 := by omega
      rcases this with q | q | q | q | q | q | q <;> rw [q]
      · rw [if_neg (by omega), if_neg (by omega), if_neg (by omega), if_neg (by omega), if_neg (by omega), if_neg (by omega), if_pos (by omega)]
      · rw [if_neg (by omega), if_neg (by omega), if_neg (by omega), if_neg (by omega), if_neg (by omega), if_pos (by omega)]
      · rw [if_neg (by omega), if_neg (by omega), if_neg (by omega), if_neg (by omega), if_pos (by omega)]
      · rw [if_neg (by omega), if_neg (by omega), if_neg (by omega), if_pos (by omega)]
      · rw [if_neg (by omega), if_neg (by omega), if_pos (by omega)]
      · rw [if_neg (by omega), if_pos (by omega)]
      · rw [if_pos (by omega)]
    · rw [if_neg (by omega), if_neg (by omega), if_neg (by omega), if_neg (by omega), if_neg (by omega), if_neg (by omega), if_neg (by omega)]
      by_cases g2 : k < 42 ∧ k % 6 < i
      · rw [if_pos ⟨ga, g2⟩, if_pos (by omega)]
      · rw [if_neg (by omega), if_neg (by omega)]
  · rw [if_neg (by omega), if_neg (by omega), if_neg (by omega), if_neg (by omega), if_neg (by omega), if_neg (by omega), if_neg (by omega), if_neg (by omega), if_neg (by omega)]
def agS (ω : am_W) (r i : Nat) : am_W := am_put (am_put (am_put (am_put (am_put (am_put (am_put ω 57 i (am_get ω r i)) 58 i (am_get ω r (6 + i))) 59 i (am_get ω r (12 + i))) 60 i (am_get ω r (18 + i))) 61 i (am_get ω r (24 + i))) 62 i (am_get ω r (30 + i))) 63 i (am_get ω r (36 + i))
def agM (ω : am_W) (r i : Nat) : am_W := (ω.1, fun a k => if (57 ≤ a ∧ a ≤ 63) ∧ k < i then ω.2.1 r (6 * (a - 57) + k) else ω.2.1 a k, ω.2.2)
def agF (ω : am_W) (r : Nat) : am_W := (ω.1, fun a k => if (57 ≤ a ∧ a ≤ 63) ∧ k < 6 then ω.2.1 r (6 * (a - 57) + k) else if a = 53 ∧ k = 3 then ω.2.1 r 42 else if a = 53 ∧ k = 6 then ω.2.1 r 43 else if a = 53 ∧ k = 12 then ω.2.1 r 44 else if a = 53 ∧ k = 13 then ω.2.1 r 45 else if a = 53 ∧ k = 14 then ω.2.1 r 46 else ω.2.1 a k, ω.2.2)
theorem agM_s {r i : Nat} (hr : 63 < r) (hi : i < 6) : agS (agM ω r i) r i = agM ω r (i + 1) := by
  have g : ∀ k, am_get (agM ω r i) r k = ω.2.1 r k := fun k => if_neg (by omega)
  unfold agS
  simp only [g]
  refine Prod.ext rfl (Prod.ext (funext fun a => funext fun k => ?_) rfl)
  show (if a = 63 ∧ k = i then ω.2.1 r (36 + i) else if a = 62 ∧ k = i then ω.2.1 r (30 + i) else if a = 61 ∧ k = i then ω.2.1 r (24 + i) else if a = 60 ∧ k = i then ω.2.1 r (18 + i) else if a = 59 ∧ k = i then ω.2.1 r (12 + i) else if a = 58 ∧ k = i then ω.2.1 r (6 + i) else if a = 57 ∧ k = i then ω.2.1 r i else if (57 ≤ a ∧ a ≤ 63) ∧ k < i then ω.2.1 r (6 * (a - 57) + k) else ω.2.1 a k) = if (57 ≤ a ∧ a ≤ 63) ∧ k < i + 1 then ω.2.1 r (6 * (a - 57) + k) else ω.2.1 a k
  by_cases ga : (57 ≤ a ∧ a ≤ 63) ∧ k = i
  · obtain ⟨ga, rfl⟩ := ga
    rw [if_pos (show (57 ≤ a ∧ a ≤ 63) ∧ k < k + 1 by omega)]
    have : a = 57 ∨ a = 58 ∨ a = 59 ∨ a = 60 ∨ a = 61 ∨ a = 62 ∨ a = 63 := by omega
    rcases this with rfl | rfl | rfl | rfl | rfl | rfl | rfl
    · rw [if_neg (by omega), if_neg (by omega), if_neg (by omega), if_neg (by omega), if_neg (by omega), if_neg (by omega), if_pos (by omega)]
      simp only [Nat.reduceSub, Nat.reduceMul, Nat.zero_add]
    · rw [if_neg (by omega), if_neg (by omega), if_neg (by omega), if_neg (by omega), if_neg (by omega), if_pos (by omega)]
    · rw [if_neg (by omega), if_neg (by omega), if_neg (by omega), if_neg (by omega), if_pos (by omega)]
    · rw [if_neg (by omega), if_neg (by omega), if_neg (by omega), if_pos (by omega)]
    · rw [if_neg (by omega), if_neg (by omega), if_pos (by omega)]
    · rw [if_neg (by omega), if_pos (by omega)]
    · rw [if_pos (by omega)]
  · rw [if_neg (by omega), if_neg (by omega), if_neg (by omega), if_neg (by omega), if_neg (by omega), if_neg (by omega), if_neg (by omega)]
    by_cases g2 : (57 ≤ a ∧ a ≤ 63) ∧ k < i
    · rw [if_pos g2, if_pos (by omega)]
    · rw [if_neg g2, if_neg (by omega)]
theorem memD {ω' : am_W} {a n kd : Nat} (h0 : ω.1[a]? = some (kd, n)) (hk : 8 ≤ kd ∧ kd < 102) (e1 : ω'.1 = ω.1) (e2 : ω'.2.2 = ω.2.2) (e : ∀ a' k, a' ≠ a → am_get ω' a' k = am_get ω a' k) : Dc ω ω' := by
  refine ⟨e1, e2, fun a' k q => e a' k (fun z => ?_)⟩
  rw [z, am_rp_at h0] at q
  simp [show ¬ kd < 8 by omega, show ¬ 102 ≤ kd by omega] at q
theorem setA_dc {a n kd : Nat} {u : Nat → Int} (h0 : ω.1[a]? = some (kd, n)) (hk : 8 ≤ kd ∧ kd < 102) : Dc ω (setV ω a u) := memD h0 hk rfl rfl (fun _ _ z => congrFun (setV_o z) _)
theorem ag_dc0 {ω' : am_W} (h : Bs ω) (e1 : ω'.1 = ω.1) (e2 : ω'.2.2 = ω.2.2) (e : ∀ a k, ¬ (57 ≤ a ∧ a ≤ 63) → ¬ (a = 53 ∧ (k = 3 ∨ k = 6 ∨ k = 12 ∨ k = 13 ∨ k = 14)) → am_get ω' a k = am_get ω a k) : Dc ω ω' := by
  refine ⟨e1, e2, fun a k q => e a k (fun z => ?_) (fun z => ?_)⟩
  · have s : ∀ a, 57 ≤ a → a ≤ 63 → sh_0[a]? = some (100, 6) := by
      intro a h1 h2
      have : a = 57 ∨ a = 58 ∨ a = 59 ∨ a = 60 ∨ a = 61 ∨ a = 62 ∨ a = 63 := by omega
      rcases this with rfl | rfl | rfl | rfl | rfl | rfl | rfl <;> rfl
    rw [am_rp_at (bs_sh h (s a z.1 z.2))] at q
    cases q
  · obtain ⟨rfl, z⟩ := z
    rw [am_rp_at (bs_sh h (a := 53) (q := (7, 30)) rfl)] at q
    rcases z with rfl | rfl | rfl | rfl | rfl <;> cases q
theorem agF_dc (h : Bs ω) {r : Nat} : Dc ω (agF ω r) := ag_dc0 h rfl rfl (fun a k h1 h2 => (if_neg (fun z => h1 z.1)).trans ((if_neg (by omega)).trans ((if_neg (by omega)).trans ((if_neg (by omega)).trans ((if_neg (by omega)).trans (if_neg (by omega)))))))
theorem agM_bs (h : Bs ω) {r i : Nat} : Bs (agM ω r i) := h.dc (ag_dc0 h rfl rfl (fun a k h1 h2 => if_neg (fun z => h1 z.1)))
theorem kpM_bs_66 (h : Bs ω) {i : Nat} : Bs (kpM ω 66 i) := h.dc (memD (a := 66) (kd := 100) (n := 47) (bs_sh h rfl) (by omega) rfl rfl (fun a k z => if_neg (fun q => z q.1)))
theorem keep_it_66 (h : Bs ω) {i : Nat} (hi : i < 6) : am_run (229, 0) 2 ([some (.inr (.inr 53)), some (.inr (.inr 66)), some (.inl ((i : Int)))], [], ω) = am_run (229, 0) 2 ([some (.inr (.inr 53)), some (.inr (.inr 66)), some (.inl (((i + 1 : Nat) : Int)))], [], (kpS ω 66 i)) := by
  have a6 : am_w (6 + (i : Int)) = ((6 + i : Nat) : Int) := (am_w_s (by omega) (by omega)).trans (by omega)
  have a12 : am_w (12 + (i : Int)) = ((12 + i : Nat) : Int) := (am_w_s (by omega) (by omega)).trans (by omega)
  have a18 : am_w (18 + (i : Int)) = ((18 + i : Nat) : Int) := (am_w_s (by omega) (by omega)).trans (by omega)
  have a24 : am_w (24 + (i : Int)) = ((24 + i : Nat) : Int) := (am_w_s (by omega) (by omega)).trans (by omega)
  have a30 : am_w (30 + (i : Int)) = ((30 + i : Nat) : Int) := (am_w_s (by omega) (by omega)).trans (by omega)
  have a36 : am_w (36 + (i : Int)) = ((36 + i : Nat) : Int) := (am_w_s (by omega) (by omega)).trans (by omega)
  have a1 : am_w ((i : Int) + 1) = ((i + 1 : Nat) : Int) := (am_w_s (by omega) (by omega)).trans (by omega)
  have R := fun (j : Nat) (hj : j < 47) => n_66 h (i := (j : Int)) (by omega) (by omega)
  rw [pX7_keep_2 _ _ _ _ (by have z := i_53 h; exact z), if_neg (by omega)]
  simp only [gp_same, gp_cell, put_in, put_is, put_ina, ne_eq, Nat.reduceEqDiff, reduceCtorEq, not_false_eq_true, am_bi_s, am_bl_s, am_ba_s, am_bv_s, Int.toNat_zero, Int.reduceToNat, Int.toNat_natCast, if_true, if_false, not_true, not_false_eq_true, Int.reduceEq, Int.reduceLT, Int.reduceLE, i_53 h, f_53_0 h, f_53_1 h, f_53_2 h, f_53_4 h, f_53_5 h, f_53_7 h, f_53_8 h, f_53_9 h, f_53_10 h, f_53_11 h, a6, n_57 h (i := (i : Int)) (by omega) (by omega), n_58 h (i := (i : Int)) (by omega) (by omega), R i (by omega), R (6 + i) (by omega)]
  rw [pX7_keep_29 _ _ _ _ (by have z := i_53 h; exact z)]
  simp only [gp_same, gp_cell, put_in, put_is, put_ina, ne_eq, Nat.reduceEqDiff, reduceCtorEq, not_false_eq_true, am_bi_s, am_bl_s, am_ba_s, am_bv_s, Int.toNat_zero, Int.reduceToNat, Int.toNat_natCast, if_true, if_false, not_true, not_false_eq_true, Int.reduceEq, Int.reduceLT, Int.reduceLE, i_53 h, f_53_0 h, f_53_1 h, f_53_2 h, f_53_4 h, f_53_5 h, f_53_7 h, f_53_8 h, f_53_9 h, f_53_10 h, f_53_11 h, a12, a18, n_59 h (i := (i : Int)) (by omega) (by omega), n_60 h (i := (i : Int)) (by omega) (by omega), n_61 h (i := (i : Int)) (by omega) (by omega), n_62 h (i := (i : Int)) (by omega) (by omega), n_63 h (i := (i : Int)) (by omega) (by omega), R (12 + i) (by omega), R (18 + i) (by omega)]
  rw [pX7_keep_53 _ _ _ _ (by have z := i_53 h; exact z)]
  simp only [gp_same, gp_cell, put_in, put_is, put_ina, ne_eq, Nat.reduceEqDiff, reduceCtorEq, not_false_eq_true, am_bi_s, am_bl_s, am_ba_s, am_bv_s, Int.toNat_zero, Int.reduceToNat, Int.toNat_natCast, if_true, if_false, not_true, not_false_eq_true, Int.reduceEq, Int.reduceLT, Int.reduceLE, i_53 h, f_53_0 h, f_53_1 h, f_53_2 h, f_53_4 h, f_53_5 h, f_53_7 h, f_53_8 h, f_53_9 h, f_53_10 h, f_53_11 h, a24, a30, n_59 h (i := (i : Int)) (by omega) (by omega), n_60 h (i := (i : Int)) (by omega) (by omega), n_61 h (i := (i : Int)) (by omega) (by omega), n_62 h (i := (i : Int)) (by omega) (by omega), n_63 h (i := (i : Int)) (by omega) (by omega), R (24 + i) (by omega), R (30 + i) (by omega)]
  rw [pX7_keep_77 _ _ _ _ (by have z := i_53 h; exact z)]
  simp only [gp_same, gp_cell, put_in, put_is, put_ina, ne_eq, Nat.reduceEqDiff, reduceCtorEq, not_false_eq_true, am_bi_s, am_bl_s, am_ba_s, am_bv_s, Int.toNat_zero, Int.reduceToNat, Int.toNat_natCast, if_true, if_false, not_true, not_false_eq_true, Int.reduceEq, Int.reduceLT, Int.reduceLE, i_53 h, f_53_0 h, f_53_1 h, f_53_2 h, f_53_4 h, f_53_5 h, f_53_7 h, f_53_8 h, f_53_9 h, f_53_10 h, f_53_11 h, a36, a1, n_59 h (i := (i : Int)) (by omega) (by omega), n_60 h (i := (i : Int)) (by omega) (by omega), n_61 h (i := (i : Int)) (by omega) (by omega), n_62 h (i := (i : Int)) (by omega) (by omega), n_63 h (i := (i : Int)) (by omega) (by omega), R (36 + i) (by omega)]
  rfl
theorem m_keep_66 (h : Bs ω) : am_run (229, 0) 0 ([some (.inr (.inr 53)), some (.inr (.inr 66)), none], [], ω) = some (none, setV ω 66 (kpU ω 66)) := by
  have lp : ∀ d i : Nat, i + d = 6 → am_run (229, 0) 2 ([some (.inr (.inr 53)), some (.inr (.inr 66)), some (.inl ((i : Int)))], [], (kpM ω 66 i)) = am_run (229, 0) 2 ([some (.inr (.inr 53)), some (.inr (.inr 66)), some (.inl (((6 : Nat) : Int)))], [], (kpM ω 66 6)) := by
    intro d
    induction d with
    | zero => intro i hi; obtain rfl : i = 6 := by omega
              rfl
    | succ d ih => intro i hi; rw [keep_it_66 (kpM_bs_66 h) (by omega), kpM_s (by omega) (by omega)]; exact ih (i + 1) (by omega)
  have k0 : kpM ω 66 0 = ω := Prod.ext rfl (Prod.ext (funext fun a => funext fun k => if_neg (by omega)) rfl)
  have l0 := lp 6 0 (by omega)
  rw [k0] at l0
  have b6 := kpM_bs_66 h (i := 6)
  have R := fun (j : Nat) (hj : j < 47) => n_66 b6 (i := (j : Int)) (by omega) (by omega)
  have r42 := R 42 (by omega)
  have r43 := R 43 (by omega)
  have r44 := R 44 (by omega)
  have r45 := R 45 (by omega)
  have r46 := R 46 (by omega)
  simp only [Int.cast_ofNat_Int] at r42 r43 r44 r45 r46
  rw [pX7_keep_0]
  refine l0.trans ?_
  rw [pX7_keep_2 _ _ _ _ (by have z := i_53 b6; exact z), if_pos (by omega)]
  simp only [gp_same, gp_cell, put_in, put_is, put_ina, ne_eq, Nat.reduceEqDiff, reduceCtorEq, not_false_eq_true, am_bi_s, am_bl_s, am_ba_s, am_bv_s, Int.toNat_zero, Int.reduceToNat, Int.toNat_natCast, if_true, if_false, not_true, not_false_eq_true, Int.reduceEq, Int.reduceLT, Int.reduceLE, r42]
  rw [pX7_keep_103 _ _ _ _ (by have z := i_53 b6; exact z)]
  simp only [gp_same, gp_cell, put_in, put_is, put_ina, ne_eq, Nat.reduceEqDiff, reduceCtorEq, not_false_eq_true, am_bi_s, am_bl_s, am_ba_s, am_bv_s, Int.toNat_zero, Int.reduceToNat, Int.toNat_natCast, if_true, if_false, not_true, not_false_eq_true, Int.reduceEq, Int.reduceLT, Int.reduceLE, r43, r44]
  rw [pX7_keep_119 _ _ _ _ (by have z := i_53 b6; exact z)]
  simp only [gp_same, gp_cell, put_in, put_is, put_ina, ne_eq, Nat.reduceEqDiff, reduceCtorEq, not_false_eq_true, am_bi_s, am_bl_s, am_ba_s, am_bv_s, Int.toNat_zero, Int.reduceToNat, Int.toNat_natCast, if_true, if_false, not_true, not_false_eq_true, Int.reduceEq, Int.reduceLT, Int.reduceLE, r45, r46]
  refine congrArg (fun x => some (none, x)) (Prod.ext rfl (Prod.ext (funext fun a => funext fun k => ?_) rfl))
  show (if a = 66 ∧ k = 46 then ω.2.1 53 14 else if a = 66 ∧ k = 45 then ω.2.1 53 13 else if a = 66 ∧ k = 44 then ω.2.1 53 12 else if a = 66 ∧ k = 43 then ω.2.1 53 6 else if a = 66 ∧ k = 42 then ω.2.1 53 3 else if a = 66 ∧ k < 42 ∧ k % 6 < 6 then ω.2.1 (57 + k / 6) (k % 6) else ω.2.1 a k) = if a = 66 then kpU ω 66 k else ω.2.1 a k
  by_cases ga : a = 66
  · rw [if_pos ga]
    unfold kpU
    by_cases g1 : k < 42
    · rw [if_pos g1, if_neg (by omega), if_neg (by omega), if_neg (by omega), if_neg (by omega), if_neg (by omega), if_pos (by omega)]
    · rw [if_neg g1]
      have : k = 42 ∨ k = 43 ∨ k = 44 ∨ k = 45 ∨ k = 46 ∨ 47 ≤ k := by omega
      rcases this with rfl | rfl | rfl | rfl | rfl | q
      · rw [if_neg (by omega), if_neg (by omega), if_neg (by omega), if_neg (by omega), if_pos ⟨ga, rfl⟩, if_pos rfl]
      · rw [if_neg (by omega), if_neg (by omega), if_neg (by omega), if_pos ⟨ga, rfl⟩]; rfl
      · rw [if_neg (by omega), if_neg (by omega), if_pos ⟨ga, rfl⟩]; rfl
      · rw [if_neg (by omega), if_pos ⟨ga, rfl⟩]; rfl
      · rw [if_pos ⟨ga, rfl⟩]; rfl
      · rw [if_neg (by omega), if_neg (by omega), if_neg (by omega), if_neg (by omega), if_neg (by omega), if_neg (by omega), if_neg (by omega), if_neg (by omega), if_neg (by omega), if_neg (by omega), if_neg (by omega), ga]
  · rw [if_neg ga, if_neg (by omega), if_neg (by omega), if_neg (by omega), if_neg (by omega), if_neg (by omega), if_neg (by omega)]
theorem again_it_66 (h : Bs ω) {i : Nat} (hi : i < 6) : am_run (230, 0) 2 ([some (.inr (.inr 53)), some (.inr (.inr 66)), some (.inl ((i : Int)))], [], ω) = am_run (230, 0) 2 ([some (.inr (.inr 53)), some (.inr (.inr 66)), some (.inl (((i + 1 : Nat) : Int)))], [], (agS ω 66 i)) := by
  have a6 : am_w (6 + (i : Int)) = ((6 + i : Nat) : Int) := (am_w_s (by omega) (by omega)).trans (by omega)
  have a12 : am_w (12 + (i : Int)) = ((12 + i : Nat) : Int) := (am_w_s (by omega) (by omega)).trans (by omega)
  have a18 : am_w (18 + (i : Int)) = ((18 + i : Nat) : Int) := (am_w_s (by omega) (by omega)).trans (by omega)
  have a24 : am_w (24 + (i : Int)) = ((24 + i : Nat) : Int) := (am_w_s (by omega) (by omega)).trans (by omega)
  have a30 : am_w (30 + (i : Int)) = ((30 + i : Nat) : Int) := (am_w_s (by omega) (by omega)).trans (by omega)
  have a36 : am_w (36 + (i : Int)) = ((36 + i : Nat) : Int) := (am_w_s (by omega) (by omega)).trans (by omega)
  have a1 : am_w ((i : Int) + 1) = ((i + 1 : Nat) : Int) := (am_w_s (by omega) (by omega)).trans (by omega)
  have R := fun (j : Nat) (hj : j < 47) => n_66 h (i := (j : Int)) (by omega) (by omega)
  rw [pX7_again__2 _ _ _ _ (by have z := i_53 h; exact z), if_neg (by omega)]
  simp only [gp_same, gp_cell, put_in, put_is, put_ina, ne_eq, Nat.reduceEqDiff, reduceCtorEq, not_false_eq_true, am_bi_s, am_bl_s, am_ba_s, am_bv_s, Int.toNat_zero, Int.reduceToNat, Int.toNat_natCast, if_true, if_false, not_true, not_false_eq_true, Int.reduceEq, Int.reduceLT, Int.reduceLE, i_53 h, f_53_0 h, f_53_1 h, f_53_2 h, f_53_4 h, f_53_5 h, f_53_7 h, f_53_8 h, f_53_9 h, f_53_10 h, f_53_11 h, a6, n_57 h (i := (i : Int)) (by omega) (by omega), n_58 h (i := (i : Int)) (by omega) (by omega), R i (by omega), R (6 + i) (by omega)]
  rw [pX7_again__29 _ _ _ _ (by have z := i_53 h; exact z)]
  simp only [gp_same, gp_cell, put_in, put_is, put_ina, ne_eq, Nat.reduceEqDiff, reduceCtorEq, not_false_eq_true, am_bi_s, am_bl_s, am_ba_s, am_bv_s, Int.toNat_zero, Int.reduceToNat, Int.toNat_natCast, if_true, if_false, not_true, not_false_eq_true, Int.reduceEq, Int.reduceLT, Int.reduceLE, i_53 h, f_53_0 h, f_53_1 h, f_53_2 h, f_53_4 h, f_53_5 h, f_53_7 h, f_53_8 h, f_53_9 h, f_53_10 h, f_53_11 h, a12, a18, n_59 h (i := (i : Int)) (by omega) (by omega), n_60 h (i := (i : Int)) (by omega) (by omega), n_61 h (i := (i : Int)) (by omega) (by omega), n_62 h (i := (i : Int)) (by omega) (by omega), n_63 h (i := (i : Int)) (by omega) (by omega), R (12 + i) (by omega), R (18 + i) (by omega)]
  rw [pX7_again__53 _ _ _ _ (by have z := i_53 h; exact z)]
  simp only [gp_same, gp_cell, put_in, put_is, put_ina, ne_eq, Nat.reduceEqDiff, reduceCtorEq, not_false_eq_true, am_bi_s, am_bl_s, am_ba_s, am_bv_s, Int.toNat_zero, Int.reduceToNat, Int.toNat_natCast, if_true, if_false, not_true, not_false_eq_true, Int.reduceEq, Int.reduceLT, Int.reduceLE, i_53 h, f_53_0 h, f_53_1 h, f_53_2 h, f_53_4 h, f_53_5 h, f_53_7 h, f_53_8 h, f_53_9 h, f_53_10 h, f_53_11 h, a24, a30, n_59 h (i := (i : Int)) (by omega) (by omega), n_60 h (i := (i : Int)) (by omega) (by omega), n_61 h (i := (i : Int)) (by omega) (by omega), n_62 h (i := (i : Int)) (by omega) (by omega), n_63 h (i := (i : Int)) (by omega) (by omega), R (24 + i) (by omega), R (30 + i) (by omega)]
  rw [pX7_again__77 _ _ _ _ (by have z := i_53 h; exact z)]
  simp only [gp_same, gp_cell, put_in, put_is, put_ina, ne_eq, Nat.reduceEqDiff, reduceCtorEq, not_false_eq_true, am_bi_s, am_bl_s, am_ba_s, am_bv_s, Int.toNat_zero, Int.reduceToNat, Int.toNat_natCast, if_true, if_false, not_true, not_false_eq_true, Int.reduceEq, Int.reduceLT, Int.reduceLE, i_53 h, f_53_0 h, f_53_1 h, f_53_2 h, f_53_4 h, f_53_5 h, f_53_7 h, f_53_8 h, f_53_9 h, f_53_10 h, f_53_11 h, a36, a1, n_59 h (i := (i : Int)) (by omega) (by omega), n_60 h (i := (i : Int)) (by omega) (by omega), n_61 h (i := (i : Int)) (by omega) (by omega), n_62 h (i := (i : Int)) (by omega) (by omega), n_63 h (i := (i : Int)) (by omega) (by omega), R (36 + i) (by omega)]
  rfl
theorem m_again_66 (h : Bs ω) : am_run (230, 0) 0 ([some (.inr (.inr 53)), some (.inr (.inr 66)), none], [], ω) = some (none, agF ω 66) := by
  have lp : ∀ d i : Nat, i + d = 6 → am_run (230, 0) 2 ([some (.inr (.inr 53)), some (.inr (.inr 66)), some (.inl ((i : Int)))], [], (agM ω 66 i)) = am_run (230, 0) 2 ([some (.inr (.inr 53)), some (.inr (.inr 66)), some (.inl (((6 : Nat) : Int)))], [], (agM ω 66 6)) := by
    intro d
    induction d with
    | zero => intro i hi; obtain rfl : i = 6 := by omega
              rfl
    | succ d ih => intro i hi; rw [again_it_66 (agM_bs h) (by omega), agM_s (by omega) (by omega)]; exact ih (i + 1) (by omega)
  have k0 : agM ω 66 0 = ω := Prod.ext rfl (Prod.ext (funext fun a => funext fun k => if_neg (by omega)) rfl)
  have l0 := lp 6 0 (by omega)
  rw [k0] at l0
  have b6 := agM_bs h (r := 66) (i := 6)
  have R := fun (j : Nat) (hj : j < 47) => n_66 b6 (i := (j : Int)) (by omega) (by omega)
  have r42 := R 42 (by omega)
  have r43 := R 43 (by omega)
  have r44 := R 44 (by omega)
  have r45 := R 45 (by omega)
  have r46 := R 46 (by omega)
  simp only [Int.cast_ofNat_Int] at r42 r43 r44 r45 r46
  rw [pX7_again__0]
  refine l0.trans ?_
  rw [pX7_again__2 _ _ _ _ (by have z := i_53 b6; exact z), if_pos (by omega)]
  simp only [gp_same, gp_cell, put_in, put_is, put_ina, ne_eq, Nat.reduceEqDiff, reduceCtorEq, not_false_eq_true, am_bi_s, am_bl_s, am_ba_s, am_bv_s, Int.toNat_zero, Int.reduceToNat, Int.toNat_natCast, if_true, if_false, not_true, not_false_eq_true, Int.reduceEq, Int.reduceLT, Int.reduceLE, r42]
  rw [pX7_again__103 _ _ _ _ (by have z := i_53 b6; exact z)]
  simp only [gp_same, gp_cell, put_in, put_is, put_ina, ne_eq, Nat.reduceEqDiff, reduceCtorEq, not_false_eq_true, am_bi_s, am_bl_s, am_ba_s, am_bv_s, Int.toNat_zero, Int.reduceToNat, Int.toNat_natCast, if_true, if_false, not_true, not_false_eq_true, Int.reduceEq, Int.reduceLT, Int.reduceLE, r43, r44]
  rw [pX7_again__119 _ _ _ _ (by have z := i_53 b6; exact z)]
  simp only [gp_same, gp_cell, put_in, put_is, put_ina, ne_eq, Nat.reduceEqDiff, reduceCtorEq, not_false_eq_true, am_bi_s, am_bl_s, am_ba_s, am_bv_s, Int.toNat_zero, Int.reduceToNat, Int.toNat_natCast, if_true, if_false, not_true, not_false_eq_true, Int.reduceEq, Int.reduceLT, Int.reduceLE, r45, r46]
  refine congrArg (fun x => some (none, x)) (Prod.ext rfl (Prod.ext (funext fun a => funext fun k => ?_) rfl))
  show (if a = 53 ∧ k = 14 then ω.2.1 66 46 else if a = 53 ∧ k = 13 then ω.2.1 66 45 else if a = 53 ∧ k = 12 then ω.2.1 66 44 else if a = 53 ∧ k = 6 then ω.2.1 66 43 else if a = 53 ∧ k = 3 then ω.2.1 66 42 else if (57 ≤ a ∧ a ≤ 63) ∧ k < 6 then ω.2.1 66 (6 * (a - 57) + k) else ω.2.1 a k) = if (57 ≤ a ∧ a ≤ 63) ∧ k < 6 then ω.2.1 66 (6 * (a - 57) + k) else if a = 53 ∧ k = 3 then ω.2.1 66 42 else if a = 53 ∧ k = 6 then ω.2.1 66 43 else if a = 53 ∧ k = 12 then ω.2.1 66 44 else if a = 53 ∧ k = 13 then ω.2.1 66 45 else if a = 53 ∧ k = 14 then ω.2.1 66 46 else ω.2.1 a k
  by_cases ga : a = 53
  · subst ga
    have : k = 3 ∨ k = 6 ∨ k = 12 ∨ k = 13 ∨ k = 14 ∨ ¬ (k = 3 ∨ k = 6 ∨ k = 12 ∨ k = 13 ∨ k = 14) := by omega
    rcases this with rfl | rfl | rfl | rfl | rfl | q
    · rfl
    · rfl
    · rfl
    · rfl
    · rfl
    · rw [if_neg (by omega), if_neg (by omega), if_neg (by omega), if_neg (by omega), if_neg (by omega), if_neg (by omega), if_neg (by omega), if_neg (by omega), if_neg (by omega), if_neg (by omega), if_neg (by omega), if_neg (by omega)]
  · rw [if_neg (by omega), if_neg (by omega), if_neg (by omega), if_neg (by omega), if_neg (by omega)]
    by_cases g : (57 ≤ a ∧ a ≤ 63) ∧ k < 6
    · rw [if_pos g, if_pos g]
    · rw [if_neg g, if_neg g, if_neg (by omega), if_neg (by omega), if_neg (by omega), if_neg (by omega), if_neg (by omega)]
theorem kpM_bs_67 (h : Bs ω) {i : Nat} : Bs (kpM ω 67 i) := h.dc (memD (a := 67) (kd := 100) (n := 47) (bs_sh h rfl) (by omega) rfl rfl (fun a k z => if_neg (fun q => z q.1)))
theorem keep_it_67 (h : Bs ω) {i : Nat} (hi : i < 6) : am_run (229, 0) 2 ([some (.inr (.inr 53)), some (.inr (.inr 67)), some (.inl ((i : Int)))], [], ω) = am_run (229, 0) 2 ([some (.inr (.inr 53)), some (.inr (.inr 67)), some (.inl (((i + 1 : Nat) : Int)))], [], (kpS ω 67 i)) := by
  have a6 : am_w (6 + (i : Int)) = ((6 + i : Nat) : Int) := (am_w_s (by omega) (by omega)).trans (by omega)
  have a12 : am_w (12 + (i : Int)) = ((12 + i : Nat) : Int) := (am_w_s (by omega) (by omega)).trans (by omega)
  have a18 : am_w (18 + (i : Int)) = ((18 + i : Nat) : Int) := (am_w_s (by omega) (by omega)).trans (by omega)
  have a24 : am_w (24 + (i : Int)) = ((24 + i : Nat) : Int) := (am_w_s (by omega) (by omega)).trans (by omega)
  have a30 : am_w (30 + (i : Int)) = ((30 + i : Nat) : Int) := (am_w_s (by omega) (by omega)).trans (by omega)
  have a36 : am_w (36 + (i : Int)) = ((36 + i : Nat) : Int) := (am_w_s (by omega) (by omega)).trans (by omega)
  have a1 : am_w ((i : Int) + 1) = ((i + 1 : Nat) : Int) := (am_w_s (by omega) (by omega)).trans (by omega)
  have R := fun (j : Nat) (hj : j < 47) => n_67 h (i := (j : Int)) (by omega) (by omega)
  rw [pX7_keep_2 _ _ _ _ (by have z := i_53 h; exact z), if_neg (by omega)]
  simp only [gp_same, gp_cell, put_in, put_is, put_ina, ne_eq, Nat.reduceEqDiff, reduceCtorEq, not_false_eq_true, am_bi_s, am_bl_s, am_ba_s, am_bv_s, Int.toNat_zero, Int.reduceToNat, Int.toNat_natCast, if_true, if_false, not_true, not_false_eq_true, Int.reduceEq, Int.reduceLT, Int.reduceLE, i_53 h, f_53_0 h, f_53_1 h, f_53_2 h, f_53_4 h, f_53_5 h, f_53_7 h, f_53_8 h, f_53_9 h, f_53_10 h, f_53_11 h, a6, n_57 h (i := (i : Int)) (by omega) (by omega), n_58 h (i := (i : Int)) (by omega) (by omega), R i (by omega), R (6 + i) (by omega)]
  rw [pX7_keep_29 _ _ _ _ (by have z := i_53 h; exact z)]
  simp only [gp_same, gp_cell, put_in, put_is, put_ina, ne_eq, Nat.reduceEqDiff, reduceCtorEq, not_false_eq_true, am_bi_s, am_bl_s, am_ba_s, am_bv_s, Int.toNat_zero, Int.reduceToNat, Int.toNat_natCast, if_true, if_false, not_true, not_false_eq_true, Int.reduceEq, Int.reduceLT, Int.reduceLE, i_53 h, f_53_0 h, f_53_1 h, f_53_2 h, f_53_4 h, f_53_5 h, f_53_7 h, f_53_8 h, f_53_9 h, f_53_10 h, f_53_11 h, a12, a18, n_59 h (i := (i : Int)) (by omega) (by omega), n_60 h (i := (i : Int)) (by omega) (by omega), n_61 h (i := (i : Int)) (by omega) (by omega), n_62 h (i := (i : Int)) (by omega) (by omega), n_63 h (i := (i : Int)) (by omega) (by omega), R (12 + i) (by omega), R (18 + i) (by omega)]
  rw [pX7_keep_53 _ _ _ _ (by have z := i_53 h; exact z)]
  simp only [gp_same, gp_cell, put_in, put_is, put_ina, ne_eq, Nat.reduceEqDiff, reduceCtorEq, not_false_eq_true, am_bi_s, am_bl_s, am_ba_s, am_bv_s, Int.toNat_zero, Int.reduceToNat, Int.toNat_natCast, if_true, if_false, not_true, not_false_eq_true, Int.reduceEq, Int.reduceLT, Int.reduceLE, i_53 h, f_53_0 h, f_53_1 h, f_53_2 h, f_53_4 h, f_53_5 h, f_53_7 h, f_53_8 h, f_53_9 h, f_53_10 h, f_53_11 h, a24, a30, n_59 h (i := (i : Int)) (by omega) (by omega), n_60 h (i := (i : Int)) (by omega) (by omega), n_61 h (i := (i : Int)) (by omega) (by omega), n_62 h (i := (i : Int)) (by omega) (by omega), n_63 h (i := (i : Int)) (by omega) (by omega), R (24 + i) (by omega), R (30 + i) (by omega)]
  rw [pX7_keep_77 _ _ _ _ (by have z := i_53 h; exact z)]
  simp only [gp_same, gp_cell, put_in, put_is, put_ina, ne_eq, Nat.reduceEqDiff, reduceCtorEq, not_false_eq_true, am_bi_s, am_bl_s, am_ba_s, am_bv_s, Int.toNat_zero, Int.reduceToNat, Int.toNat_natCast, if_true, if_false, not_true, not_false_eq_true, Int.reduceEq, Int.reduceLT, Int.reduceLE, i_53 h, f_53_0 h, f_53_1 h, f_53_2 h, f_53_4 h, f_53_5 h, f_53_7 h, f_53_8 h, f_53_9 h, f_53_10 h, f_53_11 h, a36, a1, n_59 h (i := (i : Int)) (by omega) (by omega), n_60 h (i := (i : Int)) (by omega) (by omega), n_61 h (i := (i : Int)) (by omega) (by omega), n_62 h (i := (i : Int)) (by omega) (by omega), n_63 h (i := (i : Int)) (by omega) (by omega), R (36 + i) (by omega)]
  rfl
theorem m_keep_67 (h : Bs ω) : am_run (229, 0) 0 ([some (.inr (.inr 53)), some (.inr (.inr 67)), none], [], ω) = some (none, setV ω 67 (kpU ω 67)) := by
  have lp : ∀ d i : Nat, i + d = 6 → am_run (229, 0) 2 ([some (.inr (.inr 53)), some (.inr (.inr 67)), some (.inl ((i : Int)))], [], (kpM ω 67 i)) = am_run (229, 0) 2 ([some (.inr (.inr 53)), some (.inr (.inr 67)), some (.inl (((6 : Nat) : Int)))], [], (kpM ω 67 6)) := by
    intro d
    induction d with
    | zero => intro i hi; obtain rfl : i = 6 := by omega
              rfl
    | succ d ih => intro i hi; rw [keep_it_67 (kpM_bs_67 h) (by omega), kpM_s (by omega) (by omega)]; exact ih (i + 1) (by omega)
  have k0 : kpM ω 67 0 = ω := Prod.ext rfl (Prod.ext (funext fun a => funext fun k => if_neg (by omega)) rfl)
  have l0 := lp 6 0 (by omega)
  rw [k0] at l0
  have b6 := kpM_bs_67 h (i := 6)
  have R := fun (j : Nat) (hj : j < 47) => n_67 b6 (i := (j : Int)) (by omega) (by omega)
  have r42 := R 42 (by omega)
  have r43 := R 43 (by omega)
  have r44 := R 44 (by omega)
  have r45 := R 45 (by omega)
  have r46 := R 46 (by omega)
  simp only [Int.cast_ofNat_Int] at r42 r43 r44 r45 r46
  rw [pX7_keep_0]
  refine l0.trans ?_
  rw [pX7_keep_2 _ _ _ _ (by have z := i_53 b6; exact z), if_pos (by omega)]
  simp only [gp_same, gp_cell, put_in, put_is, put_ina, ne_eq, Nat.reduceEqDiff, reduceCtorEq, not_false_eq_true, am_bi_s, am_bl_s, am_ba_s, am_bv_s, Int.toNat_zero, Int.reduceToNat, Int.toNat_natCast, if_true, if_false, not_true, not_false_eq_true, Int.reduceEq, Int.reduceLT, Int.reduceLE, r42]
  rw [pX7_keep_103 _ _ _ _ (by have z := i_53 b6; exact z)]
  simp only [gp_same, gp_cell, put_in, put_is, put_ina, ne_eq, Nat.reduceEqDiff, reduceCtorEq, not_false_eq_true, am_bi_s, am_bl_s, am_ba_s, am_bv_s, Int.toNat_zero, Int.reduceToNat, Int.toNat_natCast, if_true, if_false, not_true, not_false_eq_true, Int.reduceEq, Int.reduceLT, Int.reduceLE, r43, r44]
  rw [pX7_keep_119 _ _ _ _ (by have z := i_53 b6; exact z)]
  simp only [gp_same, gp_cell, put_in, put_is, put_ina, ne_eq, Nat.reduceEqDiff, reduceCtorEq, not_false_eq_true, am_bi_s, am_bl_s, am_ba_s, am_bv_s, Int.toNat_zero, Int.reduceToNat, Int.toNat_natCast, if_true, if_false, not_true, not_false_eq_true, Int.reduceEq, Int.reduceLT, Int.reduceLE, r45, r46]
  refine congrArg (fun x => some (none, x)) (Prod.ext rfl (Prod.ext (funext fun a => funext fun k => ?_) rfl))
  show (if a = 67 ∧ k = 46 then ω.2.1 53 14 else if a = 67 ∧ k = 45 then ω.2.1 53 13 else if a = 67 ∧ k = 44 then ω.2.1 53 12 else if a = 67 ∧ k = 43 then ω.2.1 53 6 else if a = 67 ∧ k = 42 then ω.2.1 53 3 else if a = 67 ∧ k < 42 ∧ k % 6 < 6 then ω.2.1 (57 + k / 6) (k % 6) else ω.2.1 a k) = if a = 67 then kpU ω 67 k else ω.2.1 a k
  by_cases ga : a = 67
  · rw [if_pos ga]
    unfold kpU
    by_cases g1 : k < 42
    · rw [if_pos g1, if_neg (by omega), if_neg (by omega), if_neg (by omega), if_neg (by omega), if_neg (by omega), if_pos (by omega)]
    · rw [if_neg g1]
      have : k = 42 ∨ k = 43 ∨ k = 44 ∨ k = 45 ∨ k = 46 ∨ 47 ≤ k := by omega
      rcases this with rfl | rfl | rfl | rfl | rfl | q
      · rw [if_neg (by omega), if_neg (by omega), if_neg (by omega), if_neg (by omega), if_pos ⟨ga, rfl⟩, if_pos rfl]
      · rw [if_neg (by omega), if_neg (by omega), if_neg (by omega), if_pos ⟨ga, rfl⟩]; rfl
      · rw [if_neg (by omega), if_neg (by omega), if_pos ⟨ga, rfl⟩]; rfl
      · rw [if_neg (by omega), if_pos ⟨ga, rfl⟩]; rfl
      · rw [if_pos ⟨ga, rfl⟩]; rfl
      · rw [if_neg (by omega), if_neg (by omega), if_neg (by omega), if_neg (by omega), if_neg (by omega), if_neg (by omega), if_neg (by omega), if_neg (by omega), if_neg (by omega), if_neg (by omega), if_neg (by omega), ga]
  · rw [if_neg ga, if_neg (by omega), if_neg (by omega), if_neg (by omega), if_neg (by omega), if_neg (by omega), if_neg (by omega)]
theorem again_it_67 (h : Bs ω) {i : Nat} (hi : i < 6) : am_run (230, 0) 2 ([some (.inr (.inr 53)), some (.inr (.inr 67)), some (.inl ((i : Int)))], [], ω) = am_run (230, 0) 2 ([some (.inr (.inr 53)), some (.inr (.inr 67)), some (.inl (((i + 1 : Nat) : Int)))], [], (agS ω 67 i)) := by
  have a6 : am_w (6 + (i : Int)) = ((6 + i : Nat) : Int) := (am_w_s (by omega) (by omega)).trans (by omega)
  have a12 : am_w (12 + (i : Int)) = ((12 + i : Nat) : Int) := (am_w_s (by omega) (by omega)).trans (by omega)
  have a18 : am_w (18 + (i : Int)) = ((18 + i : Nat) : Int) := (am_w_s (by omega) (by omega)).trans (by omega)
  have a24 : am_w (24 + (i : Int)) = ((24 + i : Nat) : Int) := (am_w_s (by omega) (by omega)).trans (by omega)
  have a30 : am_w (30 + (i : Int)) = ((30 + i : Nat) : Int) := (am_w_s (by omega) (by omega)).trans (by omega)
  have a36 : am_w (36 + (i : Int)) = ((36 + i : Nat) : Int) := (am_w_s (by omega) (by omega)).trans (by omega)
  have a1 : am_w ((i : Int) + 1) = ((i + 1 : Nat) : Int) := (am_w_s (by omega) (by omega)).trans (by omega)
  have R := fun (j : Nat) (hj : j < 47) => n_67 h (i := (j : Int)) (by omega) (by omega)
  rw [pX7_again__2 _ _ _ _ (by have z := i_53 h; exact z), if_neg (by omega)]
  simp only [gp_same, gp_cell, put_in, put_is, put_ina, ne_eq, Nat.reduceEqDiff, reduceCtorEq, not_false_eq_true, am_bi_s, am_bl_s, am_ba_s, am_bv_s, Int.toNat_zero, Int.reduceToNat, Int.toNat_natCast, if_true, if_false, not_true, not_false_eq_true, Int.reduceEq, Int.reduceLT, Int.reduceLE, i_53 h, f_53_0 h, f_53_1 h, f_53_2 h, f_53_4 h, f_53_5 h, f_53_7 h, f_53_8 h, f_53_9 h, f_53_10 h, f_53_11 h, a6, n_57 h (i := (i : Int)) (by omega) (by omega), n_58 h (i := (i : Int)) (by omega) (by omega), R i (by omega), R (6 + i) (by omega)]
  rw [pX7_again__29 _ _ _ _ (by have z := i_53 h; exact z)]
  simp only [gp_same, gp_cell, put_in, put_is, put_ina, ne_eq, Nat.reduceEqDiff, reduceCtorEq, not_false_eq_true, am_bi_s, am_bl_s, am_ba_s, am_bv_s, Int.toNat_zero, Int.reduceToNat, Int.toNat_natCast, if_true, if_false, not_true, not_false_eq_true, Int.reduceEq, Int.reduceLT, Int.reduceLE, i_53 h, f_53_0 h, f_53_1 h, f_53_2 h, f_53_4 h, f_53_5 h, f_53_7 h, f_53_8 h, f_53_9 h, f_53_10 h, f_53_11 h, a12, a18, n_59 h (i := (i : Int)) (by omega) (by omega), n_60 h (i := (i : Int)) (by omega) (by omega), n_61 h (i := (i : Int)) (by omega) (by omega), n_62 h (i := (i : Int)) (by omega) (by omega), n_63 h (i := (i : Int)) (by omega) (by omega), R (12 + i) (by omega), R (18 + i) (by omega)]
  rw [pX7_again__53 _ _ _ _ (by have z := i_53 h; exact z)]
  simp only [gp_same, gp_cell, put_in, put_is, put_ina, ne_eq, Nat.reduceEqDiff, reduceCtorEq, not_false_eq_true, am_bi_s, am_bl_s, am_ba_s, am_bv_s, Int.toNat_zero, Int.reduceToNat, Int.toNat_natCast, if_true, if_false, not_true, not_false_eq_true, Int.reduceEq, Int.reduceLT, Int.reduceLE, i_53 h, f_53_0 h, f_53_1 h, f_53_2 h, f_53_4 h, f_53_5 h, f_53_7 h, f_53_8 h, f_53_9 h, f_53_10 h, f_53_11 h, a24, a30, n_59 h (i := (i : Int)) (by omega) (by omega), n_60 h (i := (i : Int)) (by omega) (by omega), n_61 h (i := (i : Int)) (by omega) (by omega), n_62 h (i := (i : Int)) (by omega) (by omega), n_63 h (i := (i : Int)) (by omega) (by omega), R (24 + i) (by omega), R (30 + i) (by omega)]
  rw [pX7_again__77 _ _ _ _ (by have z := i_53 h; exact z)]
  simp only [gp_same, gp_cell, put_in, put_is, put_ina, ne_eq, Nat.reduceEqDiff, reduceCtorEq, not_false_eq_true, am_bi_s, am_bl_s, am_ba_s, am_bv_s, Int.toNat_zero, Int.reduceToNat, Int.toNat_natCast, if_true, if_false, not_true, not_false_eq_true, Int.reduceEq, Int.reduceLT, Int.reduceLE, i_53 h, f_53_0 h, f_53_1 h, f_53_2 h, f_53_4 h, f_53_5 h, f_53_7 h, f_53_8 h, f_53_9 h, f_53_10 h, f_53_11 h, a36, a1, n_59 h (i := (i : Int)) (by omega) (by omega), n_60 h (i := (i : Int)) (by omega) (by omega), n_61 h (i := (i : Int)) (by omega) (by omega), n_62 h (i := (i : Int)) (by omega) (by omega), n_63 h (i := (i : Int)) (by omega) (by omega), R (36 + i) (by omega)]
  rfl
theorem m_again_67 (h : Bs ω) : am_run (230, 0) 0 ([some (.inr (.inr 53)), some (.inr (.inr 67)), none], [], ω) = some (none, agF ω 67) := by
  have lp : ∀ d i : Nat, i + d = 6 → am_run (230, 0) 2 ([some (.inr (.inr 53)), some (.inr (.inr 67)), some (.inl ((i : Int)))], [], (agM ω 67 i)) = am_run (230, 0) 2 ([some (.inr (.inr 53)), some (.inr (.inr 67)), some (.inl (((6 : Nat) : Int)))], [], (agM ω 67 6)) := by
    intro d
    induction d with
    | zero => intro i hi; obtain rfl : i = 6 := by omega
              rfl
    | succ d ih => intro i hi; rw [again_it_67 (agM_bs h) (by omega), agM_s (by omega) (by omega)]; exact ih (i + 1) (by omega)
  have k0 : agM ω 67 0 = ω := Prod.ext rfl (Prod.ext (funext fun a => funext fun k => if_neg (by omega)) rfl)
  have l0 := lp 6 0 (by omega)
  rw [k0] at l0
  have b6 := agM_bs h (r := 67) (i := 6)
  have R := fun (j : Nat) (hj : j < 47) => n_67 b6 (i := (j : Int)) (by omega) (by omega)
  have r42 := R 42 (by omega)
  have r43 := R 43 (by omega)
  have r44 := R 44 (by omega)
  have r45 := R 45 (by omega)
  have r46 := R 46 (by omega)
  simp only [Int.cast_ofNat_Int] at r42 r43 r44 r45 r46
  rw [pX7_again__0]
  refine l0.trans ?_
  rw [pX7_again__2 _ _ _ _ (by have z := i_53 b6; exact z), if_pos (by omega)]
  simp only [gp_same, gp_cell, put_in, put_is, put_ina, ne_eq, Nat.reduceEqDiff, reduceCtorEq, not_false_eq_true, am_bi_s, am_bl_s, am_ba_s, am_bv_s, Int.toNat_zero, Int.reduceToNat, Int.toNat_natCast, if_true, if_false, not_true, not_false_eq_true, Int.reduceEq, Int.reduceLT, Int.reduceLE, r42]
  rw [pX7_again__103 _ _ _ _ (by have z := i_53 b6; exact z)]
  simp only [gp_same, gp_cell, put_in, put_is, put_ina, ne_eq, Nat.reduceEqDiff, reduceCtorEq, not_false_eq_true, am_bi_s, am_bl_s, am_ba_s, am_bv_s, Int.toNat_zero, Int.reduceToNat, Int.toNat_natCast, if_true, if_false, not_true, not_false_eq_true, Int.reduceEq, Int.reduceLT, Int.reduceLE, r43, r44]
  rw [pX7_again__119 _ _ _ _ (by have z := i_53 b6; exact z)]
  simp only [gp_same, gp_cell, put_in, put_is, put_ina, ne_eq, Nat.reduceEqDiff, reduceCtorEq, not_false_eq_true, am_bi_s, am_bl_s, am_ba_s, am_bv_s, Int.toNat_zero, Int.reduceToNat, Int.toNat_natCast, if_true, if_false, not_true, not_false_eq_true, Int.reduceEq, Int.reduceLT, Int.reduceLE, r45, r46]
  refine congrArg (fun x => some (none, x)) (Prod.ext rfl (Prod.ext (funext fun a => funext fun k => ?_) rfl))
  show (if a = 53 ∧ k = 14 then ω.2.1 67 46 else if a = 53 ∧ k = 13 then ω.2.1 67 45 else if a = 53 ∧ k = 12 then ω.2.1 67 44 else if a = 53 ∧ k = 6 then ω.2.1 67 43 else if a = 53 ∧ k = 3 then ω.2.1 67 42 else if (57 ≤ a ∧ a ≤ 63) ∧ k < 6 then ω.2.1 67 (6 * (a - 57) + k) else ω.2.1 a k) = if (57 ≤ a ∧ a ≤ 63) ∧ k < 6 then ω.2.1 67 (6 * (a - 57) + k) else if a = 53 ∧ k = 3 then ω.2.1 67 42 else if a = 53 ∧ k = 6 then ω.2.1 67 43 else if a = 53 ∧ k = 12 then ω.2.1 67 44 else if a = 53 ∧ k = 13 then ω.2.1 67 45 else if a = 53 ∧ k = 14 then ω.2.1 67 46 else ω.2.1 a k
  by_cases ga : a = 53
  · subst ga
    have : k = 3 ∨ k = 6 ∨ k = 12 ∨ k = 13 ∨ k = 14 ∨ ¬ (k = 3 ∨ k = 6 ∨ k = 12 ∨ k = 13 ∨ k = 14) := by omega
    rcases this with rfl | rfl | rfl | rfl | rfl | q
    · rfl
    · rfl
    · rfl
    · rfl
    · rfl
    · rw [if_neg (by omega), if_neg (by omega), if_neg (by omega), if_neg (by omega), if_neg (by omega), if_neg (by omega), if_neg (by omega), if_neg (by omega), if_neg (by omega), if_neg (by omega), if_neg (by omega), if_neg (by omega)]
  · rw [if_neg (by omega), if_neg (by omega), if_neg (by omega), if_neg (by omega), if_neg (by omega)]
    by_cases g : (57 ≤ a ∧ a ≤ 63) ∧ k < 6
    · rw [if_pos g, if_pos g]
    · rw [if_neg g, if_neg g, if_neg (by omega), if_neg (by omega), if_neg (by omega), if_neg (by omega), if_neg (by omega)]
end K25
