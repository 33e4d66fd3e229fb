/-! ===== become ===== -/
section K26
variable {ω : am_W}
def cp5 (u w : Nat → Int) : Nat → Int := fun k => if k < 5 then u k else w k
theorem cp5_E (u w : Nat → Int) : E5 (cp5 u w) u := fun f hf => if_pos hf
theorem c_vbecome {v u : Int} (hv : am_is ω v (4, 5) = true) (hu : am_is ω u (4, 5) = true) (ne : v.toNat ≠ u.toNat) : am_run (47, 0) 0 ([some (.inr (.inr v)), some (.inr (.inr u))], [], ω) = some (none, setV ω v.toNat (cp5 (am_get ω u.toNat) (am_get ω v.toNat))) := by
  have o : ∀ w, am_get (setV ω v.toNat w) u.toNat = am_get ω u.toNat := fun w => setV_o (fun e => ne e.symm)
  rw [pX4_become_0 _ _ _ hu hv, put_setV (k := 0), o, put_set, pX4_become_16 _ _ _ (by have z := hu; exact z) (by have z := hv; exact z), o, put_set, o, put_set, pX4_become_32 _ _ _ (by have z := hu; exact z) (by have z := hv; exact z), o, put_set]
  refine congrArg (fun x => some (none, setV ω v.toNat x)) (funext fun k => ?_)
  unfold cp5 up
  have : k = 0 ∨ k = 1 ∨ k = 2 ∨ k = 3 ∨ k = 4 ∨ 5 ≤ k := by omega
  rcases this with rfl | rfl | rfl | rfl | rfl | q
  · rfl
  · rfl
  · rfl
  · rfl
  · rfl
  · rw [if_neg (by omega), if_neg (by omega), if_neg (by omega), if_neg (by omega), if_neg (by omega), if_neg (by omega)]
theorem cpy_g {a0 sp a1 dp n a k : Nat} : am_get (am_cpy ω a0 sp a1 dp n) a k = if a = a1 ∧ (dp ≤ k ∧ k < dp + n) then am_get ω a0 (sp + (k - dp)) else am_get ω a k := rfl
theorem cpy_o {a0 sp a1 dp n a k : Nat} (h : a ≠ a1) : am_get (am_cpy ω a0 sp a1 dp n) a k = am_get ω a k := if_neg (fun q => h q.1)
theorem put_len {a k : Nat} {v r : Int} : am_len (am_put ω a k v) r = am_len ω r := rfl
theorem cpy_len {a0 sp a1 dp n : Nat} {r : Int} : am_len (am_cpy ω a0 sp a1 dp n) r = am_len ω r := rfl
theorem cpy_is {a0 sp a1 dp n : Nat} {r : Int} {q : Nat × Nat} : am_is (am_cpy ω a0 sp a1 dp n) r q = am_is ω r q := rfl
theorem put_arl {a k : Nat} {v r : Int} : am_arl (am_put ω a k v) r = am_arl ω r := rfl
theorem cpy_arl {a0 sp a1 dp n : Nat} {r : Int} : am_arl (am_cpy ω a0 sp a1 dp n) r = am_arl ω r := rfl
theorem put_cpok {a k : Nat} {v r0 s r1 d n : Int} : am_cpok (am_put ω a k v) r0 s r1 d n = am_cpok ω r0 s r1 d n := rfl
theorem cpy_cpok {a0 sp a1 dp n' : Nat} {r0 s r1 d n : Int} : am_cpok (am_cpy ω a0 sp a1 dp n') r0 s r1 d n = am_cpok ω r0 s r1 d n := rfl
/-- the world at d is now as the one at s -/
def becS (ω : am_W) (d s : Nat) (i : Nat) : am_W := (ω.1, fun a k => if a = d ∧ (k = 0 ∨ k = 3) then ω.2.1 s k else if a = d + 1 ∧ k < 6 then ω.2.1 (s + 1) k else if a = d + 2 ∧ k < 5 then ω.2.1 (s + 2) k else if (d + 4 ≤ a ∧ a < d + 4 + i) ∧ k < 5 then ω.2.1 (s + (a - d)) k else ω.2.1 a k, ω.2.2)
def becF (ω : am_W) (d s : Nat) : am_W := (ω.1, fun a k => if a = d ∧ (k = 0 ∨ k = 3 ∨ k = 5 ∨ k = 6 ∨ k = 7) then ω.2.1 s k else if a = d + 1 ∧ k < 6 then ω.2.1 (s + 1) k else if a = d + 2 ∧ k < 5 then ω.2.1 (s + 2) k else if (d + 4 ≤ a ∧ a < d + 10) ∧ k < 5 then ω.2.1 (s + (a - d)) k else ω.2.1 a k, ω.2.2)
theorem bec_dc0 {ω' : am_W} {d : Nat} (h : Bs ω) (hd : d = 1 ∨ d = 11 ∨ d = 23) (e1 : ω'.1 = ω.1) (e2 : ω'.2.2 = ω.2.2) (e : ∀ a k, ¬ (a = d ∧ (k = 0 ∨ k = 3 ∨ k = 5 ∨ k = 6 ∨ k = 7)) → ¬ (a = d + 1) → ¬ (a = d + 2) → ¬ (d + 4 ≤ a ∧ a < d + 10) → am_get ω' a k = am_get ω a k) : Dc ω ω' := by
  have s0 : sh_0[d]? = some (5, 8) := by rcases hd with rfl | rfl | rfl <;> rfl
  have s1 : sh_0[d + 1]? = some (100, 6) := by rcases hd with rfl | rfl | rfl <;> rfl
  have s2 : sh_0[d + 2]? = some (100, 5) := by rcases hd with rfl | rfl | rfl <;> rfl
  have s4 : ∀ a, d + 4 ≤ a ∧ a < d + 10 → sh_0[a]? = some (4, 5) := by
    intro a ha
    have : a = d + 4 ∨ a = d + 5 ∨ a = d + 6 ∨ a = d + 7 ∨ a = d + 8 ∨ a = d + 9 := by omega
    rcases hd with rfl | rfl | rfl <;> rcases this with rfl | rfl | rfl | rfl | rfl | rfl <;> rfl
  refine ⟨e1, e2, fun a k q => e a k (fun z => ?_) (fun z => ?_) (fun z => ?_) (fun z => ?_)⟩
  · obtain ⟨rfl, z⟩ := z
    rw [am_rp_at (bs_sh h s0)] at q
    rcases z with rfl | rfl | rfl | rfl | rfl <;> cases q
  · subst z; rw [am_rp_at (bs_sh h s1)] at q; cases q
  · subst z; rw [am_rp_at (bs_sh h s2)] at q; cases q
  · rw [am_rp_at (bs_sh h (s4 a z)), fk4] at q; cases q
theorem becS_dc {d s i : Nat} (h : Bs ω) (hd : d = 1 ∨ d = 11 ∨ d = 23) (hi : i ≤ 6) : Dc ω (becS ω d s i) := bec_dc0 h hd rfl rfl (fun a k h1 h2 h3 h4 => (if_neg (by omega)).trans ((if_neg (by omega)).trans ((if_neg (by omega)).trans (if_neg (by omega)))))
theorem becF_dc {d s : Nat} (h : Bs ω) (hd : d = 1 ∨ d = 11 ∨ d = 23) : Dc ω (becF ω d s) := bec_dc0 h hd rfl rfl (fun a k h1 h2 h3 h4 => (if_neg (by omega)).trans ((if_neg (by omega)).trans ((if_neg (by omega)).trans (if_neg (by omega)))))
theorem becS_s {d s i : Nat} (hd : d = 1 ∨ d = 11 ∨ d = 23) (hs : s = 1 ∨ s = 11 ∨ s = 23) (ne : d ≠ s) (hi : i < 6) : setV (becS ω d s i) (d + 4 + i) (cp5 (am_get (becS ω d s i) (s + 4 + i)) (am_get (becS ω d s i) (d + 4 + i))) = becS ω d s (i + 1) := by
  have g1 : am_get (becS ω d s i) (s + 4 + i) = am_get ω (s + 4 + i) := funext fun k => (if_neg (by omega)).trans ((if_neg (by omega)).trans ((if_neg (by omega)).trans (if_neg (by omega))))
  have g2 : am_get (becS ω d s i) (d + 4 + i) = am_get ω (d + 4 + i) := funext fun k => (if_neg (by omega)).trans ((if_neg (by omega)).trans ((if_neg (by omega)).trans (if_neg (by omega))))
  rw [g1, g2]
  refine Prod.ext rfl (Prod.ext (funext fun a => funext fun k => ?_) rfl)
  show (if a = d + 4 + i then cp5 (am_get ω (s + 4 + i)) (am_get ω (d + 4 + i)) k else if a = d ∧ (k = 0 ∨ k = 3) then ω.2.1 s k else if a = d + 1 ∧ k < 6 then ω.2.1 (s + 1) k else if a = d + 2 ∧ k < 5 then ω.2.1 (s + 2) k else if (d + 4 ≤ a ∧ a < d + 4 + i) ∧ k < 5 then ω.2.1 (s + (a - d)) k else ω.2.1 a k) = if a = d ∧ (k = 0 ∨ k = 3) then ω.2.1 s k else if a = d + 1 ∧ k < 6 then ω.2.1 (s + 1) k else if a = d + 2 ∧ k < 5 then ω.2.1 (s + 2) k else if (d + 4 ≤ a ∧ a < d + 4 + (i + 1)) ∧ k < 5 then ω.2.1 (s + (a - d)) k else ω.2.1 a k
  by_cases ga : a = d + 4 + i
  · rw [if_pos ga, if_neg (by omega), if_neg (by omega), if_neg (by omega)]
    unfold cp5
    by_cases gk : k < 5
    · rw [if_pos gk, if_pos (by omega), ga, show s + (d + 4 + i - d) = s + 4 + i by omega]
      rfl
    · rw [if_neg gk, if_neg (by omega), ga]
      rfl
  · rw [if_neg ga]
    by_cases g4 : (d + 4 ≤ a ∧ a < d + 4 + i) ∧ k < 5
    · rw [if_neg (by omega), if_neg (by omega), if_neg (by omega), if_pos g4, if_neg (by omega), if_neg (by omega), if_neg (by omega), if_pos (by omega)]
    · have e : ((d + 4 ≤ a ∧ a < d + 4 + (i + 1)) ∧ k < 5) = ((d + 4 ≤ a ∧ a < d + 4 + i) ∧ k < 5) := propext (by omega)
      simp only [e]
theorem becS_src {d s i : Nat} (hd : d = 1 ∨ d = 11 ∨ d = 23) (hs : s = 1 ∨ s = 11 ∨ s = 23) (ne : d ≠ s) (hi : i ≤ 6) (k : Nat) : am_get (becS ω d s i) s k = ω.2.1 s k := (if_neg (by omega)).trans ((if_neg (by omega)).trans ((if_neg (by omega)).trans (if_neg (by omega))))
theorem c_become_1_11 (h : Bs ω) : am_run (53, 0) 0 ([some (.inr (.inr 1)), some (.inr (.inr 11)), none], [], ω) = some (none, becF ω 1 11) := by
  have hd : isW 1 := by unfold isW; omega
  have hs : isW 11 := by unfold isW; omega
  have l1 := bs_len (ω := ω) h (a := 1 + 1) (kd := 100) (n := 6) rfl
  have l2 := bs_len (ω := ω) h (a := 1 + 2) (kd := 100) (n := 5) rfl
  simp only [Nat.reduceAdd, Int.cast_ofNat_Int] at l1 l2
  have o1 : am_arl ω (1 + 1) = true := by unfold am_arl; rw [show am_ar ω (1 + 1) 100 = true from bs_ar (a := 1 + 1) h rfl]; rfl
  have o2 : am_arl ω (1 + 2) = true := by unfold am_arl; rw [show am_ar ω (1 + 2) 100 = true from bs_ar (a := 1 + 2) h rfl]; rfl
  have q1 : am_cpok ω (11 + 1) 0 (1 + 1) 0 6 = true := by
    unfold am_cpok
    rw [show am_ar ω (11 + 1) 100 = true from bs_ar (a := 11 + 1) h rfl, show am_ar ω (1 + 1) 100 = true from bs_ar (a := 1 + 1) h rfl, show am_len ω (1 + 1) = 6 from bs_len (a := 1 + 1) (n := 6) h rfl, show am_len ω (11 + 1) = 6 from bs_len (a := 11 + 1) (n := 6) h rfl]
    rfl
  have q2 : am_cpok ω (11 + 2) 0 (1 + 2) 0 5 = true := by
    unfold am_cpok
    rw [show am_ar ω (11 + 2) 100 = true from bs_ar (a := 11 + 2) h rfl, show am_ar ω (1 + 2) 100 = true from bs_ar (a := 1 + 2) h rfl, show am_len ω (1 + 2) = 5 from bs_len (a := 1 + 2) (n := 5) h rfl, show am_len ω (11 + 2) = 5 from bs_len (a := 11 + 2) (n := 5) h rfl]
    rfl
  simp only [Int.reduceAdd] at o1 o2 q1 q2
  have lp : ∀ d i : Nat, i + d = 6 → am_run (53, 0) 54 ([some (.inr (.inr 1)), some (.inr (.inr 11)), some (.inl ((i : Int)))], [], (becS ω 1 11 i)) = am_run (53, 0) 54 ([some (.inr (.inr 1)), some (.inr (.inr 11)), some (.inl (((6 : Nat) : Int)))], [], (becS ω 1 11 6)) := by
    intro d
    induction d with
    | zero => intro i hi; obtain rfl : i = 6 := by omega
              rfl
    | succ d ih =>
      intro i hi
      have b := h.dc (becS_dc h (d := 1) (s := 11) (i := i) (by omega) (by omega))
      have eD : am_get (becS ω 1 11 i) (1 + 3) i = 1 + 4 + (i : Int) := w_V b hd (by omega)
      have eS : am_get (becS ω 1 11 i) (11 + 3) i = 11 + 4 + (i : Int) := w_V b hs (by omega)
      have iD : am_ina (becS ω 1 11 i) (1 + 3) (i : Int) = true := ina_S b hd (by omega) (by omega)
      have iS : am_ina (becS ω 1 11 i) (11 + 3) (i : Int) = true := ina_S b hs (by omega) (by omega)
      have vD := is_V b hd (i := i) (by omega)
      have vS := is_V b hs (i := i) (by omega)
      have vb := c_vbecome vD vS (by omega)
      have k1 : am_get (becS ω 1 11 i) 1 4 = 1 + 3 := w_S b hd
      have k2 : am_get (becS ω 1 11 i) 11 4 = 11 + 3 := w_S b hs
      simp only [Int.reduceAdd, Nat.reduceAdd] at eD eS iD iS vD vS vb k1 k2
      rw [pX5_become_54 _ _ _ _ (by exact w_is b hs) (by exact w_is b hd), if_neg (by omega)]
      simp only [Int.reduceToNat, k1, k2, iD, iS, if_true, Int.toNat_natCast, eD, eS, vD]
      rw [bv_v vb, am_w_s (by omega) (by omega), show (i : Int) + 1 = ((i + 1 : Nat) : Int) by omega]
      have st := becS_s (ω := ω) (d := 1) (s := 11) (i := i) (by omega) (by omega) (by omega) (by omega)
      have t1 : (1 + 4 + (i : Int)).toNat = 1 + 4 + i := by omega
      have t2 : (11 + 4 + (i : Int)).toNat = 11 + 4 + i := by omega
      simp only [Int.reduceAdd, Nat.reduceAdd] at st t1 t2 ⊢
      rw [t1, t2, st]
      exact ih (i + 1) (by omega)
  have k1 : am_get ω 1 1 = 1 + 1 := w_T h hd
  have k2 : am_get ω 11 1 = 11 + 1 := w_T h hs
  have k3 : am_get ω 1 2 = 1 + 2 := w_C h hd
  have k4 : am_get ω 11 2 = 11 + 2 := w_C h hs
  simp only [Int.reduceAdd] at k1 k2 k3 k4
  have p := pX5_become_0 1 11 ω (w_is h hs) (w_is h hd)
  simp only [gp_same, gp_cell, gp_place, put_in, put_is, put_ina, ne_eq, Nat.reduceEqDiff, reduceCtorEq, not_false_eq_true, am_bi_s, am_bl_s, am_ba_s, am_bv_s, Int.toNat_zero, Int.reduceToNat, Int.toNat_natCast, if_true, if_false, not_true, not_false_eq_true, Int.reduceEq, Int.reduceLT, Int.reduceLE, cpy_o, put_len, cpy_len, put_arl, cpy_arl, put_cpok, cpy_cpok, k1, k2, k3, k4, l1, l2, o1, o2, q1, q2, pX5_become_52] at p
  have e0 : am_put (am_cpy (am_cpy (am_put ω 1 0 (am_get ω 11 0)) (11 + 1) 0 (1 + 1) 0 6) (11 + 2) 0 (1 + 2) 0 5) 1 3 (am_get ω 11 3) = becS ω 1 11 0 := by
    refine Prod.ext rfl (Prod.ext (funext fun a => funext fun k => ?_) rfl)
    show (if a = 1 ∧ k = 3 then ω.2.1 11 3 else if a = 1 + 2 ∧ (0 ≤ k ∧ k < 0 + 5) then (if 11 + 2 = 1 + 1 ∧ (0 ≤ 0 + (k - 0) ∧ 0 + (k - 0) < 0 + 6) then (if 11 + 1 = 1 ∧ (0 + (0 + (k - 0) - 0)) = 0 then ω.2.1 11 0 else ω.2.1 (11 + 1) (0 + (0 + (k - 0) - 0))) else if 11 + 2 = 1 ∧ (0 + (k - 0)) = 0 then ω.2.1 11 0 else ω.2.1 (11 + 2) (0 + (k - 0))) else if a = 1 + 1 ∧ (0 ≤ k ∧ k < 0 + 6) then (if 11 + 1 = 1 ∧ (0 + (k - 0)) = 0 then ω.2.1 11 0 else ω.2.1 (11 + 1) (0 + (k - 0))) else if a = 1 ∧ k = 0 then ω.2.1 11 0 else ω.2.1 a k) = if a = 1 ∧ (k = 0 ∨ k = 3) then ω.2.1 11 k else if a = 1 + 1 ∧ k < 6 then ω.2.1 (11 + 1) k else if a = 1 + 2 ∧ k < 5 then ω.2.1 (11 + 2) k else if (1 + 4 ≤ a ∧ a < 1 + 4 + 0) ∧ k < 5 then ω.2.1 (11 + (a - 1)) k else ω.2.1 a k
    by_cases g0 : a = 1
    · subst g0
      by_cases g3 : k = 3
      · subst g3; rfl
      · by_cases g4 : k = 0
        · subst g4; rfl
        · rw [if_neg (by omega), if_neg (by omega), if_neg (by omega), if_neg (by omega), if_neg (by omega), if_neg (by omega), if_neg (by omega), if_neg (by omega)]
    · by_cases g1 : a = 1 + 1
      · subst g1
        by_cases g3 : k < 6
        · rw [if_neg (by omega), if_neg (by omega), if_pos (by omega), if_neg (by omega), if_neg (by omega), if_pos (by omega), show 0 + (k - 0) = k by omega]
        · rw [if_neg (by omega), if_neg (by omega), if_neg (by omega), if_neg (by omega), if_neg (by omega), if_neg (by omega), if_neg (by omega), if_neg (by omega)]
      · by_cases g2 : a = 1 + 2
        · subst g2
          by_cases g3 : k < 5
          · rw [if_neg (by omega), if_pos (by omega), if_neg (by omega), if_neg (by omega), if_neg (by omega), if_neg (by omega), if_pos (by omega), show 0 + (k - 0) = k by omega]
          · rw [if_neg (by omega), if_neg (by omega), if_neg (by omega), if_neg (by omega), if_neg (by omega), if_neg (by omega), if_neg (by omega), if_neg (by omega)]
        · rw [if_neg (by omega), if_neg (by omega), if_neg (by omega), if_neg (by omega), if_neg (by omega), if_neg (by omega), if_neg (by omega), if_neg (by omega)]
  simp only [Nat.reduceAdd] at e0
  rw [e0] at p
  have b6 := h.dc (becS_dc h (d := 1) (s := 11) (i := 6) (by omega) (by omega))
  have l0 := lp 6 0 (by omega)
  refine p.trans (l0.trans ?_)
  rw [pX5_become_54 _ _ _ _ (by exact w_is b6 hs) (by exact w_is b6 hd), if_pos (by omega), pX5_become_97 _ _ _ _ (by have z := w_is b6 hs; exact z) (by have z := w_is b6 hd; exact z)]
  simp only [gp_same, gp_cell, gp_place, put_in, put_is, put_ina, ne_eq, Nat.reduceEqDiff, reduceCtorEq, not_false_eq_true, Int.reduceToNat]
  refine congrArg (fun x => some (none, x)) (Prod.ext rfl (Prod.ext (funext fun a => funext fun k => ?_) rfl))
  show (if a = 1 ∧ k = 7 then am_get (becS ω 1 11 6) 11 7 else if a = 1 ∧ k = 6 then am_get (becS ω 1 11 6) 11 6 else if a = 1 ∧ k = 5 then am_get (becS ω 1 11 6) 11 5 else am_get (becS ω 1 11 6) a k) = am_get (becF ω 1 11) a k
  have c1 : ∀ k, am_get (becS ω 1 11 6) 11 k = ω.2.1 11 k := becS_src (by omega) (by omega) (by omega) (by omega)
  rw [c1, c1, c1]
  by_cases g0 : a = 1
  · subst g0
    have : k = 0 ∨ k = 3 ∨ k = 5 ∨ k = 6 ∨ k = 7 ∨ ¬ (k = 0 ∨ k = 3 ∨ k = 5 ∨ k = 6 ∨ k = 7) := by omega
    rcases this with rfl | rfl | rfl | rfl | rfl | q
    · rfl
    · rfl
    · rfl
    · rfl
    · rfl
    · rw [if_neg (by omega), if_neg (by omega), if_neg (by omega)]
      exact ((if_neg (by omega)).trans ((if_neg (by omega)).trans ((if_neg (by omega)).trans (if_neg (by omega))))).trans ((if_neg (by omega)).trans ((if_neg (by omega)).trans ((if_neg (by omega)).trans (if_neg (by omega))))).symm
  · rw [if_neg (by omega), if_neg (by omega), if_neg (by omega)]
    exact (if_neg (by omega)).trans (if_neg (by omega)).symm
theorem c_become_11_1 (h : Bs ω) : am_run (53, 0) 0 ([some (.inr (.inr 11)), some (.inr (.inr 1)), none], [], ω) = some (none, becF ω 11 1) := by
  have hd : isW 11 := by unfold isW; omega
  have hs : isW 1 := by unfold isW; omega
  have l1 := bs_len (ω := ω) h (a := 11 + 1) (kd := 100) (n := 6) rfl
  have l2 := bs_len (ω := ω) h (a := 11 + 2) (kd := 100) (n := 5) rfl
  simp only [Nat.reduceAdd, Int.cast_ofNat_Int] at l1 l2
  have o1 : am_arl ω (11 + 1) = true := by unfold am_arl; rw [show am_ar ω (11 + 1) 100 = true from bs_ar (a := 11 + 1) h rfl]; rfl
  have o2 : am_arl ω (11 + 2) = true := by unfold am_arl; rw [show am_ar ω (11 + 2) 100 = true from bs_ar (a := 11 + 2) h rfl]; rfl
  have q1 : am_cpok ω (1 + 1) 0 (11 + 1) 0 6 = true := by
    unfold am_cpok
    rw [show am_ar ω (1 + 1) 100 = true from bs_ar (a := 1 + 1) h rfl, show am_ar ω (11 + 1) 100 = true from bs_ar (a := 11 + 1) h rfl, show am_len ω (11 + 1) = 6 from bs_len (a := 11 + 1) (n := 6) h rfl, show am_len ω (1 + 1) = 6 from bs_len (a := 1 + 1) (n := 6) h rfl]
    rfl
  have q2 : am_cpok ω (1 + 2) 0 (11 + 2) 0 5 = true := by
    unfold am_cpok
    rw [show am_ar ω (1 + 2) 100 = true from bs_ar (a := 1 + 2) h rfl, show am_ar ω (11 + 2) 100 = true from bs_ar (a := 11 + 2) h rfl, show am_len ω (11 + 2) = 5 from bs_len (a := 11 + 2) (n := 5) h rfl, show am_len ω (1 + 2) = 5 from bs_len (a := 1 + 2) (n := 5) h rfl]
    rfl
  simp only [Int.reduceAdd] at o1 o2 q1 q2
  have lp : ∀ d i : Nat, i + d = 6 → am_run (53, 0) 54 ([some (.inr (.inr 11)), some (.inr (.inr 1)), some (.inl ((i : Int)))], [], (becS ω 11 1 i)) = am_run (53, 0) 54 ([some (.inr (.inr 11)), some (.inr (.inr 1)), some (.inl (((6 : Nat) : Int)))], [], (becS ω 11 1 6)) := by
    intro d
    induction d with
    | zero => intro i hi; obtain rfl : i = 6 := by omega
              rfl
    | succ d ih =>
      intro i hi
      have b := h.dc (becS_dc h (d := 11) (s := 1) (i := i) (by omega) (by omega))
      have eD : am_get (becS ω 11 1 i) (11 + 3) i = 11 + 4 + (i : Int) := w_V b hd (by omega)
      have eS : am_get (becS ω 11 1 i) (1 + 3) i = 1 + 4 + (i : Int) := w_V b hs (by omega)
      have iD : am_ina (becS ω 11 1 i) (11 + 3) (i : Int) = true := ina_S b hd (by omega) (by omega)
      have iS : am_ina (becS ω 11 1 i) (1 + 3) (i : Int) = true := ina_S b hs (by omega) (by omega)
      have vD := is_V b hd (i := i) (by omega)
      have vS := is_V b hs (i := i) (by omega)
      have vb := c_vbecome vD vS (by omega)
      have k1 : am_get (becS ω 11 1 i) 11 4 = 11 + 3 := w_S b hd
      have k2 : am_get (becS ω 11 1 i) 1 4 = 1 + 3 := w_S b hs
      simp only [Int.reduceAdd, Nat.reduceAdd] at eD eS iD iS vD vS vb k1 k2
      rw [pX5_become_54 _ _ _ _ (by exact w_is b hs) (by exact w_is b hd), if_neg (by omega)]
      simp only [Int.reduceToNat, k1, k2, iD, iS, if_true, Int.toNat_natCast, eD, eS, vD]
      rw [bv_v vb, am_w_s (by omega) (by omega), show (i : Int) + 1 = ((i + 1 : Nat) : Int) by omega]
      have st := becS_s (ω := ω) (d := 11) (s := 1) (i := i) (by omega) (by omega) (by omega) (by omega)
      have t1 : (11 + 4 + (i : Int)).toNat = 11 + 4 + i := by omega
      have t2 : (1 + 4 + (i : Int)).toNat = 1 + 4 + i := by omega
      simp only [Int.reduceAdd, Nat.reduceAdd] at st t1 t2 ⊢
      rw [t1, t2, st]
      exact ih (i + 1) (by omega)
  have k1 : am_get ω 11 1 = 11 + 1 := w_T h hd
  have k2 : am_get ω 1 1 = 1 + 1 := w_T h hs
  have k3 : am_get ω 11 2 = 11 + 2 := w_C h hd
  have k4 : am_get ω 1 2 = 1 + 2 := w_C h hs
  simp only [Int.reduceAdd] at k1 k2 k3 k4
  have p := pX5_become_0 11 1 ω (w_is h hs) (w_is h hd)
  simp only [gp_same, gp_cell, gp_place, put_in, put_is, put_ina, ne_eq, Nat.reduceEqDiff, reduceCtorEq, not_false_eq_true, am_bi_s, am_bl_s, am_ba_s, am_bv_s, Int.toNat_zero, Int.reduceToNat, Int.toNat_natCast, if_true, if_false, not_true, not_false_eq_true, Int.reduceEq, Int.reduceLT, Int.reduceLE, cpy_o, put_len, cpy_len, put_arl, cpy_arl, put_cpok, cpy_cpok, k1, k2, k3, k4, l1, l2, o1, o2, q1, q2, pX5_become_52] at p
  have e0 : am_put (am_cpy (am_cpy (am_put ω 11 0 (am_get ω 1 0)) (1 + 1) 0 (11 + 1) 0 6) (1 + 2) 0 (11 + 2) 0 5) 11 3 (am_get ω 1 3) = becS ω 11 1 0 := by
    refine Prod.ext rfl (Prod.ext (funext fun a => funext fun k => ?_) rfl)
    show (if a = 11 ∧ k = 3 then ω.2.1 1 3 else if a = 11 + 2 ∧ (0 ≤ k ∧ k < 0 + 5) then (if 1 + 2 = 11 + 1 ∧ (0 ≤ 0 + (k - 0) ∧ 0 + (k - 0) < 0 + 6) then (if 1 + 1 = 11 ∧ (0 + (0 + (k - 0) - 0)) = 0 then ω.2.1 1 0 else ω.2.1 (1 + 1) (0 + (0 + (k - 0) - 0))) else if 1 + 2 = 11 ∧ (0 + (k - 0)) = 0 then ω.2.1 1 0 else ω.2.1 (1 + 2) (0 + (k - 0))) else if a = 11 + 1 ∧ (0 ≤ k ∧ k < 0 + 6) then (if 1 + 1 = 11 ∧ (0 + (k - 0)) = 0 then ω.2.1 1 0 else ω.2.1 (1 + 1) (0 + (k - 0))) else if a = 11 ∧ k = 0 then ω.2.1 1 0 else ω.2.1 a k) = if a = 11 ∧ (k = 0 ∨ k = 3) then ω.2.1 1 k else if a = 11 + 1 ∧ k < 6 then ω.2.1 (1 + 1) k else if a = 11 + 2 ∧ k < 5 then ω.2.1 (1 + 2) k else if (11 + 4 ≤ a ∧ a < 11 + 4 + 0) ∧ k < 5 then ω.2.1 (1 + (a - 11)) k else ω.2.1 a k
    by_cases g0 : a = 11
    · subst g0
      by_cases g3 : k = 3
      · subst g3; rfl
      · by_cases g4 : k = 0
        · subst g4; rfl
        · rw [if_neg (by omega), if_neg (by omega), if_neg (by omega), if_neg (by omega), if_neg (by omega), if_neg (by omega), if_neg (by omega), if_neg (by omega)]
    · by_cases g1 : a = 11 + 1
      · subst g1
        by_cases g3 : k < 6
        · rw [if_neg (by omega), if_neg (by omega), if_pos (by omega), if_neg (by omega), if_neg (by omega), if_pos (by omega), show 0 + (k - 0) = k by omega]
        · rw [if_neg (by omega), if_neg (by omega), if_neg (by omega), if_neg (by omega), if_neg (by omega), if_neg (by omega), if_neg (by omega), if_neg (by omega)]
      · by_cases g2 : a = 11 + 2
        · subst g2
          by_cases g3 : k < 5
          · rw [if_neg (by omega), if_pos (by omega), if_neg (by omega), if_neg (by omega), if_neg (by omega), if_neg (by omega), if_pos (by omega), show 0 + (k - 0) = k by omega]
          · rw [if_neg (by omega), if_neg (by omega), if_neg (by omega), if_neg (by omega), if_neg (by omega), if_neg (by omega), if_neg (by omega), if_neg (by omega)]
        · rw [if_neg (by omega), if_neg (by omega), if_neg (by omega), if_neg (by omega), if_neg (by omega), if_neg (by omega), if_neg (by omega), if_neg (by omega)]
  simp only [Nat.reduceAdd] at e0
  rw [e0] at p
  have b6 := h.dc (becS_dc h (d := 11) (s := 1) (i := 6) (by omega) (by omega))
  have l0 := lp 6 0 (by omega)
  refine p.trans (l0.trans ?_)
  rw [pX5_become_54 _ _ _ _ (by exact w_is b6 hs) (by exact w_is b6 hd), if_pos (by omega), pX5_become_97 _ _ _ _ (by have z := w_is b6 hs; exact z) (by have z := w_is b6 hd; exact z)]
  simp only [gp_same, gp_cell, gp_place, put_in, put_is, put_ina, ne_eq, Nat.reduceEqDiff, reduceCtorEq, not_false_eq_true, Int.reduceToNat]
  refine congrArg (fun x => some (none, x)) (Prod.ext rfl (Prod.ext (funext fun a => funext fun k => ?_) rfl))
  show (if a = 11 ∧ k = 7 then am_get (becS ω 11 1 6) 1 7 else if a = 11 ∧ k = 6 then am_get (becS ω 11 1 6) 1 6 else if a = 11 ∧ k = 5 then am_get (becS ω 11 1 6) 1 5 else am_get (becS ω 11 1 6) a k) = am_get (becF ω 11 1) a k
  have c1 : ∀ k, am_get (becS ω 11 1 6) 1 k = ω.2.1 1 k := becS_src (by omega) (by omega) (by omega) (by omega)
  rw [c1, c1, c1]
  by_cases g0 : a = 11
  · subst g0
    have : k = 0 ∨ k = 3 ∨ k = 5 ∨ k = 6 ∨ k = 7 ∨ ¬ (k = 0 ∨ k = 3 ∨ k = 5 ∨ k = 6 ∨ k = 7) := by omega
    rcases this with rfl | rfl | rfl | rfl | rfl | q
    · rfl
    · rfl
    · rfl
    · rfl
    · rfl
    · rw [if_neg (by omega), if_neg (by omega), if_neg (by omega)]
      exact ((if_neg (by omega)).trans ((if_neg (by omega)).trans ((if_neg (by omega)).trans (if_neg (by omega))))).trans ((if_neg (by omega)).trans ((if_neg (by omega)).trans ((if_neg (by omega)).trans (if_neg (by omega))))).symm
  · rw [if_neg (by omega), if_neg (by omega), if_neg (by omega)]
    exact (if_neg (by omega)).trans (if_neg (by omega)).symm
theorem c_become_1_23 (h : Bs ω) : am_run (53, 0) 0 ([some (.inr (.inr 1)), some (.inr (.inr 23)), none], [], ω) = some (none, becF ω 1 23) := by
  have hd : isW 1 := by unfold isW; omega
  have hs : isW 23 := by unfold isW; omega
  have l1 := bs_len (ω := ω) h (a := 1 + 1) (kd := 100) (n := 6) rfl
  have l2 := bs_len (ω := ω) h (a := 1 + 2) (kd := 100) (n := 5) rfl
  simp only [Nat.reduceAdd, Int.cast_ofNat_Int] at l1 l2
  have o1 : am_arl ω (1 + 1) = true := by unfold am_arl; rw [show am_ar ω (1 + 1) 100 = true from bs_ar (a := 1 + 1) h rfl]; rfl
  have o2 : am_arl ω (1 + 2) = true := by unfold am_arl; rw [show am_ar ω (1 + 2) 100 = true from bs_ar (a := 1 + 2) h rfl]; rfl
  have q1 : am_cpok ω (23 + 1) 0 (1 + 1) 0 6 = true := by
    unfold am_cpok
    rw [show am_ar ω (23 + 1) 100 = true from bs_ar (a := 23 + 1) h rfl, show am_ar ω (1 + 1) 100 = true from bs_ar (a := 1 + 1) h rfl, show am_len ω (1 + 1) = 6 from bs_len (a := 1 + 1) (n := 6) h rfl, show am_len ω (23 + 1) = 6 from bs_len (a := 23 + 1) (n := 6) h rfl]
    rfl
  have q2 : am_cpok ω (23 + 2) 0 (1 + 2) 0 5 = true := by
    unfold am_cpok
    rw [show am_ar ω (23 + 2) 100 = true from bs_ar (a := 23 + 2) h rfl, show am_ar ω (1 + 2) 100 = true from bs_ar (a := 1 + 2) h rfl, show am_len ω (1 + 2) = 5 from bs_len (a := 1 + 2) (n := 5) h rfl, show am_len ω (23 + 2) = 5 from bs_len (a := 23 + 2) (n := 5) h rfl]
    rfl
  simp only [Int.reduceAdd] at o1 o2 q1 q2
  have lp : ∀ d i : Nat, i + d = 6 → am_run (53, 0) 54 ([some (.inr (.inr 1)), some (.inr (.inr 23)), some (.inl ((i : Int)))], [], (becS ω 1 23 i)) = am_run (53, 0) 54 ([some (.inr (.inr 1)), some (.inr (.inr 23)), some (.inl (((6 : Nat) : Int)))], [], (becS ω 1 23 6)) := by
    intro d
    induction d with
    | zero => intro i hi; obtain rfl : i = 6 := by omega
              rfl
    | succ d ih =>
      intro i hi
      have b := h.dc (becS_dc h (d := 1) (s := 23) (i := i) (by omega) (by omega))
      have eD : am_get (becS ω 1 23 i) (1 + 3) i = 1 + 4 + (i : Int) := w_V b hd (by omega)
      have eS : am_get (becS ω 1 23 i) (23 + 3) i = 23 + 4 + (i : Int) := w_V b hs (by omega)
      have iD : am_ina (becS ω 1 23 i) (1 + 3) (i : Int) = true := ina_S b hd (by omega) (by omega)
      have iS : am_ina (becS ω 1 23 i) (23 + 3) (i : Int) = true := ina_S b hs (by omega) (by omega)
      have vD := is_V b hd (i := i) (by omega)
      have vS := is_V b hs (i := i) (by omega)
      have vb := c_vbecome vD vS (by omega)
      have k1 : am_get (becS ω 1 23 i) 1 4 = 1 + 3 := w_S b hd
      have k2 : am_get (becS ω 1 23 i) 23 4 = 23 + 3 := w_S b hs
      simp only [Int.reduceAdd, Nat.reduceAdd] at eD eS iD iS vD vS vb k1 k2
      rw [pX5_become_54 _ _ _ _ (by exact w_is b hs) (by exact w_is b hd), if_neg (by omega)]
      simp only [Int.reduceToNat, k1, k2, iD, iS, if_true, Int.toNat_natCast, eD, eS, vD]
      rw [bv_v vb, am_w_s (by omega) (by omega), show (i : Int) + 1 = ((i + 1 : Nat) : Int) by omega]
      have st := becS_s (ω := ω) (d := 1) (s := 23) (i := i) (by omega) (by omega) (by omega) (by omega)
      have t1 : (1 + 4 + (i : Int)).toNat = 1 + 4 + i := by omega
      have t2 : (23 + 4 + (i : Int)).toNat = 23 + 4 + i := by omega
      simp only [Int.reduceAdd, Nat.reduceAdd] at st t1 t2 ⊢
      rw [t1, t2, st]
      exact ih (i + 1) (by omega)
  have k1 : am_get ω 1 1 = 1 + 1 := w_T h hd
  have k2 : am_get ω 23 1 = 23 + 1 := w_T h hs
  have k3 : am_get ω 1 2 = 1 + 2 := w_C h hd
  have k4 : am_get ω 23 2 = 23 + 2 := w_C h hs
  simp only [Int.reduceAdd] at k1 k2 k3 k4
  have p := pX5_become_0 1 23 ω (w_is h hs) (w_is h hd)
  simp only [gp_same, gp_cell, gp_place, put_in, put_is, put_ina, ne_eq, Nat.reduceEqDiff, reduceCtorEq, not_false_eq_true, am_bi_s, am_bl_s, am_ba_s, am_bv_s, Int.toNat_zero, Int.reduceToNat, Int.toNat_natCast, if_true, if_false, not_true, not_false_eq_true, Int.reduceEq, Int.reduceLT, Int.reduceLE, cpy_o, put_len, cpy_len, put_arl, cpy_arl, put_cpok, cpy_cpok, k1, k2, k3, k4, l1, l2, o1, o2, q1, q2, pX5_become_52] at p
  have e0 : am_put (am_cpy (am_cpy (am_put ω 1 0 (am_get ω 23 0)) (23 + 1) 0 (1 + 1) 0 6) (23 + 2) 0 (1 + 2) 0 5) 1 3 (am_get ω 23 3) = becS ω 1 23 0 := by
    refine Prod.ext rfl (Prod.ext (funext fun a => funext fun k => ?_) rfl)
    show (if a = 1 ∧ k = 3 then ω.2.1 23 3 else if a = 1 + 2 ∧ (0 ≤ k ∧ k < 0 + 5) then (if 23 + 2 = 1 + 1 ∧ (0 ≤ 0 + (k - 0) ∧ 0 + (k - 0) < 0 + 6) then (if 23 + 1 = 1 ∧ (0 + (0 + (k - 0) - 0)) = 0 then ω.2.1 23 0 else ω.2.1 (23 + 1) (0 + (0 + (k - 0) - 0))) else if 23 + 2 = 1 ∧ (0 + (k - 0)) = 0 then ω.2.1 23 0 else ω.2.1 (23 + 2) (0 + (k - 0))) else if a = 1 + 1 ∧ (0 ≤ k ∧ k < 0 + 6) then (if 23 + 1 = 1 ∧ (0 + (k - 0)) = 0 then ω.2.1 23 0 else ω.2.1 (23 + 1) (0 + (k - 0))) else if a = 1 ∧ k = 0 then ω.2.1 23 0 else ω.2.1 a k) = if a = 1 ∧ (k = 0 ∨ k = 3) then ω.2.1 23 k else if a = 1 + 1 ∧ k < 6 then ω.2.1 (23 + 1) k else if a = 1 + 2 ∧ k < 5 then ω.2.1 (23 + 2) k else if (1 + 4 ≤ a ∧ a < 1 + 4 + 0) ∧ k < 5 then ω.2.1 (23 + (a - 1)) k else ω.2.1 a k
    by_cases g0 : a = 1
    · subst g0
      by_cases g3 : k = 3
      · subst g3; rfl
      · by_cases g4 : k = 0
        · subst g4; rfl
        · rw [if_neg (by omega), if_neg (by omega), if_neg (by omega), if_neg (by omega), if_neg (by omega), if_neg (by omega), if_neg (by omega), if_neg (by omega)]
    · by_cases g1 : a = 1 + 1
      · subst g1
        by_cases g3 : k < 6
        · rw [if_neg (by omega), if_neg (by omega), if_pos (by omega), if_neg (by omega), if_neg (by omega), if_pos (by omega), show 0 + (k - 0) = k by omega]
        · rw [if_neg (by omega), if_neg (by omega), if_neg (by omega), if_neg (by omega), if_neg (by omega), if_neg (by omega), if_neg (by omega), if_neg (by omega)]
      · by_cases g2 : a = 1 + 2
        · subst g2
          by_cases g3 : k < 5
          · rw [if_neg (by omega), if_pos (by omega), if_neg (by omega), if_neg (by omega), if_neg (by omega), if_neg (by omega), if_pos (by omega), show 0 + (k - 0) = k by omega]
          · rw [if_neg (by omega), if_neg (by omega), if_neg (by omega), if_neg (by omega), if_neg (by omega), if_neg (by omega), if_neg (by omega), if_neg (by omega)]
        · rw [if_neg (by omega), if_neg (by omega), if_neg (by omega), if_neg (by omega), if_neg (by omega), if_neg (by omega), if_neg (by omega), if_neg (by omega)]
  simp only [Nat.reduceAdd] at e0
  rw [e0] at p
  have b6 := h.dc (becS_dc h (d := 1) (s := 23) (i := 6) (by omega) (by omega))
  have l0 := lp 6 0 (by omega)
  refine p.trans (l0.trans ?_)
  rw [pX5_become_54 _ _ _ _ (by exact w_is b6 hs) (by exact w_is b6 hd), if_pos (by omega), pX5_become_97 _ _ _ _ (by have z := w_is b6 hs; exact z) (by have z := w_is b6 hd; exact z)]
  simp only [gp_same, gp_cell, gp_place, put_in, put_is, put_ina, ne_eq, Nat.reduceEqDiff, reduceCtorEq, not_false_eq_true, Int.reduceToNat]
  refine congrArg (fun x => some (none, x)) (Prod.ext rfl (Prod.ext (funext fun a => funext fun k => ?_) rfl))
  show (if a = 1 ∧ k = 7 then am_get (becS ω 1 23 6) 23 7 else if a = 1 ∧ k = 6 then am_get (becS ω 1 23 6) 23 6 else if a = 1 ∧ k = 5 then am_get (becS ω 1 23 6) 23 5 else am_get (becS ω 1 23 6) a k) = am_get (becF ω 1 23) a k
  have c1 : ∀ k, am_get (becS ω 1 23 6) 23 k = ω.2.1 23 k := becS_src (by omega) (by omega) (by omega) (by omega)
  rw [c1, c1, c1]
  by_cases g0 : a = 1
  · subst g0
    have : k = 0 ∨ k = 3 ∨ k = 5 ∨ k = 6 ∨ k = 7 ∨ ¬ (k = 0 ∨ k = 3 ∨ k = 5 ∨ k = 6 ∨ k = 7) := by omega
    rcases this with rfl | rfl | rfl | rfl | rfl | q
    · rfl
    · rfl
    · rfl
    · rfl
    · rfl
    · rw [if_neg (by omega), if_neg (by omega), if_neg (by omega)]
      exact ((if_neg (by omega)).trans ((if_neg (by omega)).trans ((if_neg (by omega)).trans (if_neg (by omega))))).trans ((if_neg (by omega)).trans ((if_neg (by omega)).trans ((if_neg (by omega)).trans (if_neg (by omega))))).symm
  · rw [if_neg (by omega), if_neg (by omega), if_neg (by omega)]
    exact (if_neg (by omega)).trans (if_neg (by omega)).symm
theorem c_become_23_1 (h : Bs ω) : am_run (53, 0) 0 ([some (.inr (.inr 23)), some (.inr (.inr 1)), none], [], ω) = some (none, becF ω 23 1) := by
  have hd : isW 23 := by unfold isW; omega
  have hs : isW 1 := by unfold isW; omega
  have l1 := bs_len (ω := ω) h (a := 23 + 1) (kd := 100) (n := 6) rfl
  have l2 := bs_len (ω := ω) h (a := 23 + 2) (kd := 100) (n := 5) rfl
  simp only [Nat.reduceAdd, Int.cast_ofNat_Int] at l1 l2
  have o1 : am_arl ω (23 + 1) = true := by unfold am_arl; rw [show am_ar ω (23 + 1) 100 = true from bs_ar (a := 23 + 1) h rfl]; rfl
  have o2 : am_arl ω (23 + 2) = true := by unfold am_arl; rw [show am_ar ω (23 + 2) 100 = true from bs_ar (a := 23 + 2) h rfl]; rfl
  have q1 : am_cpok ω (1 + 1) 0 (23 + 1) 0 6 = true := by
    unfold am_cpok
    rw [show am_ar ω (1 + 1) 100 = true from bs_ar (a := 1 + 1) h rfl, show am_ar ω (23 + 1) 100 = true from bs_ar (a := 23 + 1) h rfl, show am_len ω (23 + 1) = 6 from bs_len (a := 23 + 1) (n := 6) h rfl, show am_len ω (1 + 1) = 6 from bs_len (a := 1 + 1) (n := 6) h rfl]
    rfl
  have q2 : am_cpok ω (1 + 2) 0 (23 + 2) 0 5 = true := by
    unfold am_cpok
    rw [show am_ar ω (1 + 2) 100 = true from bs_ar (a := 1 + 2) h rfl, show am_ar ω (23 + 2) 100 = true from bs_ar (a := 23 + 2) h rfl, show am_len ω (23 + 2) = 5 from bs_len (a := 23 + 2) (n := 5) h rfl, show am_len ω (1 + 2) = 5 from bs_len (a := 1 + 2) (n := 5) h rfl]
    rfl
  simp only [Int.reduceAdd] at o1 o2 q1 q2
  have lp : ∀ d i : Nat, i + d = 6 → am_run (53, 0) 54 ([some (.inr (.inr 23)), some (.inr (.inr 1)), some (.inl ((i : Int)))], [], (becS ω 23 1 i)) = am_run (53, 0) 54 ([some (.inr (.inr 23)), some (.inr (.inr 1)), some (.inl (((6 : Nat) : Int)))], [], (becS ω 23 1 6)) := by
    intro d
    induction d with
    | zero => intro i hi; obtain rfl : i = 6 := by omega
              rfl
    | succ d ih =>
      intro i hi
      have b := h.dc (becS_dc h (d := 23) (s := 1) (i := i) (by omega) (by omega))
      have eD : am_get (becS ω 23 1 i) (23 + 3) i = 23 + 4 + (i : Int) := w_V b hd (by omega)
      have eS : am_get (becS ω 23 1 i) (1 + 3) i = 1 + 4 + (i : Int) := w_V b hs (by omega)
      have iD : am_ina (becS ω 23 1 i) (23 + 3) (i : Int) = true := ina_S b hd (by omega) (by omega)
      have iS : am_ina (becS ω 23 1 i) (1 + 3) (i : Int) = true := ina_S b hs (by omega) (by omega)
      have vD := is_V b hd (i := i) (by omega)
      have vS := is_V b hs (i := i) (by omega)
      have vb := c_vbecome vD vS (by omega)
      have k1 : am_get (becS ω 23 1 i) 23 4 = 23 + 3 := w_S b hd
      have k2 : am_get (becS ω 23 1 i) 1 4 = 1 + 3 := w_S b hs
      simp only [Int.reduceAdd, Nat.reduceAdd] at eD eS iD iS vD vS vb k1 k2
      rw [pX5_become_54 _ _ _ _ (by exact w_is b hs) (by exact w_is b hd), if_neg (by omega)]
      simp only [Int.reduceToNat, k1, k2, iD, iS, if_true, Int.toNat_natCast, eD, eS, vD]
      rw [bv_v vb, am_w_s (by omega) (by omega), show (i : Int) + 1 = ((i + 1 : Nat) : Int) by omega]
      have st := becS_s (ω := ω) (d := 23) (s := 1) (i := i) (by omega) (by omega) (by omega) (by omega)
      have t1 : (23 + 4 + (i : Int)).toNat = 23 + 4 + i := by omega
      have t2 : (1 + 4 + (i : Int)).toNat = 1 + 4 + i := by omega
      simp only [Int.reduceAdd, Nat.reduceAdd] at st t1 t2 ⊢
      rw [t1, t2, st]
      exact ih (i + 1) (by omega)
  have k1 : am_get ω 23 1 = 23 + 1 := w_T h hd
  have k2 : am_get ω 1 1 = 1 + 1 := w_T h hs
  have k3 : am_get ω 23 2 = 23 + 2 := w_C h hd
  have k4 : am_get ω 1 2 = 1 + 2 := w_C h hs
  simp only [Int.reduceAdd] at k1 k2 k3 k4
  have p := pX5_become_0 23 1 ω (w_is h hs) (w_is h hd)
  simp only [gp_same, gp_cell, gp_place, put_in, put_is, put_ina, ne_eq, Nat.reduceEqDiff, reduceCtorEq, not_false_eq_true, am_bi_s, am_bl_s, am_ba_s, am_bv_s, Int.toNat_zero, Int.reduceToNat, Int.toNat_natCast, if_true, if_false, not_true, not_false_eq_true, Int.reduceEq, Int.reduceLT, Int.reduceLE, cpy_o, put_len, cpy_len, put_arl, cpy_arl, put_cpok, cpy_cpok, k1, k2, k3, k4, l1, l2, o1, o2, q1, q2, pX5_become_52] at p
  have e0 : am_put (am_cpy (am_cpy (am_put ω 23 0 (am_get ω 1 0)) (1 + 1) 0 (23 + 1) 0 6) (1 + 2) 0 (23 + 2) 0 5) 23 3 (am_get ω 1 3) = becS ω 23 1 0 := by
    refine Prod.ext rfl (Prod.ext (funext fun a => funext fun k => ?_) rfl)
    show (if a = 23 ∧ k = 3 then ω.2.1 1 3 else if a = 23 + 2 ∧ (0 ≤ k ∧ k < 0 + 5) then (if 1 + 2 = 23 + 1 ∧ (0 ≤ 0 + (k - 0) ∧ 0 + (k - 0) < 0 + 6) then (if 1 + 1 = 23 ∧ (0 + (0 + (k - 0) - 0)) = 0 then ω.2.1 1 0 else ω.2.1 (1 + 1) (0 + (0 + (k - 0) - 0))) else if 1 + 2 = 23 ∧ (0 + (k - 0)) = 0 then ω.2.1 1 0 else ω.2.1 (1 + 2) (0 + (k - 0))) else if a = 23 + 1 ∧ (0 ≤ k ∧ k < 0 + 6) then (if 1 + 1 = 23 ∧ (0 + (k - 0)) = 0 then ω.2.1 1 0 else ω.2.1 (1 + 1) (0 + (k - 0))) else if a = 23 ∧ k = 0 then ω.2.1 1 0 else ω.2.1 a k) = if a = 23 ∧ (k = 0 ∨ k = 3) then ω.2.1 1 k else if a = 23 + 1 ∧ k < 6 then ω.2.1 (1 + 1) k else if a = 23 + 2 ∧ k < 5 then ω.2.1 (1 + 2) k else if (23 + 4 ≤ a ∧ a < 23 + 4 + 0) ∧ k < 5 then ω.2.1 (1 + (a - 23)) k else ω.2.1 a k
    by_cases g0 : a = 23
    · subst g0
      by_cases g3 : k = 3
      · subst g3; rfl
      · by_cases g4 : k = 0
        · subst g4; rfl
        · rw [if_neg (by omega), if_neg (by omega), if_neg (by omega), if_neg (by omega), if_neg (by omega), if_neg (by omega), if_neg (by omega), if_neg (by omega)]
    · by_cases g1 : a = 23 + 1
      · subst g1
        by_cases g3 : k < 6
        · rw [if_neg (by omega), if_neg (by omega), if_pos (by omega), if_neg (by omega), if_neg (by omega), if_pos (by omega), show 0 + (k - 0) = k by omega]
        · rw [if_neg (by omega), if_neg (by omega), if_neg (by omega), if_neg (by omega), if_neg (by omega), if_neg (by omega), if_neg (by omega), if_neg (by omega)]
      · by_cases g2 : a = 23 + 2
        · subst g2
          by_cases g3 : k < 5
          · rw [if_neg (by omega), if_pos (by omega), if_neg (by omega), if_neg (by omega), if_neg (by omega), if_neg (by omega), if_pos (by omega), show 0 + (k - 0) = k by omega]
          · rw [if_neg (by omega), if_neg (by omega), if_neg (by omega), if_neg (by omega), if_neg (by omega), if_neg (by omega), if_neg (by omega), if_neg (by omega)]
        · rw [if_neg (by omega), if_neg (by omega), if_neg (by omega), if_neg (by omega), if_neg (by omega), if_neg (by omega), if_neg (by omega), if_neg (by omega)]
  simp only [Nat.reduceAdd] at e0
  rw [e0] at p
  have b6 := h.dc (becS_dc h (d := 23) (s := 1) (i := 6) (by omega) (by omega))
  have l0 := lp 6 0 (by omega)
  refine p.trans (l0.trans ?_)
  rw [pX5_become_54 _ _ _ _ (by exact w_is b6 hs) (by exact w_is b6 hd), if_pos (by omega), pX5_become_97 _ _ _ _ (by have z := w_is b6 hs; exact z) (by have z := w_is b6 hd; exact z)]
  simp only [gp_same, gp_cell, gp_place, put_in, put_is, put_ina, ne_eq, Nat.reduceEqDiff, reduceCtorEq, not_false_eq_true, Int.reduceToNat]
  refine congrArg (fun x => some (none, x)) (Prod.ext rfl (Prod.ext (funext fun a => funext fun k => ?_) rfl))
  show (if a = 23 ∧ k = 7 then am_get (becS ω 23 1 6) 1 7 else if a = 23 ∧ k = 6 then am_get (becS ω 23 1 6) 1 6 else if a = 23 ∧ k = 5 then am_get (becS ω 23 1 6) 1 5 else am_get (becS ω 23 1 6) a k) = am_get (becF ω 23 1) a k
  have c1 : ∀ k, am_get (becS ω 23 1 6) 1 k = ω.2.1 1 k := becS_src (by omega) (by omega) (by omega) (by omega)
  rw [c1, c1, c1]
  by_cases g0 : a = 23
  · subst g0
    have : k = 0 ∨ k = 3 ∨ k = 5 ∨ k = 6 ∨ k = 7 ∨ ¬ (k = 0 ∨ k = 3 ∨ k = 5 ∨ k = 6 ∨ k = 7) := by omega
    rcases this with rfl | rfl | rfl | rfl | rfl | q
    · rfl
    · rfl
    · rfl
    · rfl
    · rfl
    · rw [if_neg (by omega), if_neg (by omega), if_neg (by omega)]
      exact ((if_neg (by omega)).trans ((if_neg (by omega)).trans ((if_neg (by omega)).trans (if_neg (by omega))))).trans ((if_neg (by omega)).trans ((if_neg (by omega)).trans ((if_neg (by omega)).trans (if_neg (by omega))))).symm
  · rw [if_neg (by omega), if_neg (by omega), if_neg (by omega)]
    exact (if_neg (by omega)).trans (if_neg (by omega)).symm
end K26
