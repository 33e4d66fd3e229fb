/-! ===== told flights ===== -/
section K39
variable {ω : am_W}
/-- places that only a call itself uses -/
def Sc (a k : Nat) : Prop := a = 35 ∨ a = 36 ∨ 67 ≤ a ∨ (a = 53 ∧ (k = 17 ∨ k = 18 ∨ k = 19 ∨ k = 20 ∨ k = 29)) ∨ (23 ≤ a ∧ a ≤ 32) ∨ (a = 21 ∧ 3 ≤ k)
theorem inv_scr {ω' : am_W} (h : Inv ω) (d : Dc ω ω') (e : ∀ a k, ¬ Sc a k → am_get ω' a k = am_get ω a k) : Inv ω' := inv_kp Sc h d e (Or.inl (fun a k s b => by unfold S_sky at s; unfold Sc at b; omega)) (Or.inl (fun a k s b => by unfold S_osky at s; unfold Sc at b; omega)) (Or.inl (fun a k s b => by unfold S_tape at s; unfold Sc at b; omega)) (Or.inl (fun a k s b => by unfold S_shelf at s; unfold Sc at b; omega)) (Or.inl (fun a k s b => by unfold S_ref at s; unfold Sc at b; omega)) (Or.inl (fun a k s b => by unfold S_img at s; unfold Sc at b; omega))
/-- such places have changed, and a refusal of that sort was counted -/
theorem inv_scr_ref {ω' : am_W} (h : Inv ω) (κ : Nat) (d : Dc ω ω') (e : ∀ a k, ¬ (Sc a k ∨ a = 34 ∨ a = 65) → am_get ω' a k = am_get ω a k) (e34 : ∀ j, j < 5 → am_get ω' 34 j = if j = κ then am_w (am_get ω 34 j + 1) else am_get ω 34 j) (e65 : ∀ j, j < 5 → am_get ω' 65 (j + 2) = if j = κ then am_w (am_get ω 65 (j + 2) + 1) else am_get ω 65 (j + 2)) : Inv ω' := by
  refine inv_kp (fun a k => Sc a k ∨ a = 34 ∨ a = 65) h d e (Or.inl (fun a k s b => by unfold S_sky at s; unfold Sc at b; omega)) (Or.inl (fun a k s b => by unfold S_osky at s; unfold Sc at b; omega)) (Or.inl (fun a k s b => by unfold S_tape at s; unfold Sc at b; omega)) (Or.inl (fun a k s b => by unfold S_shelf at s; unfold Sc at b; omega)) (Or.inr ?_) (Or.inl (fun a k s b => by unfold S_img at s; unfold Sc at b; omega))
  intro j hj
  have q : am_get ω 65 (j + 2) = am_get ω 34 j := h.2.2.2.2.2.1 j hj
  show am_get ω' 65 (j + 2) = am_get ω' 34 j
  rw [e34 j hj, e65 j hj, q]
noncomputable def actC (n : Int) (C T u : Nat → Int) (d : Int) : Nat → Int := if d = 0 then u else actF n C T u d
noncomputable def flS (n : Int) (C T : Nat → Int) (K i : Nat) (L : Nat → Int) (V : Nat → Nat → Int) : Nat → Nat → Nat → Int
  | 0 => V
  | m + 1 => drS T K (fun k => if k = i then actC n C T (flS n C T K i L V m i) (L m) else flS n C T K i L V m k)
section PURE
variable {n : Int} {C T L : Nat → Int} {K i : Nat} {V : Nat → Nat → Int}
theorem flS_i (hi : i < K) {m : Nat} : flS n C T K i L V (m + 1) i = flyF n C T (flS n C T K i L V m i) (L m) := by
  show drS T K _ i = _
  unfold drS flyF actC
  rw [if_pos hi]
  dsimp only
  rw [if_pos rfl]
theorem flS_o {j : Nat} (hj : j < K) (hne : j ≠ i) {m : Nat} : flS n C T K i L V (m + 1) j = drF T (flS n C T K i L V m j) := by
  show drS T K _ j = _
  unfold drS
  rw [if_pos hj]
  dsimp only
  rw [if_neg hne]
theorem ff_or {p : Nat → Prop} : ∀ d t, ff p t d = -1 ∨ (t : Int) ≤ ff p t d := by
  intro d
  induction d with
  | zero => intro t; exact Or.inl rfl
  | succ d ih =>
    intro t
    by_cases g : p t
    · rw [ff_y g]; exact Or.inr (Int.le_refl _)
    · rw [ff_n g]
      rcases ih (t + 1) with z | z
      · exact Or.inl z
      · exact Or.inr (by omega)
theorem ff_snoc {p : Nat → Prop} : ∀ d t, (ff p t d ≠ -1 → ff p t (d + 1) = ff p t d) ∧ (ff p t d = -1 → p (t + d) → ff p t (d + 1) = ((t + d : Nat) : Int)) ∧ (ff p t d = -1 → ¬ p (t + d) → ff p t (d + 1) = -1) := by
  intro d
  induction d with
  | zero =>
    intro t
    refine ⟨fun z => absurd rfl z, fun _ z => ff_y z, fun _ z => ff_n z⟩
  | succ d ih =>
    intro t
    by_cases g : p t
    · rw [ff_y g, ff_y g]
      exact ⟨fun _ => rfl, fun z => by omega, fun z => by omega⟩
    · rw [ff_n g, ff_n g]
      obtain ⟨a, b, c⟩ := ih (t + 1)
      refine ⟨a, fun z y => ?_, fun z y => ?_⟩
      · rw [b z (by rw [show t + 1 + d = t + (d + 1) by omega]; exact y), show t + 1 + d = t + (d + 1) by omega]
      · exact c z (by rw [show t + 1 + d = t + (d + 1) by omega]; exact y)
end PURE
theorem is35 (h : Bs ω) : am_is ω 35 (4, 5) = true := i_35 h
theorem c_fwc (h : Bs ω) (hn : 2 ≤ cn ω 1 ∧ cn ω 1 ≤ 6) (hC : Cok (cC ω 1)) (hT : Tok (cT ω 1)) {s N K i : Nat} (hs : s < 8) (hN : N ≤ 40) (hz : (N : Int) ≤ am_get ω (37 + 2 * s) 1) (hi : i < K) (V : Nat → Nat → Int) : ∀ d m, m + d = N → ∀ u, E5 (flS (cn ω 1) (cC ω 1) (cT ω 1) K i (am_get ω (38 + 2 * s)) V m i) u → O_ship (cn ω 1) (cT ω 1) (flS (cn ω 1) (cC ω 1) (cT ω 1) K i (am_get ω (38 + 2 * s)) V m i) → ∃ u', am_run (133, 0) 19 ([some (.inr (.inr 0)), some (.inr (.inr (((37 + 2 * s : Nat) : Int)))), some (.inl ((N : Int))), some (.inl ((i : Int))), some (.inl ((m : Int)))], [], (setV ω 35 u)) = some (some (.inl (ff (fun m => ¬ codeF (cn ω 1) (cC ω 1) (flS (cn ω 1) (cC ω 1) (cT ω 1) K i (am_get ω (38 + 2 * s)) V m i) (am_get ω (38 + 2 * s) m)) m d)), setV ω 35 u') ∧ (ff (fun m => ¬ codeF (cn ω 1) (cC ω 1) (flS (cn ω 1) (cC ω 1) (cT ω 1) K i (am_get ω (38 + 2 * s)) V m i) (am_get ω (38 + 2 * s) m)) m d = -1 → E5 (flS (cn ω 1) (cC ω 1) (cT ω 1) K i (am_get ω (38 + 2 * s)) V N i) u') := by
  intro d
  induction d with
  | zero =>
    intro m hm u E O
    obtain rfl : m = N := by omega
    have b : Bs (setV ω 35 u) := h.dc (setV_dc (i_35 h) (u := u))
    refine ⟨u, ?_, fun _ => E⟩
    rw [pX6_firstWrongCode_19 _ _ _ _ _ _ (by exact is_shelf b hs) (by exact i_0 b) (by simp only [Int.toNat_zero]; rw [f_0_0 b]; exact i_1 b), if_pos (by omega)]
    rfl
  | succ d ih =>
    intro m hm u E O
    have b : Bs (setV ω 35 u) := h.dc (setV_dc (i_35 h) (u := u))
    obtain ⟨k1, k2, k3, k4⟩ : cn (setV ω 35 u) 1 = cn ω 1 ∧ ck (setV ω 35 u) 1 = ck ω 1 ∧ cT (setV ω 35 u) 1 = cT ω 1 ∧ cC (setV ω 35 u) 1 = cC ω 1 := setV_W h W1 (i_35 h) (u := u)
    have e1 : am_get (setV ω 35 u) (37 + 2 * s) = am_get ω (37 + 2 * s) := setV_o (by omega)
    have e2 : am_get (setV ω 35 u) (38 + 2 * s) = am_get ω (38 + 2 * s) := setV_o (by omega)
    have Ou := O_c hn.2 E (fun _ _ => rfl : E6 (cT ω 1) (cT ω 1)) O
    have cc := code_c (n := cn ω 1) (C := cC ω 1) (d := am_get ω (38 + 2 * s) m) hn.2 E (fun _ _ => rfl)
    have f06 : am_get (setV ω 35 u) 0 6 = 35 := f_0_6 b
    have q := pX6_firstWrongCode_19 0 ((37 + 2 * s : Nat) : Int) N i m (setV ω 35 u) (is_shelf b hs) (i_0 b) (by simp only [Int.toNat_zero]; rw [f_0_0 b]; exact i_1 b)
    rw [if_neg (by omega)] at q
    simp only [am_bi_s, am_bl_s, am_ba_s, am_bv_s, Int.toNat_zero, Int.reduceToNat, Int.toNat_natCast, if_true, if_false, not_true, not_false_eq_true, Int.reduceEq, Int.reduceLT, Int.reduceLE, f_0_0 b, f06, e1, if_neg (show ¬ am_get ω (37 + 2 * s) 1 ≤ (m : Int) by omega), g_elem b hs, in_elem b hs (i := (m : Int)) (by omega) (by omega), e2] at q
    by_cases g : codeF (cn ω 1) (cC ω 1) (flS (cn ω 1) (cC ω 1) (cT ω 1) K i (am_get ω (38 + 2 * s)) V m i) (am_get ω (38 + 2 * s) m)
    · have fy := c_fly_y b W1 (v := 35) (d := am_get ω (38 + 2 * s) m) (by rw [show cn (setV ω 35 u) 1 = cn ω 1 from k1]; exact hn) (by rw [show cC (setV ω 35 u) 1 = cC ω 1 from k4]; exact hC) (by rw [show cT (setV ω 35 u) 1 = cT ω 1 from k3]; exact hT) (i_35 b) (by rw [show cn (setV ω 35 u) 1 = cn ω 1 from k1, show cT (setV ω 35 u) 1 = cT ω 1 from k3, show am_get (setV ω 35 u) (Int.toNat 35) = u from setV_get]; exact Ou) (by rw [show cn (setV ω 35 u) 1 = cn ω 1 from k1, show cC (setV ω 35 u) 1 = cC ω 1 from k4, show am_get (setV ω 35 u) (Int.toNat 35) = u from setV_get]; exact cc.mp g)
      rw [show cn (setV ω 35 u) 1 = cn ω 1 from k1, show cC (setV ω 35 u) 1 = cC ω 1 from k4, show cT (setV ω 35 u) 1 = cT ω 1 from k3, show am_get (setV ω 35 u) (Int.toNat 35) = u from setV_get, show setV (setV ω 35 u) (Int.toNat 35) (flyF (cn ω 1) (cC ω 1) (cT ω 1) u (am_get ω (38 + 2 * s) m)) = setV ω 35 (flyF (cn ω 1) (cC ω 1) (cT ω 1) u (am_get ω (38 + 2 * s) m)) from setV_setV] at fy
      obtain ⟨u', r, E'⟩ := ih (m + 1) (by omega) (flyF (cn ω 1) (cC ω 1) (cT ω 1) u (am_get ω (38 + 2 * s) m)) (by rw [flS_i hi]; exact fly_c hn.2 hT hC O g E (fun _ _ => rfl) (fun _ _ => rfl)) (by rw [flS_i hi]; exact fly_O hn.2 hT hC O g)
      refine ⟨u', ?_, ?_⟩
      · rw [q, bi_v fy, if_pos (by omega), am_w_s (by omega) (by omega), show (m : Int) + 1 = ((m + 1 : Nat) : Int) by omega, r, ff_n (p := fun m => ¬ codeF (cn ω 1) (cC ω 1) (flS (cn ω 1) (cC ω 1) (cT ω 1) K i (am_get ω (38 + 2 * s)) V m i) (am_get ω (38 + 2 * s) m)) (fun z => z g)]
      · rw [ff_n (p := fun m => ¬ codeF (cn ω 1) (cC ω 1) (flS (cn ω 1) (cC ω 1) (cT ω 1) K i (am_get ω (38 + 2 * s)) V m i) (am_get ω (38 + 2 * s) m)) (fun z => z g)]
        exact E'
    · have fn := c_fly_n b W1 (v := 35) (d := am_get ω (38 + 2 * s) m) (by rw [show cn (setV ω 35 u) 1 = cn ω 1 from k1]; exact hn) (by rw [show cC (setV ω 35 u) 1 = cC ω 1 from k4]; exact hC) (by rw [show cT (setV ω 35 u) 1 = cT ω 1 from k3]; exact hT) (i_35 b) (by rw [show cn (setV ω 35 u) 1 = cn ω 1 from k1, show cT (setV ω 35 u) 1 = cT ω 1 from k3, show am_get (setV ω 35 u) (Int.toNat 35) = u from setV_get]; exact Ou) (by rw [show cn (setV ω 35 u) 1 = cn ω 1 from k1, show cC (setV ω 35 u) 1 = cC ω 1 from k4, show am_get (setV ω 35 u) (Int.toNat 35) = u from setV_get]; exact fun z => g (cc.mpr z))
      refine ⟨u, ?_, ?_⟩
      · rw [q, bi_v fn, if_neg (by omega), ff_y (p := fun m => ¬ codeF (cn ω 1) (cC ω 1) (flS (cn ω 1) (cC ω 1) (cT ω 1) K i (am_get ω (38 + 2 * s)) V m i) (am_get ω (38 + 2 * s) m)) g]
      · rw [ff_y (p := fun m => ¬ codeF (cn ω 1) (cC ω 1) (flS (cn ω 1) (cC ω 1) (cT ω 1) K i (am_get ω (38 + 2 * s)) V m i) (am_get ω (38 + 2 * s) m)) g]
        intro z
        omega
end K39
