/-! ===== a chase is made; tag ===== -/
section K47
variable {ω : am_W}
theorem nw_o {q : Nat × Nat} {d : Nat → Int} {a : Nat} (h : a ≠ ω.1.length) : am_get (am_new ω q d) a = am_get ω a := funext fun _ => if_neg h
theorem nw_s {q : Nat × Nat} {d : Nat → Int} : am_get (am_new ω q d) ω.1.length = d := funext fun _ => if_pos rfl
theorem at_is {a : Nat} {q : Nat × Nat} (h : ω.1[a]? = some q) : am_is ω (a : Int) q = true := by
  unfold am_is
  rw [Int.toNat_natCast, h]
  simp
theorem at_in {a kd n : Nat} {i : Int} (h : ω.1[a]? = some (kd, n)) (h0 : 0 ≤ i) (h1 : i < (n : Int)) : am_in ω (a : Int) kd i = true := by
  unfold am_in am_ar am_len
  rw [Int.toNat_natCast, h]
  simp
  omega
theorem nw_is {q : Nat × Nat} {d : Nat → Int} : am_is (am_new ω q d) (ω.1.length : Int) q = true := at_is (ω := am_new ω q d) (by show (ω.1 ++ [q])[ω.1.length]? = some q; simp)
theorem nw_at {q p : Nat × Nat} {d : Nat → Int} {a : Nat} (h : ω.1[a]? = some p) : (am_new ω q d).1[a]? = some p := by
  show (ω.1 ++ [q])[a]? = some p
  rw [List.getElem?_append_left (List.getElem?_eq_some_iff.mp h).1]
  exact h
theorem nw_len {q : Nat × Nat} {d : Nat → Int} : (am_new ω q d).1.length = ω.1.length + 1 := by
  show (ω.1 ++ [q]).length = _
  simp
def ChI (ω0 : am_W) (L j : Nat) (ω : am_W) : Prop := ω.1 = ω0.1 ++ ((0, 3) :: (102, 6) :: (102, 6) :: List.replicate (2 * j) (4, 5)) ∧ ω.2.2 = ω0.2.2 ∧ (∀ a, a < L → am_get ω a = am_get ω0 a) ∧ am_get ω L 0 = 1 ∧ am_get ω L 1 = ((L + 1 : Nat) : Int) ∧ am_get ω L 2 = ((L + 2 : Nat) : Int) ∧ ∀ i, i < j → am_get ω (L + 1) i = ((L + 3 + 2 * i : Nat) : Int) ∧ am_get ω (L + 2) i = ((L + 4 + 2 * i : Nat) : Int)
theorem chi_step {ω0 : am_W} {L j : Nat} (hL : ω0.1.length = L) (hj : j < 6) (I : ChI ω0 L j ω) : ∃ ω', am_run (0, 0) 29 ([some (.inr (.inr ((L : Int)))), some (.inr (.inr 1)), some (.inl ((j : Int)))], [], ω) = am_run (0, 0) 29 ([some (.inr (.inr ((L : Int)))), some (.inr (.inr 1)), some (.inl (((j + 1 : Nat) : Int)))], [], ω') ∧ ChI ω0 L (j + 1) ω' := by
  obtain ⟨s, sc, lo, g0, g1, g2, ar⟩ := I
  have len : ω.1.length = L + 3 + 2 * j := by rw [s]; simp; omega
  have at0 : ω.1[L]? = some (0, 3) := by rw [s, List.getElem?_append_right (by omega), hL]; simp
  have at1 : ω.1[L + 1]? = some (102, 6) := by rw [s, List.getElem?_append_right (by omega), hL]; simp
  have at2 : ω.1[L + 2]? = some (102, 6) := by rw [s, List.getElem?_append_right (by omega), hL]; simp
  have q := pX0_init_29 (L : Int) 1 j ω (at_is at0)
  rw [if_neg (by omega), if_pos nw_is, pX4_init_0 _ _ (by omega), bv_v rfl, Int.toNat_natCast, g1] at q
  have st1 : am_sta2 (am_new ω (4, 5) (am_d0 4)) ((L + 1 : Nat) : Int) (j : Int) (ω.1.length : Int) = true := by
    unfold am_sta2
    rw [at_in (ω := am_new ω (4, 5) (am_d0 4)) (nw_at at1) (by omega) (by omega), nw_is]
    rfl
  rw [if_pos st1, Int.toNat_natCast, Int.toNat_natCast] at q
  obtain ⟨ω1, hω1⟩ : ∃ ω1, ω1 = am_put (am_new ω (4, 5) (am_d0 4)) (L + 1) j (ω.1.length : Int) := ⟨_, rfl⟩
  rw [← hω1] at q
  have s1 : ω1.1 = ω.1 ++ [(4, 5)] := by rw [hω1]; rfl
  have b0 : ω1.1[L]? = some (0, 3) := by rw [hω1]; exact nw_at (d := am_d0 4) at0
  have b2 : ω1.1[L + 2]? = some (102, 6) := by rw [hω1]; exact nw_at (d := am_d0 4) at2
  have o1 : ∀ a k, a ≠ ω.1.length → ¬ (a = L + 1 ∧ k = j) → am_get ω1 a k = am_get ω a k := fun a k h1 h2 => by rw [hω1]; exact (if_neg h2).trans (congrFun (nw_o h1) k)
  have p1 : am_get ω1 (L + 1) j = (ω.1.length : Int) := by rw [hω1]; exact gp_same
  have len1 : ω1.1.length = ω.1.length + 1 := by rw [s1]; simp
  have q2 := pX0_init_47 (L : Int) 1 j ω1 (at_is b0)
  rw [if_pos nw_is, pX4_init_0 _ _ (by omega), bv_v rfl, Int.toNat_natCast, o1 L 2 (by omega) (by omega), g2] at q2
  have st2 : am_sta2 (am_new ω1 (4, 5) (am_d0 4)) ((L + 2 : Nat) : Int) (j : Int) (ω1.1.length : Int) = true := by
    unfold am_sta2
    rw [at_in (ω := am_new ω1 (4, 5) (am_d0 4)) (nw_at b2) (by omega) (by omega), nw_is]
    rfl
  rw [if_pos st2, Int.toNat_natCast, Int.toNat_natCast, pX0_init_60, am_w_s (by omega) (by omega), show (j : Int) + 1 = ((j + 1 : Nat) : Int) by omega] at q2
  obtain ⟨ω2, hω2⟩ : ∃ ω2, ω2 = am_put (am_new ω1 (4, 5) (am_d0 4)) (L + 2) j (ω1.1.length : Int) := ⟨_, rfl⟩
  rw [← hω2] at q2
  have o2 : ∀ a k, a ≠ ω1.1.length → ¬ (a = L + 2 ∧ k = j) → am_get ω2 a k = am_get ω1 a k := fun a k h1 h2 => by rw [hω2]; exact (if_neg h2).trans (congrFun (nw_o h1) k)
  have p2 : am_get ω2 (L + 2) j = (ω1.1.length : Int) := by rw [hω2]; exact gp_same
  have oo : ∀ a k, a < L + 3 → ¬ (a = L + 1 ∧ k = j) → ¬ (a = L + 2 ∧ k = j) → am_get ω2 a k = am_get ω a k := fun a k h1 h2 h3 => (o2 a k (by omega) h3).trans (o1 a k (by omega) h2)
  refine ⟨ω2, q.trans q2, ?_, ?_, fun a ha => funext fun k => (oo a k (by omega) (by omega) (by omega)).trans (congrFun (lo a ha) k), (oo L 0 (by omega) (by omega) (by omega)).trans g0, (oo L 1 (by omega) (by omega) (by omega)).trans g1, (oo L 2 (by omega) (by omega) (by omega)).trans g2, fun i hi => ?_⟩
  · have : ω2.1 = ω1.1 ++ [(4, 5)] := by rw [hω2]; rfl
    rw [this, s1, s, show 2 * (j + 1) = (2 * j + 1) + 1 by omega, List.replicate_succ', List.replicate_succ']
    simp
  · rw [hω2, hω1]; exact sc
  · by_cases e : i = j
    · subst e
      exact ⟨(o2 _ _ (by omega) (by omega)).trans (p1.trans (by rw [len])), p2.trans (by rw [len1, len]; omega)⟩
    · exact ⟨(oo _ _ (by omega) (by omega) (by omega)).trans (ar i (by omega)).1, (oo _ _ (by omega) (by omega) (by omega)).trans (ar i (by omega)).2⟩
theorem c_mkChase {L : Nat} (hL : ω.1.length = L) : ∃ ω', am_run (0, 0) 0 ([some (.inr (.inr ((L : Int)))), some (.inr (.inr 1)), none], [], (am_new ω (0, 3) (am_d0 0))) = some (none, ω') ∧ ChI ω L 6 ω' := by
  have l0 : ((am_new ω (0, 3) (am_d0 0)).1.length : Int) = ((L + 1 : Nat) : Int) := by rw [nw_len, hL]
  have a0 : (am_new ω (0, 3) (am_d0 0)).1[L]? = some (0, 3) := by show (ω.1 ++ [(0, 3)])[L]? = _; rw [← hL]; simp
  have q := pX0_init_0 (L : Int) 1 (am_new ω (0, 3) (am_d0 0)) (by omega)
  rw [l0, if_pos (at_is (ω := am_new (am_new ω (0, 3) (am_d0 0)) (102, 6) (fun _ => -1)) (nw_at a0)), Int.toNat_natCast] at q
  obtain ⟨ω1, hω1⟩ : ∃ ω1, ω1 = am_put (am_new (am_new ω (0, 3) (am_d0 0)) (102, 6) (fun _ => -1)) L 1 ((L + 1 : Nat) : Int) := ⟨_, rfl⟩
  rw [← hω1] at q
  have s1 : ω1.1 = (ω.1 ++ [(0, 3)]) ++ [(102, 6)] := by rw [hω1]; rfl
  have a1 : ω1.1[L]? = some (0, 3) := by rw [hω1]; exact nw_at (d := fun _ => -1) a0
  have l1 : (ω1.1.length : Int) = ((L + 2 : Nat) : Int) := by rw [s1]; simp; omega
  rw [pX0_init_13, l1, if_pos (at_is (ω := am_new ω1 (102, 6) (fun _ => -1)) (nw_at a1)), Int.toNat_natCast] at q
  obtain ⟨ω2, hω2⟩ : ∃ ω2, ω2 = am_put (am_new ω1 (102, 6) (fun _ => -1)) L 2 ((L + 2 : Nat) : Int) := ⟨_, rfl⟩
  rw [← hω2] at q
  have s2 : ω2.1 = ω1.1 ++ [(102, 6)] := by rw [hω2]; rfl
  have a2 : ω2.1[L]? = some (0, 3) := by rw [hω2]; exact nw_at (d := fun _ => -1) a1
  rw [pX0_init_22 _ _ _ _ (by omega) (at_is a2), Int.toNat_natCast] at q
  have lo1 : ∀ a k, a ≤ L → ¬ (a = L ∧ k = 1) → am_get ω1 a k = am_get (am_new ω (0, 3) (am_d0 0)) a k := fun a k h1 h2 => by rw [hω1]; exact (if_neg h2).trans (congrFun (nw_o (by rw [nw_len]; omega)) k)
  have lo2 : ∀ a k, a ≤ L → ¬ (a = L ∧ k = 2) → am_get ω2 a k = am_get ω1 a k := fun a k h1 h2 => by rw [hω2]; exact (if_neg h2).trans (congrFun (nw_o (by omega)) k)
  have I0 : ChI ω L 0 (am_put ω2 L 0 1) := by
    refine ⟨?_, ?_, fun a ha => funext fun k => ?_, gp_same, ?_, ?_, fun i hi => by omega⟩
    · show ω2.1 = _
      rw [s2, s1]; simp
    · show ω2.2.2 = _
      rw [hω2, hω1]; rfl
    · refine (gp_cell (by omega)).trans ((lo2 a k (by omega) (by omega)).trans ((lo1 a k (by omega) (by omega)).trans ?_))
      exact congrFun (nw_o (by omega)) k
    · refine (gp_place (by omega)).trans ((lo2 L 1 (by omega) (by omega)).trans ?_)
      rw [hω1]; exact gp_same
    · refine (gp_place (by omega)).trans ?_
      rw [hω2]; exact gp_same
  have lp : ∀ d j : Nat, j + d = 6 → ∀ ω3, ChI ω L j ω3 → ∃ ω', am_run (0, 0) 29 ([some (.inr (.inr ((L : Int)))), some (.inr (.inr 1)), some (.inl ((j : Int)))], [], ω3) = some (none, ω') ∧ ChI ω L 6 ω' := by
    intro d
    induction d with
    | zero =>
      intro j hj ω3 I
      obtain rfl : j = 6 := by omega
      have at0 : ω3.1[L]? = some (0, 3) := by rw [I.1, List.getElem?_append_right (by omega), hL]; simp
      exact ⟨ω3, by rw [pX0_init_29 _ _ _ _ (at_is at0), if_pos (by omega)], I⟩
    | succ d ih =>
      intro j hj ω3 I
      obtain ⟨ω4, r, I4⟩ := chi_step hL (by omega) I
      obtain ⟨ω5, r5, I5⟩ := ih (j + 1) (by omega) ω4 I4
      exact ⟨ω5, r.trans r5, I5⟩
  obtain ⟨ω', r, I'⟩ := lp 6 0 (by omega) _ I0
  exact ⟨ω', q.trans r, I'⟩
/-- more cells have come, the old ones are as they were -/
theorem inv_ext {ω' : am_W} (h : Inv ω) (hp : sh_0 <+: ω'.1) (hm : ∀ a k, a < 72 → ¬ (a = 0 ∧ (k = 8 ∨ k = 9)) → am_get ω' a k = am_get ω a k) (hx : I_ext ω') : Inv ω' := by
  obtain ⟨h0, h1, h2, h3, h4, h5, h6, h7⟩ := h
  have e : ∀ a k, a < 72 → ¬ (a = 0 ∧ (k = 8 ∨ k = 9)) → ω'.2.1 a k = ω.2.1 a k := hm
  have rf : ∀ q ∈ rf_0, q.1 < 72 ∧ ¬ (q.1 = 0 ∧ (q.2.1 = 8 ∨ q.2.1 = 9)) := by decide +kernel
  refine ⟨⟨hp, fun q hq => ?_⟩, sky_kp (fun a k s => e a k (by unfold S_sky at s; omega) (by unfold S_sky at s; omega)) h1, osky_kp (fun a k s => e a k (by unfold S_osky at s; omega) (by unfold S_osky at s; omega)) h2, tape_kp (fun a k s => e a k (by unfold S_tape at s; omega) (by unfold S_tape at s; omega)) h3, shelf_kp (fun a k s => e a k (by unfold S_shelf at s; omega) (by unfold S_shelf at s; omega)) h4, ref_kp (fun a k s => e a k (by unfold S_ref at s; omega) (by unfold S_ref at s; omega)) h5, img_kp (fun a k s => e a k (by unfold S_img at s; omega) (by unfold S_img at s; omega)) h6, hx⟩
  rw [e _ _ (rf q hq).1 (rf q hq).2]
  exact h0.2 q hq
theorem sh0_len : sh_0.length = 72 := by decide
theorem shC_eq : ((0, 3) :: (102, 6) :: (102, 6) :: List.replicate (2 * 6) (4, 5) : List (Nat × Nat)) = sh_C := by decide
/-- the chase is there, made now or before -/
theorem chase_is (h : Inv ω) : (am_get ω 0 9 = -1 ∧ ∃ ω1, am_run (0, 0) 0 ([some (.inr (.inr ((ω.1.length : Int)))), some (.inr (.inr 1)), none], [], (am_new ω (0, 3) (am_d0 0))) = some (none, ω1) ∧ Bs ω1 ∧ Inv (am_put ω1 0 9 (ω.1.length : Int)) ∧ Chs (am_put ω1 0 9 (ω.1.length : Int)) ω.1.length ∧ ω1.2.2 = ω.2.2 ∧ ∀ a k, a < 72 → am_get ω1 a k = am_get ω a k) ∨ ∃ c : Nat, am_get ω 0 9 = (c : Int) ∧ Chs ω c := by
  have h0 := h.1
  have key : ∀ X : List (Nat × Nat), ω.1 = sh_0 ++ X → am_get ω 0 9 = -1 → (∀ ω1, ChI ω ω.1.length 6 ω1 → I_ext (am_put ω1 0 9 (ω.1.length : Int))) → ∃ ω1, am_run (0, 0) 0 ([some (.inr (.inr ((ω.1.length : Int)))), some (.inr (.inr 1)), none], [], (am_new ω (0, 3) (am_d0 0))) = some (none, ω1) ∧ Bs ω1 ∧ Inv (am_put ω1 0 9 (ω.1.length : Int)) ∧ Chs (am_put ω1 0 9 (ω.1.length : Int)) ω.1.length ∧ ω1.2.2 = ω.2.2 ∧ ∀ a k, a < 72 → am_get ω1 a k = am_get ω a k := by
    intro X hX g9 ext
    have L72 : 72 ≤ ω.1.length := by rw [hX, List.length_append, sh0_len]; omega
    obtain ⟨ω1, r, I⟩ := c_mkChase (ω := ω) rfl
    obtain ⟨s, sc, lo, i0, i1, i2, ar⟩ := id I
    have pre : sh_0 <+: ω1.1 := by rw [s, hX, List.append_assoc]; exact List.prefix_append _ _
    have B1 : Bs ω1 := by
      refine ⟨pre, fun q hq => ?_⟩
      have rf : ∀ q ∈ rf_0, q.1 < 72 := by decide +kernel
      exact (congrFun (lo q.1 (by have := rf q hq; omega)) q.2.1).trans (h0.2 q hq)
    refine ⟨ω1, r, B1, inv_ext h pre (fun a k ha g => ?_) (ext ω1 I), ⟨L72, ?_, ?_⟩, sc, fun a k ha => congrFun (lo a (by omega)) k⟩
    · exact (if_neg (by omega)).trans (congrFun (lo a (by omega)) k)
    · intro j hj
      show ω1.1[ω.1.length + j]? = _
      rw [s, shC_eq, List.getElem?_append_right (by omega), Nat.add_sub_cancel_left]
    · have o : ∀ a k, ω.1.length ≤ a → (am_put ω1 0 9 (ω.1.length : Int)).2.1 a k = am_get ω1 a k := fun a k ha => if_neg (by omega)
      refine ⟨(o _ _ (by omega)).trans i0, (o _ _ (by omega)).trans i1, (o _ _ (by omega)).trans i2, fun j hj => ⟨(o _ _ (by omega)).trans (ar j hj).1, (o _ _ (by omega)).trans (ar j hj).2⟩⟩
  rcases h.2.2.2.2.2.2.2 with ⟨x1, x2, x3⟩ | ⟨x1, x2, x3, x4⟩ | ⟨x1, x2, x3, x4⟩ | ⟨x1, x2, x3, x4, x5⟩ | ⟨x1, x2, x3, x4, x5⟩
  · refine Or.inl ⟨x3, key [] (by rw [x1]; simp) x3 (fun ω1 I => ?_)⟩
    have L : ω.1.length = 72 := by rw [x1, sh0_len]
    obtain ⟨s, sc, lo, i0, i1, i2, ar⟩ := id I
    rw [L] at *
    have o : ∀ a k, 72 ≤ a → (am_put ω1 0 9 ((72 : Nat) : Int)).2.1 a k = am_get ω1 a k := fun a k ha => if_neg (by omega)
    refine Or.inr (Or.inr (Or.inl ⟨?_, ?_, gp_same, (o _ _ (by omega)).trans i0, (o _ _ (by omega)).trans i1, (o _ _ (by omega)).trans i2, fun j hj => ⟨(o _ _ (by omega)).trans (ar j hj).1, (o _ _ (by omega)).trans (ar j hj).2⟩⟩))
    · show ω1.1 = _
      rw [s, x1, shC_eq]
    · exact (gp_place (by omega)).trans ((congrFun (lo 0 (by omega)) 8).trans x2)
  · refine Or.inl ⟨x3, key sh_P x1 x3 (fun ω1 I => ?_)⟩
    have L : ω.1.length = 97 := by rw [x1, List.length_append, sh0_len]; rfl
    obtain ⟨s, sc, lo, i0, i1, i2, ar⟩ := id I
    rw [L] at *
    have o : ∀ a k, 97 ≤ a → (am_put ω1 0 9 ((97 : Nat) : Int)).2.1 a k = am_get ω1 a k := fun a k ha => if_neg (by omega)
    have o' : ∀ a k, 1 ≤ a → a < 97 → (am_put ω1 0 9 ((97 : Nat) : Int)).2.1 a k = ω.2.1 a k := fun a k h1 ha => (if_neg (by omega)).trans (congrFun (lo a ha) k)
    refine Or.inr (Or.inr (Or.inr (Or.inl ⟨?_, ?_, gp_same, ?_, (o _ _ (by omega)).trans i0, (o _ _ (by omega)).trans i1, (o _ _ (by omega)).trans i2, fun j hj => ⟨(o _ _ (by omega)).trans (ar j hj).1, (o _ _ (by omega)).trans (ar j hj).2⟩⟩)))
    · show ω1.1 = _
      rw [s, x1, shC_eq, List.append_assoc]
    · exact (gp_place (by omega)).trans ((congrFun (lo 0 (by omega)) 8).trans x2)
    · unfold B_pl at x4 ⊢
      simp only [o' 72 _ (by omega) (by omega), o' (72 + 2) _ (by omega) (by omega), o' (72 + 6) _ (by omega) (by omega), o' (72 + 10) _ (by omega) (by omega), o' (72 + 14) _ (by omega) (by omega)]
      exact x4
  · exact Or.inr ⟨72, x3, by omega, by rw [x1]; decide, x4⟩
  · exact Or.inr ⟨97, x3, by omega, by rw [x1]; decide, x5⟩
  · exact Or.inr ⟨72, x3, by omega, by rw [x1]; decide, x5⟩
theorem c_isWon (h : Inv ω) {c i j t K : Nat} (hc : Chs ω c) (hK : ck ω 1 = (K : Int)) (hi : i < K) (hj : j < K) (ht : t ≤ 5) : ∃ ω', am_run (1, 0) 0 ([some (.inr (.inr ((c : Int)))), some (.inl ((i : Int))), some (.inl ((j : Int))), some (.inl ((t : Int)))], [], ω) = some (some (.inl (b01 (tgF (cn ω 1) (cC ω 1) (cT ω 1) t (am_get ω (5 + i)) (am_get ω (5 + j))))), ω') ∧ Dc ω ω' ∧ ∀ a, a < 72 → am_get ω' a = am_get ω a := by
  have h0 := h.1
  obtain ⟨e1, e2, e3, e4⟩ := inv_k h
  have i6 : i < 6 := by omega
  have j6 : j < 6 := by omega
  have c72 := hc.1
  have O := inv_O h (i := i) (by omega)
  have P := inv_O h (i := j) (by omega)
  have v1 := c_vbecome (v := ((c + 3 : Nat) : Int)) (u := 1 + 4 + (i : Int)) (chs_v hc (j := 3) (by omega)) (is_V h0 W1 i6) (by omega)
  rw [Int.toNat_natCast, V_at] at v1
  have D1 := setV_dc (chs_v hc (j := 3) (by omega)) (u := cp5 (am_get ω (5 + i)) (am_get ω (c + 3)))
  rw [Int.toNat_natCast] at D1
  have B1 := h0.dc D1
  have C1 := hc.dc D1
  obtain ⟨ω1, hω1⟩ : ∃ ω1, ω1 = setV ω (c + 3) (cp5 (am_get ω (5 + i)) (am_get ω (c + 3))) := ⟨_, rfl⟩
  rw [← hω1] at v1 D1 B1 C1
  have o1 : ∀ a, a ≠ c + 3 → am_get ω1 a = am_get ω a := fun a ha => by rw [hω1]; exact setV_o ha
  have g1 : E5 (am_get ω (5 + i)) (am_get ω1 (c + 3)) := by rw [hω1, setV_get]; exact fun f hf => (cp5_E _ _ f hf).symm
  have v2 := c_vbecome (v := ((c + 4 : Nat) : Int)) (u := 1 + 4 + (j : Int)) (chs_v C1 (j := 4) (by omega)) (is_V B1 W1 j6) (by omega)
  rw [Int.toNat_natCast, V_at] at v2
  have D2 := setV_dc (chs_v C1 (j := 4) (by omega)) (u := cp5 (am_get ω1 (5 + j)) (am_get ω1 (c + 4)))
  rw [Int.toNat_natCast] at D2
  have B2 := B1.dc D2
  have C2 := C1.dc D2
  obtain ⟨ω2, hω2⟩ : ∃ ω2, ω2 = setV ω1 (c + 4) (cp5 (am_get ω1 (5 + j)) (am_get ω1 (c + 4))) := ⟨_, rfl⟩
  rw [← hω2] at v2 D2 B2 C2
  have o2 : ∀ a, a ≠ c + 4 → am_get ω2 a = am_get ω1 a := fun a ha => by rw [hω2]; exact setV_o ha
  have g2 : E5 (am_get ω (5 + j)) (am_get ω2 (c + 4)) := by rw [hω2, setV_get, o1 _ (by omega)]; exact fun f hf => (cp5_E _ _ f hf).symm
  have g3 : E5 (am_get ω (5 + i)) (am_get ω2 (c + 3)) := by rw [o2 _ (by omega)]; exact g1
  have lo : ∀ a, a < 72 → am_get ω2 a = am_get ω a := fun a ha => (o2 a (by omega)).trans (o1 a (by omega))
  have k1 : cn ω2 1 = cn ω 1 := congrFun (lo 1 (by omega)) 0
  have k2 : cT ω2 1 = cT ω 1 := lo 2 (by omega)
  have k3 : cC ω2 1 = cC ω 1 := lo 3 (by omega)
  obtain ⟨ω3, r3, F3⟩ := c_catches t 0 12 ω2 (by omega) (by omega) B2 C2 (by rw [k1]; exact e4) (by rw [k2]; exact inv_Tok h) (by rw [k3]; exact inv_Cok h) (by rw [k1, k2]; exact O_c e4.2 g3 (fun _ _ => rfl) O) (by rw [k1, k2]; exact O_c e4.2 g2 (fun _ _ => rfl) P)
  rw [k1, k2, k3, ← b01_c (tg_c e4.2 (inv_Tok h) (inv_Cok h) (fun _ _ => rfl) (fun _ _ => rfl) t _ _ _ _ O P g3 g2), Nat.zero_add] at r3
  rw [show (some (.inl ((0 : Nat) : Int)) : Option am_V) = some (.inl 0) from rfl] at r3
  have eV : am_get ω 4 i = 1 + 4 + (i : Int) := w_V h0 W1 i6
  have iS : am_ina ω 4 (i : Int) = true := ina_S h0 W1 (by omega) (by omega)
  have eU : am_get ω1 4 j = 1 + 4 + (j : Int) := w_V B1 W1 j6
  have jS : am_ina ω1 4 (j : Int) = true := ina_S B1 W1 (by omega) (by omega)
  have q := pX0_isWon_0 (c : Int) i j t ω (chs_is hc) (by rw [Int.toNat_natCast, chs_0 hc]; exact i_1 h0)
  simp only [am_bi_s, am_bl_s, am_ba_s, am_bv_s, Int.toNat_zero, Int.reduceToNat, Int.toNat_natCast, if_true, if_false, not_true, not_false_eq_true, Int.reduceEq, Int.reduceLT, Int.reduceLE, chs_1 hc, chs_0 hc, chs_ina hc (Or.inl rfl) (i := 0) (by omega) (by omega), f_1_4 h0, iS, eV, chs_A hc (j := 0) (by omega), Nat.mul_zero, Nat.add_zero, chs_v hc (j := 3) (by omega), v1, chs_is C1, chs_2 C1, chs_0 C1, i_1 B1, f_1_4 B1, chs_ina C1 (Or.inr rfl) (i := 0) (by omega) (by omega), jS, eU, chs_R C1 (j := 0) (by omega), chs_v C1 (j := 4) (by omega), v2, chs_is C2, r3, b01_nar] at q
  exact ⟨ω3, q, D1.tr (D2.tr F3.1), fun a ha => (F3.2 a (by omega)).trans (lo a ha)⟩
theorem k_tag (h : Inv ω) (s o t : Int) : Pair 118 220 [some (.inr (.inr 0)), some (.inl s), some (.inl o), some (.inl t)] [some (.inr (.inr 53)), some (.inl s), some (.inl o), some (.inl t)] ω := by
  have h0 := h.1
  obtain ⟨e1, e2, e3, e4⟩ := inv_k h
  have b := fun k => rfz_bs (k := k) h0
  have p1 := pX6_tag_0 0 s o t ω (i_0 h0) (by simp only [Int.toNat_zero, f_0_0 h0]; exact i_1 h0)
  simp only [am_bi_s, am_bl_s, am_ba_s, am_bv_s, Int.toNat_zero, Int.reduceToNat, Int.toNat_natCast, if_true, if_false, not_true, not_false_eq_true, Int.reduceEq, Int.reduceLT, Int.reduceLE, i_0 h0, i_1 h0, f_0_0 h0, f_0_3 h0, f_0_4 h0, f_1_1 h0, f_1_2 h0, f_1_4 h0, c_hasPair h0 W1, c_r2 h0] at p1
  by_cases hp : (0 ≤ s ∧ s < ck ω 1) ∧ (0 ≤ o ∧ o < ck ω 1) ∧ s ≠ o
  · by_cases ht : 0 ≤ t ∧ t ≤ 5
    · obtain ⟨i, rfl⟩ : ∃ i : Nat, s = i := ⟨s.toNat, by omega⟩
      obtain ⟨j, rfl⟩ : ∃ j : Nat, o = j := ⟨o.toNat, by omega⟩
      obtain ⟨N, rfl⟩ : ∃ N : Nat, t = N := ⟨t.toNat, by omega⟩
      obtain ⟨K, hK⟩ : ∃ K : Nat, ck ω 1 = K := ⟨(ck ω 1).toNat, by omega⟩
      rw [b01_pos hp, if_neg (by omega), if_neg (by omega), if_pos ht.2] at p1
      -- the run over a world in which the chase stands
      have fin : ∀ ω1 (h1 : Inv ω1) (c : Nat) (hc : Chs ω1 c), ω1.2.2 = ω.2.2 → (∀ a k, a < 72 → ¬ (a = 0 ∧ k = 9) → am_get ω1 a k = am_get ω a k) → ∀ f : Int → am_W → Option am_R, (∀ z ω2, f z ω2 = if z = 0 then some (some (.inl 0), ω2) else some (some (.inl 1), ω2)) → am_run (118, 0) 0 ([some (.inr (.inr 0)), some (.inl ((i : Int))), some (.inl ((j : Int))), some (.inl ((N : Int)))], [], ω) = am_bi (am_run (1, 0) 0 ([some (.inr (.inr ((c : Int)))), some (.inl ((i : Int))), some (.inl ((j : Int))), some (.inl ((N : Int)))], [], ω1)) f → Pair 118 220 [some (.inr (.inr 0)), some (.inl ((i : Int))), some (.inl ((j : Int))), some (.inl ((N : Int)))] [some (.inr (.inr 53)), some (.inl ((i : Int))), some (.inl ((j : Int))), some (.inl ((N : Int)))] ω := fun ω1 h1 c hc sc lo f hf q => by
        obtain ⟨a1, a2, a3, a4⟩ := inv_k h1
        have ek : ck ω1 1 = ck ω 1 := lo 1 3 (by omega) (by omega)
        obtain ⟨ω2, r2, D2, l2⟩ := c_isWon h1 hc (K := K) (ek.trans hK) (i := i) (j := j) (t := N) (by omega) (by omega) (by omega)
        have h2 : Inv ω2 := inv_scr h1 D2 (fun a k g => congrFun (l2 a (by unfold Sc at g; omega)) k)
        obtain ⟨c1, c2, c3, c4⟩ := inv_k h2
        have kk : ck ω2 1 = ck ω 1 := (congrFun (l2 1 (by omega)) 3).trans ek
        have k1 : cn ω2 1 = cn ω1 1 := congrFun (l2 1 (by omega)) 0
        have k2 : cT ω2 1 = cT ω1 1 := l2 2 (by omega)
        have k3 : cC ω2 1 = cC ω1 1 := l2 3 (by omega)
        rw [bi_v r2, hf] at q
        have mt := m_tags N 12 ω2 i j (by omega) (by omega) h2.1 (by rw [c2]; exact c4) (inv_mTok h2) (inv_mCok h2) (by omega) (by omega) (by omega) (inv_mO h2 (by omega)) (inv_mO h2 (by omega))
        have eq : tgF (mn ω2) (mC ω2) (mT ω2) N (mV ω2 i) (mV ω2 j) ↔ tgF (cn ω1 1) (cC ω1 1) (cT ω1 1) N (am_get ω1 (5 + i)) (am_get ω1 (5 + j)) := by
          have := tg_c (n := cn ω2 1) c4.2 (inv_Tok h2) (inv_Cok h2) (inv_E6 h2) (inv_EC h2) N _ _ _ _ (inv_O h2 (i := i) (by omega)) (inv_O h2 (i := j) (by omega)) (inv_E5 h2 (by omega)) (inv_E5 h2 (by omega))
          rw [c2, ← this, k1, k2, k3, l2 (5 + i) (by omega), l2 (5 + j) (by omega)]
        rw [b01_c eq] at mt
        have p2 := pX7_tag_0 53 i j N ω2 (i_53 h2.1)
        simp only [m_areTwo h2.1 (by rw [c1]; exact c3), c1, kk, b01_pos hp, m_in1, b01_pos ht, am_bi_s, am_bl_s, am_ba_s, am_bv_s, Int.toNat_zero, Int.reduceToNat, Int.toNat_natCast, if_true, if_false, not_true, not_false_eq_true, Int.reduceEq, Int.reduceLT, Int.reduceLE, i_53 h2.1, mt] at p2
        have z : (if b01 (tgF (cn ω1 1) (cC ω1 1) (cT ω1 1) N (am_get ω1 (5 + i)) (am_get ω1 (5 + j))) = 0 then some (some (.inl 0), ω2) else some (some (.inl 1), ω2) : Option am_R) = some (some (.inl (b01 (tgF (cn ω1 1) (cC ω1 1) (cT ω1 1) N (am_get ω1 (5 + i)) (am_get ω1 (5 + j))))), ω2) := by
          by_cases g : tgF (cn ω1 1) (cC ω1 1) (cT ω1 1) N (am_get ω1 (5 + i)) (am_get ω1 (5 + j))
          · rw [b01_pos g, if_neg (by omega)]
          · rw [b01_neg g, if_pos rfl]
        rw [z] at p2 q
        exact ⟨_, _, _, q, h2.1, D2.2.1.trans sc, p2, D2.2.1.trans sc, h2⟩
      rcases chase_is h with ⟨g9, ω1, r1, B1, I1, C1, sc, lo⟩ | ⟨c, g9, C1⟩
      · have n0 : am_is (am_new ω (0, 3) (am_d0 0)) 0 (6, 10) = true := at_is (ω := am_new ω (0, 3) (am_d0 0)) (a := 0) (nw_at (bs_sh h0 (a := 0) rfl))
        have n1 : am_get (am_new ω (0, 3) (am_d0 0)) 0 0 = 1 := (congrFun (nw_o (by have := h0.1.length_le; rw [sh0_len] at this; omega)) 0).trans (f_0_0 h0)
        have ch := chs_is C1
        simp only [g9, am_bi_s, am_bl_s, am_ba_s, am_bv_s, Int.toNat_zero, Int.reduceToNat, Int.toNat_natCast, if_true, if_false, not_true, not_false_eq_true, Int.reduceEq, Int.reduceLT, Int.reduceLE, n0, nw_is, n1, r1, i_0 B1, gp_same, ch] at p1
        refine fin _ I1 _ C1 sc (fun a k ha hk => (if_neg hk).trans (lo a k ha)) _ (fun z ω2 => rfl) p1
      · have ch := chs_is C1
        rw [g9, if_neg (by omega), if_pos ch] at p1
        exact fin ω h c C1 rfl (fun _ _ _ _ => rfl) _ (fun z ω2 => rfl) p1
    · have p1' : am_run (118, 0) 0 ([some (.inr (.inr 0)), some (.inl s), some (.inl o), some (.inl t)], [], ω) = some (some (.inl (-2)), rfz ω 0) := by
        rw [p1, b01_pos hp, if_neg (by omega)]
        by_cases g : t < 0
        · rw [if_pos g]
        · rw [if_neg g, if_neg (by omega)]
      refine pair_ref h 0 (by omega) p1' ?_
      rw [pX7_tag_0 _ _ _ _ _ (i_53 (b 0))]
      simp only [m_areTwo (b 0) (by rw [mk_rfz, e1]; exact e3), mk_rfz, e1, b01_pos hp, m_in1, b01_neg ht, am_bi_s, am_bl_s, am_ba_s, am_bv_s, Int.toNat_zero, Int.reduceToNat, Int.toNat_natCast, if_true, if_false, not_true, not_false_eq_true, Int.reduceEq, Int.reduceLT, Int.reduceLE, i_53 (b 0), m_r2 (b 0)]
  · rw [b01_neg hp, if_pos rfl] at p1
    refine pair_ref h 0 (by omega) p1 ?_
    rw [pX7_tag_0 _ _ _ _ _ (i_53 (b 0))]
    simp only [m_areTwo (b 0) (by rw [mk_rfz, e1]; exact e3), mk_rfz, e1, b01_neg hp, am_bi_s, am_bl_s, am_ba_s, am_bv_s, Int.toNat_zero, Int.reduceToNat, Int.toNat_natCast, if_true, if_false, not_true, not_false_eq_true, Int.reduceEq, Int.reduceLT, Int.reduceLE, i_53 (b 0), m_r2 (b 0)]
end K47
