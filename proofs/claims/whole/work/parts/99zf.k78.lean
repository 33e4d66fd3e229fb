/-! ===== what is made at first: the model ===== -/
section K78
variable {ω : am_W} {L : Nat}
def vv (ω : am_W) (L : Nat) (q : Nat × Nat) (k : Nat) : am_W := am_put (am_new ω q (fun _ => 0)) L k (ω.1.length : Int)
theorem vv_1 {q : Nat × Nat} {k : Nat} : (vv ω L q k).1 = ω.1 ++ [q] := rfl
theorem vv_at {q p : Nat × Nat} {k l : Nat} (h : ω.1[l]? = some p) : (vv ω L q k).1[l]? = some p := nw_at (d := fun _ => 0) h
theorem vv_o {q : Nat × Nat} {k a j : Nat} (h : a ≠ ω.1.length) (h' : ¬ (a = L ∧ j = k)) : am_get (vv ω L q k) a j = am_get ω a j := (if_neg h').trans (congrFun (nw_o h) j)
theorem v_0 (h : ω.1[L]? = some (7, 30)) : am_run (147, 0) 0 ([some (.inr (.inr ((L : Int)))), none], [], ω) = am_run (147, 0) 12 ([some (.inr (.inr ((L : Int)))), none], [], (vv ω L (100, 8) 0)) := by
  rw [pX7_init_0 _ _ (by omega), if_pos (at_is (nw_at h)), Int.toNat_natCast]
  rfl
theorem v_1 (h : ω.1[L]? = some (7, 30)) {o : Option am_V} : am_run (147, 0) 12 ([some (.inr (.inr ((L : Int)))), o], [], ω) = am_run (147, 0) 20 ([some (.inr (.inr ((L : Int)))), o], [], (vv ω L (100, 8) 1)) := by
  rw [pX7_init_12, if_pos (at_is (nw_at h)), Int.toNat_natCast]
  rfl
theorem v_2 (h : ω.1[L]? = some (7, 30)) {o : Option am_V} : am_run (147, 0) 20 ([some (.inr (.inr ((L : Int)))), o], [], ω) = am_run (147, 0) 29 ([some (.inr (.inr ((L : Int)))), o], [], (vv ω L (101, 320) 2)) := by
  rw [pX7_init_20, if_pos (at_is (nw_at h)), Int.toNat_natCast]
  rfl
theorem v_3 (h : ω.1[L]? = some (7, 30)) {o : Option am_V} : am_run (147, 0) 29 ([some (.inr (.inr ((L : Int)))), o], [], ω) = am_run (147, 0) 37 ([some (.inr (.inr ((L : Int)))), o], [], (vv ω L (100, 6) 4)) := by
  rw [pX7_init_29, if_pos (at_is (nw_at h)), Int.toNat_natCast]
  rfl
theorem v_4 (h : ω.1[L]? = some (7, 30)) {o : Option am_V} : am_run (147, 0) 37 ([some (.inr (.inr ((L : Int)))), o], [], ω) = am_run (147, 0) 45 ([some (.inr (.inr ((L : Int)))), o], [], (vv ω L (100, 6) 5)) := by
  rw [pX7_init_37, if_pos (at_is (nw_at h)), Int.toNat_natCast]
  rfl
theorem v_5 (h : ω.1[L]? = some (7, 30)) {o : Option am_V} : am_run (147, 0) 45 ([some (.inr (.inr ((L : Int)))), o], [], ω) = am_run (147, 0) 53 ([some (.inr (.inr ((L : Int)))), o], [], (vv ω L (100, 6) 7)) := by
  rw [pX7_init_45, if_pos (at_is (nw_at h)), Int.toNat_natCast]
  rfl
theorem v_6 (h : ω.1[L]? = some (7, 30)) {o : Option am_V} : am_run (147, 0) 53 ([some (.inr (.inr ((L : Int)))), o], [], ω) = am_run (147, 0) 61 ([some (.inr (.inr ((L : Int)))), o], [], (vv ω L (100, 6) 8)) := by
  rw [pX7_init_53, if_pos (at_is (nw_at h)), Int.toNat_natCast]
  rfl
theorem v_7 (h : ω.1[L]? = some (7, 30)) {o : Option am_V} : am_run (147, 0) 61 ([some (.inr (.inr ((L : Int)))), o], [], ω) = am_run (147, 0) 69 ([some (.inr (.inr ((L : Int)))), o], [], (vv ω L (100, 6) 9)) := by
  rw [pX7_init_61, if_pos (at_is (nw_at h)), Int.toNat_natCast]
  rfl
theorem v_8 (h : ω.1[L]? = some (7, 30)) {o : Option am_V} : am_run (147, 0) 69 ([some (.inr (.inr ((L : Int)))), o], [], ω) = am_run (147, 0) 77 ([some (.inr (.inr ((L : Int)))), o], [], (vv ω L (100, 6) 10)) := by
  rw [pX7_init_69, if_pos (at_is (nw_at h)), Int.toNat_natCast]
  rfl
theorem v_9 (h : ω.1[L]? = some (7, 30)) {o : Option am_V} : am_run (147, 0) 77 ([some (.inr (.inr ((L : Int)))), o], [], ω) = am_run (147, 0) 85 ([some (.inr (.inr ((L : Int)))), o], [], (vv ω L (100, 6) 11)) := by
  rw [pX7_init_77, if_pos (at_is (nw_at h)), Int.toNat_natCast]
  rfl
theorem v_10 (h : ω.1[L]? = some (7, 30)) {o : Option am_V} : am_run (147, 0) 85 ([some (.inr (.inr ((L : Int)))), o], [], ω) = am_run (147, 0) 94 ([some (.inr (.inr ((L : Int)))), o], [], (vv ω L (100, 250) 16)) := by
  rw [pX7_init_85, if_pos (at_is (nw_at h)), Int.toNat_natCast]
  rfl
theorem v_11 (h : ω.1[L]? = some (7, 30)) {o : Option am_V} : am_run (147, 0) 94 ([some (.inr (.inr ((L : Int)))), o], [], ω) = am_run (147, 0) 102 ([some (.inr (.inr ((L : Int)))), o], [], (vv ω L (100, 7) 21)) := by
  rw [pX7_init_94, if_pos (at_is (nw_at h)), Int.toNat_natCast]
  rfl
theorem v_12 (h : ω.1[L]? = some (7, 30)) {o : Option am_V} : am_run (147, 0) 102 ([some (.inr (.inr ((L : Int)))), o], [], ω) = am_run (147, 0) 110 ([some (.inr (.inr ((L : Int)))), o], [], (vv ω L (100, 47) 23)) := by
  rw [pX7_init_102, if_pos (at_is (nw_at h)), Int.toNat_natCast]
  rfl
theorem v_13 (h : ω.1[L]? = some (7, 30)) {o : Option am_V} : am_run (147, 0) 110 ([some (.inr (.inr ((L : Int)))), o], [], ω) = am_run (147, 0) 118 ([some (.inr (.inr ((L : Int)))), o], [], (vv ω L (100, 47) 24)) := by
  rw [pX7_init_110, if_pos (at_is (nw_at h)), Int.toNat_natCast]
  rfl
theorem v_14 (h : ω.1[L]? = some (7, 30)) {o : Option am_V} : am_run (147, 0) 118 ([some (.inr (.inr ((L : Int)))), o], [], ω) = am_run (147, 0) 127 ([some (.inr (.inr ((L : Int)))), o], [], (vv ω L (100, 10560) 25)) := by
  rw [pX7_init_118, if_pos (at_is (nw_at h)), Int.toNat_natCast]
  rfl
theorem v_15 (h : ω.1[L]? = some (7, 30)) {o : Option am_V} : am_run (147, 0) 127 ([some (.inr (.inr ((L : Int)))), o], [], ω) = am_run (147, 0) 136 ([some (.inr (.inr ((L : Int)))), o], [], (vv ω L (100, 10560) 26)) := by
  rw [pX7_init_127, if_pos (at_is (nw_at h)), Int.toNat_natCast]
  rfl
theorem v_16 (h : ω.1[L]? = some (7, 30)) {o : Option am_V} : am_run (147, 0) 136 ([some (.inr (.inr ((L : Int)))), o], [], ω) = am_run (147, 0) 144 ([some (.inr (.inr ((L : Int)))), o], [], (vv ω L (100, 80520) 27)) := by
  rw [pX7_init_136, if_pos (at_is (nw_at h)), Int.toNat_natCast]
  rfl
theorem v_17 (h : ω.1[L]? = some (7, 30)) {o : Option am_V} : am_run (147, 0) 144 ([some (.inr (.inr ((L : Int)))), o], [], ω) = am_run (147, 0) 152 ([some (.inr (.inr ((L : Int)))), o], [], (vv ω L (100, 60) 28)) := by
  rw [pX7_init_144, if_pos (at_is (nw_at h)), Int.toNat_natCast]
  rfl
/-- all the model's arrays -/
def vA (ω : am_W) (L : Nat) : am_W := vv (vv (vv (vv (vv (vv (vv (vv (vv (vv (vv (vv (vv (vv (vv (vv (vv (vv ω L (100, 8) 0) L (100, 8) 1) L (101, 320) 2) L (100, 6) 4) L (100, 6) 5) L (100, 6) 7) L (100, 6) 8) L (100, 6) 9) L (100, 6) 10) L (100, 6) 11) L (100, 250) 16) L (100, 7) 21) L (100, 47) 23) L (100, 47) 24) L (100, 10560) 25) L (100, 10560) 26) L (100, 80520) 27) L (100, 60) 28
theorem m_iniA (h : ω.1[L]? = some (7, 30)) : am_run (147, 0) 0 ([some (.inr (.inr ((L : Int)))), none], [], ω) = am_run (147, 0) 154 ([some (.inr (.inr ((L : Int)))), some (.inl 0)], [], (vA ω L)) := by
  unfold vA
  have h1 := vv_at (L := L) (q := (100, 8)) (k := 0) h
  have h2 := vv_at (L := L) (q := (100, 8)) (k := 1) h1
  have h3 := vv_at (L := L) (q := (101, 320)) (k := 2) h2
  have h4 := vv_at (L := L) (q := (100, 6)) (k := 4) h3
  have h5 := vv_at (L := L) (q := (100, 6)) (k := 5) h4
  have h6 := vv_at (L := L) (q := (100, 6)) (k := 7) h5
  have h7 := vv_at (L := L) (q := (100, 6)) (k := 8) h6
  have h8 := vv_at (L := L) (q := (100, 6)) (k := 9) h7
  have h9 := vv_at (L := L) (q := (100, 6)) (k := 10) h8
  have h10 := vv_at (L := L) (q := (100, 6)) (k := 11) h9
  have h11 := vv_at (L := L) (q := (100, 250)) (k := 16) h10
  have h12 := vv_at (L := L) (q := (100, 7)) (k := 21) h11
  have h13 := vv_at (L := L) (q := (100, 47)) (k := 23) h12
  have h14 := vv_at (L := L) (q := (100, 47)) (k := 24) h13
  have h15 := vv_at (L := L) (q := (100, 10560)) (k := 25) h14
  have h16 := vv_at (L := L) (q := (100, 10560)) (k := 26) h15
  have h17 := vv_at (L := L) (q := (100, 80520)) (k := 27) h16
  have h18 := vv_at (L := L) (q := (100, 60)) (k := 28) h17
  rw [v_0 h, v_1 h1, v_2 h2, v_3 h3, v_4 h4, v_5 h5, v_6 h6, v_7 h7, v_8 h8, v_9 h9, v_10 h10, v_11 h11, v_12 h12, v_13 h13, v_14 h14, v_15 h15, v_16 h16, v_17 h17, pX7_init_152]
/-- the shelves' colours are none -/
theorem m_ini154 : ∀ k j : Nat, j + k = 8 → ∀ ω : am_W, ω.1[L]? = some (7, 30) → ω.1[L + 1]? = some (100, 8) → am_get ω L 0 = ((L + 1 : Nat) : Int) → am_run (147, 0) 154 ([some (.inr (.inr ((L : Int)))), some (.inl ((j : Int)))], [], (fillR ω (L + 1) 0 j (-1))) = am_run (147, 0) 180 ([some (.inr (.inr ((L : Int)))), some (.inl 0)], [], (am_put (fillR ω (L + 1) 0 8 (-1)) L 3 4)) := by
  intro k
  induction k with
  | zero =>
    intro j hj ω h h1 h2
    obtain rfl : j = 8 := by omega
    rw [pX7_init_154 _ _ _ (at_is (ω := fillR ω (L + 1) 0 8 (-1)) h), if_pos (by omega), pX7_init_178, Int.toNat_natCast]
  | succ k ih =>
    intro j hj ω h h1 h2
    have e : am_get (fillR ω (L + 1) 0 j (-1)) L 0 = ((L + 1 : Nat) : Int) := (fillR_g (by omega)).trans h2
    rw [pX7_init_154 _ _ _ (at_is (ω := fillR ω (L + 1) 0 j (-1)) h), if_neg (by omega), Int.toNat_natCast, e, if_pos (at_in (ω := fillR ω (L + 1) 0 j (-1)) h1 (by omega) (by omega)), Int.toNat_natCast, Int.toNat_natCast, fillR_s (by omega), am_w_s (by omega) (by omega), show (j : Int) + 1 = ((j + 1 : Nat) : Int) by omega]
    exact ih (j + 1) (by omega) ω h h1 h2
/-- the circles' times and costs -/
def wQ (L : Nat) : Nat → am_W → am_W
  | 0, ω => am_put ω L 14 1
  | k + 1, ω => wQ L k (am_put (am_put ω (L + 4) (6 - (k + 1)) ((4 + 2 * (6 - (k + 1)) : Nat) : Int)) (L + 5) (6 - (k + 1)) 1)
theorem m_ini180 : ∀ k j : Nat, j + k = 6 → ∀ ω : am_W, ω.1[L]? = some (7, 30) → ω.1[L + 4]? = some (100, 6) → ω.1[L + 5]? = some (100, 6) → am_get ω L 4 = ((L + 4 : Nat) : Int) → am_get ω L 5 = ((L + 5 : Nat) : Int) → am_run (147, 0) 180 ([some (.inr (.inr ((L : Int)))), some (.inl ((j : Int)))], [], ω) = some (none, wQ L k ω) := by
  intro k
  induction k with
  | zero =>
    intro j hj ω h _ _ _ _
    obtain rfl : j = 6 := by omega
    rw [pX7_init_180 _ _ _ (at_is h), if_pos (by omega), Int.toNat_natCast]
    rfl
  | succ k ih =>
    intro j hj ω h h4 h5 e4 e5
    have x5 : ∀ v : Int, am_get (am_put ω (L + 4) j v) L 5 = ((L + 5 : Nat) : Int) := fun v => (gp_cell (by omega)).trans e5
    have w : am_w (4 + am_w (2 * (j : Int))) = ((4 + 2 * j : Nat) : Int) := by
      rw [am_w_s (z := 2 * (j : Int)) (by omega) (by omega), am_w_s (by omega) (by omega)]; omega
    rw [pX7_init_180 _ _ _ (at_is h), if_neg (by clear w; omega)]
    simp only [Int.toNat_natCast, e4, x5, w, in_put]
    clear w
    rw [if_pos (at_in h4 (by omega) (by omega)), if_pos (at_in h5 (by omega) (by omega)), pX7_init_204, am_w_s (by omega) (by omega), show (j : Int) + 1 = ((j + 1 : Nat) : Int) by omega]
    rw [ih (j + 1) (by omega) (am_put (am_put ω (L + 4) j ((4 + 2 * j : Nat) : Int)) (L + 5) j 1) h h4 h5 ((gp_cell (by omega)).trans ((gp_cell (by omega)).trans e4)) ((gp_cell (by omega)).trans (x5 _))]
    show _ = some (none, wQ L k (am_put (am_put ω (L + 4) (6 - (k + 1)) ((4 + 2 * (6 - (k + 1)) : Nat) : Int)) (L + 5) (6 - (k + 1)) 1))
    rw [show 6 - (k + 1) = j by omega]
end K78
