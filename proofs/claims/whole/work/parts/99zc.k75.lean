/-! ===== what is made at first ===== -/
section K75
variable {ω : am_W}
theorem in_put {a k : Nat} {v l i : Int} {kd : Nat} : am_in (am_put ω a k v) l kd i = am_in ω l kd i := rfl
theorem is_put {a k : Nat} {v l : Int} {q : Nat × Nat} : am_is (am_put ω a k v) l q = am_is ω l q := rfl
theorem len_put {a k : Nat} {v : Int} : (am_put ω a k v).1.length = ω.1.length := rfl
theorem nw_in {kd n : Nat} {d : Nat → Int} {i : Int} (h0 : 0 ≤ i) (h1 : i < (n : Int)) : am_in (am_new ω (kd, n) d) (ω.1.length : Int) kd i = true := at_in (ω := am_new ω (kd, n) d) (by show (ω.1 ++ [(kd, n)])[ω.1.length]? = some (kd, n); simp) h0 h1
theorem is_new {q p : Nat × Nat} {d : Nat → Int} {l : Nat} (h : am_is ω (l : Int) q = true) : am_is (am_new ω p d) (l : Int) q = true := by
  unfold am_is at h ⊢
  rw [Int.toNat_natCast] at h ⊢
  have h' : ω.1[l]? = some q := by simpa using h
  rw [nw_at h']
  simp
theorem in_new {p : Nat × Nat} {d : Nat → Int} {l kd : Nat} {i : Int} {n : Nat} (h : ω.1[l]? = some (kd, n)) (h0 : 0 ≤ i) (h1 : i < (n : Int)) : am_in (am_new ω p d) (l : Int) kd i = true := at_in (ω := am_new ω p d) (nw_at h) h0 h1
/-- a sky: the times, the costs, the row of ships -/
def wT (ω : am_W) (L : Nat) : am_W := am_put (am_put (am_put (am_put (am_put (am_put (am_put (am_new (am_put ω L 0 4) (100, 6) (fun _ => 0)) ω.1.length 0 4) ω.1.length 1 6) ω.1.length 2 8) ω.1.length 3 10) ω.1.length 4 12) ω.1.length 5 14) L 1 (ω.1.length : Int)
def wC (ω : am_W) (L : Nat) : am_W := am_put (am_put (am_put (am_put (am_put (am_put (am_new ω (100, 5) (fun _ => 0)) ω.1.length 0 1) ω.1.length 1 1) ω.1.length 2 1) ω.1.length 3 1) ω.1.length 4 1) L 2 (ω.1.length : Int)
def wR (ω : am_W) (L : Nat) : am_W := am_put (am_put (am_new ω (102, 6) (fun _ => -1)) L 4 (ω.1.length : Int)) L 7 1
def wV (L : Nat) : Nat → am_W → am_W
  | 0, ω => ω
  | k + 1, ω => wV L k (am_put (am_new ω (4, 5) (am_d0 4)) (L + 3) (6 - (k + 1)) (ω.1.length : Int))
theorem c_wT {L : Nat} (h : am_is ω (L : Int) (5, 8) = true) : am_run (52, 0) 0 ([some (.inr (.inr ((L : Int)))), none], [], ω) = am_run (52, 0) 46 ([some (.inr (.inr ((L : Int)))), none], [], (wT ω L)) := by
  have i0 : am_is (am_new (am_put ω L 0 4) (100, 6) (fun _ => 0)) (L : Int) (5, 8) = true := is_new h
  have n0 : ∀ i : Int, 0 ≤ i → i < 6 → am_in (am_new (am_put ω L 0 4) (100, 6) (fun _ => 0)) (ω.1.length : Int) 100 i = true := fun i a b => nw_in (ω := am_put ω L 0 4) a b
  rw [pX5_init_0 _ _ (by omega) h]
  simp only [Int.toNat_natCast, in_put, is_put, len_put, n0 0 (by omega) (by omega), n0 1 (by omega) (by omega), n0 2 (by omega) (by omega), n0 3 (by omega) (by omega), n0 4 (by omega) (by omega), n0 5 (by omega) (by omega), i0, if_true]
  rfl
theorem c_wC {L : Nat} (h : am_is ω (L : Int) (5, 8) = true) {o : Option am_V} : am_run (52, 0) 46 ([some (.inr (.inr ((L : Int)))), o], [], ω) = am_run (52, 0) 73 ([some (.inr (.inr ((L : Int)))), o], [], (wC ω L)) := by
  have i0 : am_is (am_new ω (100, 5) (fun _ => 0)) (L : Int) (5, 8) = true := is_new h
  have n0 : ∀ i : Int, 0 ≤ i → i < 5 → am_in (am_new ω (100, 5) (fun _ => 0)) (ω.1.length : Int) 100 i = true := fun i a b => nw_in a b
  rw [pX5_init_46]
  simp only [Int.toNat_natCast, in_put, is_put, n0 0 (by omega) (by omega), n0 1 (by omega) (by omega), n0 2 (by omega) (by omega), n0 3 (by omega) (by omega), n0 4 (by omega) (by omega), i0, if_true]
  rfl
theorem c_wR {L : Nat} (h : am_is ω (L : Int) (5, 8) = true) {o : Option am_V} : am_run (52, 0) 73 ([some (.inr (.inr ((L : Int)))), o], [], ω) = am_run (52, 0) 89 ([some (.inr (.inr ((L : Int)))), some (.inl 0)], [], (wR ω L)) := by
  have i0 : am_is (am_new ω (102, 6) (fun _ => -1)) (L : Int) (5, 8) = true := is_new h
  rw [pX5_init_73, if_pos i0, Int.toNat_natCast, pX5_init_82 _ _ _ (by rw [is_put]; exact i0), Int.toNat_natCast]
  rfl
theorem c_wV {L : Nat} : ∀ k j : Nat, j + k = 6 → ∀ ω : am_W, am_is ω (L : Int) (5, 8) = true → ω.1[L + 3]? = some (102, 6) → am_get ω L 4 = ((L + 3 : Nat) : Int) → L + 4 ≤ ω.1.length → am_run (52, 0) 89 ([some (.inr (.inr ((L : Int)))), some (.inl ((j : Int)))], [], ω) = some (none, wV L k ω) := by
  intro k
  induction k with
  | zero =>
    intro j hj ω h _ _ _
    obtain rfl : j = 6 := by omega
    rw [pX5_init_89 _ _ _ h, if_pos (by omega)]
    rfl
  | succ k ih =>
    intro j hj ω h h3 h4 hl
    have st1 : am_sta2 (am_new ω (4, 5) (am_d0 4)) ((L + 3 : Nat) : Int) (j : Int) (ω.1.length : Int) = true := by
      unfold am_sta2
      rw [at_in (ω := am_new ω (4, 5) (am_d0 4)) (nw_at h3) (by omega) (by omega), nw_is]
      rfl
    rw [pX5_init_89 _ _ _ h, if_neg (by omega), if_pos nw_is, pX4_init_0 _ _ (by omega), bv_v rfl, Int.toNat_natCast, h4, if_pos st1, Int.toNat_natCast, Int.toNat_natCast, pX5_init_108, am_w_s (by omega) (by omega), show (j : Int) + 1 = ((j + 1 : Nat) : Int) by omega]
    rw [ih (j + 1) (by omega) (am_put (am_new ω (4, 5) (am_d0 4)) (L + 3) j (ω.1.length : Int)) (is_new (d := am_d0 4) h) (nw_at (d := am_d0 4) h3) ((gp_cell (by omega)).trans ((congrFun (nw_o (by omega)) 4).trans h4)) (by
      show L + 4 ≤ (ω.1 ++ [(4, 5)]).length
      rw [List.length_append]; omega)]
    show _ = some (none, wV L k (am_put (am_new ω (4, 5) (am_d0 4)) (L + 3) (6 - (k + 1)) (ω.1.length : Int)))
    rw [show 6 - (k + 1) = j by omega]
/-- a sky, as it is made -/
def wS (ω : am_W) : am_W := wV ω.1.length 6 (wR (wC (wT (am_new ω (5, 8) (am_d0 5)) ω.1.length) ω.1.length) ω.1.length)
theorem c_wS : am_run (52, 0) 0 ([some (.inr (.inr ((ω.1.length : Int)))), none], [], (am_new ω (5, 8) (am_d0 5))) = some (none, wS ω) := by
  have h0 : am_is (am_new ω (5, 8) (am_d0 5)) (ω.1.length : Int) (5, 8) = true := nw_is
  have h1 : am_is (wT (am_new ω (5, 8) (am_d0 5)) ω.1.length) (ω.1.length : Int) (5, 8) = true := is_new (d := fun _ => 0) h0
  have h2 : am_is (wC (wT (am_new ω (5, 8) (am_d0 5)) ω.1.length) ω.1.length) (ω.1.length : Int) (5, 8) = true := is_new (d := fun _ => 0) h1
  have h3 : am_is (wR (wC (wT (am_new ω (5, 8) (am_d0 5)) ω.1.length) ω.1.length) ω.1.length) (ω.1.length : Int) (5, 8) = true := is_new (d := fun _ => -1) h2
  have s : (wR (wC (wT (am_new ω (5, 8) (am_d0 5)) ω.1.length) ω.1.length) ω.1.length).1 = ω.1 ++ [(5, 8), (100, 6), (100, 5), (102, 6)] := by
    show (((ω.1 ++ [(5, 8)]) ++ [(100, 6)]) ++ [(100, 5)]) ++ [(102, 6)] = _
    simp
  have l2 : (wC (wT (am_new ω (5, 8) (am_d0 5)) ω.1.length) ω.1.length).1.length = ω.1.length + 3 := by
    show (((ω.1 ++ [(5, 8)]) ++ [(100, 6)]) ++ [(100, 5)]).length = _
    simp
  rw [c_wT h0, c_wC h1, c_wR h2]
  have := c_wV (L := ω.1.length) 6 0 (by omega) _ h3 (by rw [s, List.getElem?_append_right (by omega)]; simp) (by
    unfold wR
    rw [gp_place (by omega), gp_same, l2]) (by rw [s, List.length_append]; simp)
  exact this
end K75
