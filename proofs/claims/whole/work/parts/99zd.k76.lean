/-! ===== what is made at first: the class ===== -/
section K76
variable {ω : am_W}
theorem wV_1 {L : Nat} : ∀ k (ω : am_W), (wV L k ω).1 = ω.1 ++ List.replicate k (4, 5) ∧ (wV L k ω).2.2 = ω.2.2 := by
  intro k
  induction k with
  | zero => intro ω; exact ⟨by simp [wV], rfl⟩
  | succ k ih =>
    intro ω
    obtain ⟨a, b⟩ := ih (am_put (am_new ω (4, 5) (am_d0 4)) (L + 3) (6 - (k + 1)) (ω.1.length : Int))
    refine ⟨?_, b⟩
    show (wV L k _).1 = _
    rw [a]
    show (ω.1 ++ [(4, 5)]) ++ List.replicate k (4, 5) = _
    rw [List.append_assoc, List.replicate_succ]
    rfl
theorem wS_1 : (wS ω).1 = ω.1 ++ sh_W := by
  unfold wS
  rw [(wV_1 _ _).1]
  show ((((ω.1 ++ [(5, 8)]) ++ [(100, 6)]) ++ [(100, 5)]) ++ [(102, 6)]) ++ List.replicate 6 (4, 5) = _
  unfold sh_W
  simp
theorem wS_at {l : Nat} {q : Nat × Nat} (h : ω.1[l]? = some q) : (wS ω).1[l]? = some q := by
  rw [wS_1, List.getElem?_append_left (List.getElem?_eq_some_iff.mp h).1]
  exact h
/-- the tape, as it is made -/
def wP (ω : am_W) : am_W := am_put (am_put (wS (am_put (am_new (am_new ω (3, 7) (am_d0 3)) (100, 250) (fun _ => 0)) ω.1.length 0 ((am_new ω (3, 7) (am_d0 3)).1.length : Int))) ω.1.length 2 ((am_new (am_new ω (3, 7) (am_d0 3)) (100, 250) (fun _ => 0)).1.length : Int)) ω.1.length 6 (-1)
theorem c_wP : am_run (33, 0) 0 ([some (.inr (.inr ((ω.1.length : Int))))], [], (am_new ω (3, 7) (am_d0 3))) = some (none, wP ω) := by
  have a0 : (am_new ω (3, 7) (am_d0 3)).1[ω.1.length]? = some (3, 7) := by show (ω.1 ++ [(3, 7)])[ω.1.length]? = _; simp
  have a1 : (am_new (am_new ω (3, 7) (am_d0 3)) (100, 250) (fun _ => 0)).1[ω.1.length]? = some (3, 7) := nw_at a0
  have a2 : (wS (am_put (am_new (am_new ω (3, 7) (am_d0 3)) (100, 250) (fun _ => 0)) ω.1.length 0 ((am_new ω (3, 7) (am_d0 3)).1.length : Int))).1[ω.1.length]? = some (3, 7) := wS_at (ω := am_put (am_new (am_new ω (3, 7) (am_d0 3)) (100, 250) (fun _ => 0)) ω.1.length 0 ((am_new ω (3, 7) (am_d0 3)).1.length : Int)) a1
  rw [pX3_init_0 _ _ (by omega), if_pos (at_is a1), Int.toNat_natCast, pX3_init_13, if_pos nw_is, bv_v c_wS, if_pos (at_is a2), pX3_init_24 _ _ (by rw [is_put]; exact at_is a2), Int.toNat_natCast]
  rfl
/-- the shelves, as they are made -/
def wL : Nat → am_W → am_W
  | 0, ω => ω
  | k + 1, ω => wL k (am_put (am_put (am_new (am_put (am_new ω (2, 3) (am_d0 2)) ω.1.length 0 (-1)) (101, 40) (fun _ => 0)) ω.1.length 2 ((am_new ω (2, 3) (am_d0 2)).1.length : Int)) 33 (8 - (k + 1)) (ω.1.length : Int))
theorem c_wL : ∀ k j : Nat, j + k = 8 → ∀ ω : am_W, ω.1[0]? = some (6, 10) → ω.1[33]? = some (103, 8) → am_get ω 0 4 = 33 → 34 ≤ ω.1.length → am_run (83, 0) 77 ([some (.inr (.inr 0)), some (.inl ((j : Int)))], [], ω) = some (none, wL k ω) := by
  intro k
  induction k with
  | zero =>
    intro j hj ω h _ _ _
    obtain rfl : j = 8 := by omega
    rw [pX6_init_77 0 _ _ (at_is (a := 0) h), if_pos (by omega)]
    rfl
  | succ k ih =>
    intro j hj ω h h3 h4 hl
    have a0 : (am_new ω (2, 3) (am_d0 2)).1[ω.1.length]? = some (2, 3) := by show (ω.1 ++ [(2, 3)])[ω.1.length]? = _; simp
    have a1 : (am_new (am_put (am_new ω (2, 3) (am_d0 2)) ω.1.length 0 (-1)) (101, 40) (fun _ => 0)).1[ω.1.length]? = some (2, 3) := nw_at (ω := am_put (am_new ω (2, 3) (am_d0 2)) ω.1.length 0 (-1)) a0
    have r : am_run (22, 0) 0 ([some (.inr (.inr ((ω.1.length : Int))))], [], (am_new ω (2, 3) (am_d0 2))) = some (none, am_put (am_new (am_put (am_new ω (2, 3) (am_d0 2)) ω.1.length 0 (-1)) (101, 40) (fun _ => 0)) ω.1.length 2 ((am_new ω (2, 3) (am_d0 2)).1.length : Int)) := by
      rw [pX2_init_0 _ _ (by omega) nw_is, Int.toNat_natCast, if_pos (at_is a1)]
      rfl
    have b3 : (am_new (am_put (am_new ω (2, 3) (am_d0 2)) ω.1.length 0 (-1)) (101, 40) (fun _ => 0)).1[33]? = some (103, 8) := nw_at (ω := am_put (am_new ω (2, 3) (am_d0 2)) ω.1.length 0 (-1)) (nw_at (d := am_d0 2) h3)
    have b0 : (am_new (am_put (am_new ω (2, 3) (am_d0 2)) ω.1.length 0 (-1)) (101, 40) (fun _ => 0)).1[0]? = some (6, 10) := nw_at (ω := am_put (am_new ω (2, 3) (am_d0 2)) ω.1.length 0 (-1)) (nw_at (d := am_d0 2) h)
    have st1 : am_sta2 (am_put (am_new (am_put (am_new ω (2, 3) (am_d0 2)) ω.1.length 0 (-1)) (101, 40) (fun _ => 0)) ω.1.length 2 ((am_new ω (2, 3) (am_d0 2)).1.length : Int)) 33 (j : Int) (ω.1.length : Int) = true := by
      have x1 : am_in (am_put (am_new (am_put (am_new ω (2, 3) (am_d0 2)) ω.1.length 0 (-1)) (101, 40) (fun _ => 0)) ω.1.length 2 ((am_new ω (2, 3) (am_d0 2)).1.length : Int)) 33 103 (j : Int) = true := at_in (a := 33) b3 (by omega) (by omega)
      have x2 : am_is (am_put (am_new (am_put (am_new ω (2, 3) (am_d0 2)) ω.1.length 0 (-1)) (101, 40) (fun _ => 0)) ω.1.length 2 ((am_new ω (2, 3) (am_d0 2)).1.length : Int)) (ω.1.length : Int) (2, 3) = true := at_is a1
      unfold am_sta2
      rw [x1, x2]
      simp
    rw [pX6_init_77 0 _ _ (at_is (a := 0) h), if_neg (by omega), if_pos nw_is, bv_v r]
    rw [show (0 : Int).toNat = 0 from rfl, h4, if_pos st1, show (33 : Int).toNat = 33 from rfl, Int.toNat_natCast, pX6_init_96, am_w_s (by omega) (by omega), show (j : Int) + 1 = ((j + 1 : Nat) : Int) by omega]
    rw [ih (j + 1) (by omega) (am_put (am_put (am_new (am_put (am_new ω (2, 3) (am_d0 2)) ω.1.length 0 (-1)) (101, 40) (fun _ => 0)) ω.1.length 2 ((am_new ω (2, 3) (am_d0 2)).1.length : Int)) 33 j (ω.1.length : Int)) b0 b3 ?_ ?_]
    · show _ = some (none, wL k (am_put (am_put (am_new (am_put (am_new ω (2, 3) (am_d0 2)) ω.1.length 0 (-1)) (101, 40) (fun _ => 0)) ω.1.length 2 ((am_new ω (2, 3) (am_d0 2)).1.length : Int)) 33 (8 - (k + 1)) (ω.1.length : Int)))
      rw [show 8 - (k + 1) = j by omega]
    · rw [gp_cell (by omega), gp_cell (by omega)]
      rw [nw_o (ω := am_put (am_new ω (2, 3) (am_d0 2)) ω.1.length 0 (-1)) (by show 0 ≠ (ω.1 ++ [(2, 3)]).length; rw [List.length_append]; omega)]
      rw [gp_cell (by omega), nw_o (by omega)]
      exact h4
    · show 34 ≤ ((ω.1 ++ [(2, 3)]) ++ [(101, 40)]).length
      rw [List.length_append, List.length_append]
      omega
end K76
