/-! ===== a planner is made ===== -/
section K48
variable {ω : am_W}
def Pls (ω : am_W) (p : Nat) : Prop := 72 ≤ p ∧ (∀ j, j < 25 → ω.1[p + j]? = sh_P[j]?) ∧ B_pl ω.2.1 p
theorem Pls.dc {ω' : am_W} {p : Nat} (h : Pls ω p) (d : Dc ω ω') : Pls ω' p := ⟨h.1, by rw [d.1]; exact h.2.1, pl_kp h.2.1 d h.2.2⟩
/-- what is made: cells of X behind those of ω0, the old ones as they were -/
def Mk (ω0 : am_W) (L : Nat) (X : List (Nat × Nat)) (ω : am_W) : Prop := ω.1 = ω0.1 ++ X ∧ ω.2.2 = ω0.2.2 ∧ ∀ a, a < L → am_get ω a = am_get ω0 a
theorem Mk.len {ω0 : am_W} {L : Nat} {X : List (Nat × Nat)} (hL : ω0.1.length = L) (h : Mk ω0 L X ω) : ω.1.length = L + X.length := by rw [h.1, List.length_append, hL]
theorem Mk.at {ω0 : am_W} {L : Nat} {X : List (Nat × Nat)} (hL : ω0.1.length = L) (h : Mk ω0 L X ω) {j : Nat} {q : Nat × Nat} (e : X[j]? = some q) : ω.1[L + j]? = some q := by
  rw [h.1, List.getElem?_append_right (by omega), hL, Nat.add_sub_cancel_left]
  exact e
/-- one more, and its number goes into a field of the first -/
theorem mk_new {ω0 : am_W} {L : Nat} {X : List (Nat × Nat)} (hL : ω0.1.length = L) (h : Mk ω0 L X ω) (hX : 1 ≤ X.length) {q : Nat × Nat} {d : Nat → Int} {k : Nat} {v : Int} : Mk ω0 L (X ++ [q]) (am_put (am_new ω q d) L k v) := by
  have len := h.len hL
  refine ⟨?_, h.2.1, fun a ha => funext fun j => ?_⟩
  · show ω.1 ++ [q] = _
    rw [h.1, List.append_assoc]
  · exact (gp_cell (by omega)).trans ((congrFun (nw_o (by omega)) j).trans (congrFun (h.2.2 a ha) j))
theorem ng_o {n k a : Nat} (h : a < ω.1.length) : am_get (am_newg ω n k) a = am_get ω a := funext fun j => (if_neg (by omega)).trans (if_neg (by omega))
theorem ng_s {n k j : Nat} (h : j < n) : am_get (am_newg ω n k) ω.1.length j = ((ω.1.length + 1 + j : Nat) : Int) := (if_pos rfl).trans (if_pos h)
theorem mk_ng {ω0 : am_W} {L : Nat} {X : List (Nat × Nat)} (hL : ω0.1.length = L) (h : Mk ω0 L X ω) (hX : 1 ≤ X.length) {n m k : Nat} {v : Int} : Mk ω0 L (X ++ ((104, n) :: List.replicate n (100, m))) (am_put (am_newg ω n m) L k v) := by
  have len := h.len hL
  refine ⟨?_, h.2.1, fun a ha => funext fun j => ?_⟩
  · show ω.1 ++ ((104, n) :: List.replicate n (100, m)) = _
    rw [h.1, List.append_assoc]
  · exact (gp_cell (by omega)).trans ((congrFun (ng_o (by omega)) j).trans (congrFun (h.2.2 a ha) j))
theorem ng_is {n m L : Nat} {q : Nat × Nat} (h : ω.1[L]? = some q) : am_is (am_newg ω n m) (L : Int) q = true := at_is (ω := am_newg ω n m) (by
  show (ω.1 ++ ((104, n) :: List.replicate n (100, m)))[L]? = some q
  rw [List.getElem?_append_left (List.getElem?_eq_some_iff.mp h).1]
  exact h)
set_option maxHeartbeats 8000000 in
theorem c_mkPl {L : Nat} (hL : ω.1.length = L) : ∃ ω', am_run (4, 0) 0 ([some (.inr (.inr ((L : Int)))), some (.inr (.inr 1))], [], (am_new ω (1, 15) (am_d0 1))) = some (none, ω') ∧ Mk ω L sh_P ω' ∧ B_pl ω'.2.1 L := by
  obtain ⟨w0, e0⟩ : ∃ w, w = am_new ω (1, 15) (am_d0 1) := ⟨_, rfl⟩
  have m0 : Mk ω L [(1, 15)] w0 := by rw [e0]; exact ⟨rfl, rfl, fun a ha => nw_o (by omega)⟩
  rw [← e0]
  have q := pX1_init_0 (L : Int) 1 w0 (by omega)
  have l0 := m0.len hL
  have a0 := m0.at hL (j := 0) rfl
  rw [Nat.add_zero] at a0
  rw [if_pos (at_is (ω := am_new w0 (100, 120) (fun _ => 0)) (nw_at a0)), Int.toNat_natCast, l0] at q
  obtain ⟨w1, e1⟩ : ∃ w, w = am_put (am_new w0 (100, 120) (fun _ => 0)) L 1 ((L + [(1, 15)].length : Nat) : Int) := ⟨_, rfl⟩
  have m1 : Mk ω L ([(1, 15)] ++ [(100, 120)]) w1 := by rw [e1]; exact mk_new hL m0 (by decide)
  have l1 := m1.len hL
  have a1 := m1.at hL (j := 0) rfl
  rw [Nat.add_zero] at a1
  rw [← e1, pX1_init_12, if_pos (ng_is a1), Int.toNat_natCast, l1] at q
  obtain ⟨w2, e2⟩ : ∃ w, w = am_put (am_newg w1 3 120) L 3 ((L + ([(1, 15)] ++ [(100, 120)]).length : Nat) : Int) := ⟨_, rfl⟩
  have m2 := mk_ng (n := 3) (m := 120) (k := 3) (v := ((L + ([(1, 15)] ++ [(100, 120)]).length : Nat) : Int)) hL m1 (by decide)
  rw [← e2] at m2
  have l2 := m2.len hL
  have a2 := m2.at hL (j := 0) rfl
  rw [Nat.add_zero] at a2
  rw [← e2, pX1_init_23, if_pos (ng_is a2), Int.toNat_natCast, l2] at q
  obtain ⟨v2, hv2⟩ : ∃ v : Int, v = ((L + 6 : Nat) : Int) := ⟨_, rfl⟩
  obtain ⟨w3, e3⟩ : ∃ w, w = am_put (am_newg w2 3 120) L 4 ((L + 6 : Nat) : Int) := ⟨_, rfl⟩
  have m3 := mk_ng (n := 3) (m := 120) (k := 4) (v := ((L + 6 : Nat) : Int)) hL m2 (by decide)
  rw [← e3] at m3
  have l3 := m3.len hL
  have a3 := m3.at hL (j := 0) rfl
  rw [Nat.add_zero] at a3
  have q := q.trans (show am_run (4, 0) 34 ([some (.inr (.inr ((L : Int)))), some (.inr (.inr 1))], [], (am_put (am_newg w2 3 120) L 4 _)) = am_run (4, 0) 34 ([some (.inr (.inr ((L : Int)))), some (.inr (.inr 1))], [], w3) by rw [e3]; rfl)
  rw [pX1_init_34, if_pos (ng_is a3), Int.toNat_natCast, l3] at q
  obtain ⟨w4, e4⟩ : ∃ w, w = am_put (am_newg w3 3 120) L 5 ((L + 10 : Nat) : Int) := ⟨_, rfl⟩
  have m4 := mk_ng (n := 3) (m := 120) (k := 5) (v := ((L + 10 : Nat) : Int)) hL m3 (by decide)
  rw [← e4] at m4
  have l4 := m4.len hL
  have a4 := m4.at hL (j := 0) rfl
  rw [Nat.add_zero] at a4
  have q := q.trans (show am_run (4, 0) 45 ([some (.inr (.inr ((L : Int)))), some (.inr (.inr 1))], [], (am_put (am_newg w3 3 120) L 5 _)) = am_run (4, 0) 45 ([some (.inr (.inr ((L : Int)))), some (.inr (.inr 1))], [], w4) by rw [e4]; rfl)
  rw [pX1_init_45, if_pos (ng_is a4), Int.toNat_natCast, l4] at q
  obtain ⟨w5, e5⟩ : ∃ w, w = am_put (am_newg w4 7 1320) L 6 ((L + 14 : Nat) : Int) := ⟨_, rfl⟩
  have m5 := mk_ng (n := 7) (m := 1320) (k := 6) (v := ((L + 14 : Nat) : Int)) hL m4 (by decide)
  rw [← e5] at m5
  have l5 := m5.len hL
  have a5 := m5.at hL (j := 0) rfl
  rw [Nat.add_zero] at a5
  have q := q.trans (show am_run (4, 0) 58 ([some (.inr (.inr ((L : Int)))), some (.inr (.inr 1))], [], (am_put (am_newg w4 7 1320) L 6 _)) = am_run (4, 0) 58 ([some (.inr (.inr ((L : Int)))), some (.inr (.inr 1))], [], w5) by rw [e5]; rfl)
  rw [pX1_init_58, if_pos (at_is (ω := am_new w5 (100, 7320) (fun _ => 0)) (nw_at a5)), Int.toNat_natCast, l5] at q
  obtain ⟨w6, e6⟩ : ∃ w, w = am_put (am_new w5 (100, 7320) (fun _ => 0)) L 7 ((L + 22 : Nat) : Int) := ⟨_, rfl⟩
  have m6 := mk_new (q := (100, 7320)) (d := fun _ => 0) (k := 7) (v := ((L + 22 : Nat) : Int)) hL m5 (by decide)
  rw [← e6] at m6
  have l6 := m6.len hL
  have a6 := m6.at hL (j := 0) rfl
  rw [Nat.add_zero] at a6
  have q := q.trans (show am_run (4, 0) 67 ([some (.inr (.inr ((L : Int)))), some (.inr (.inr 1))], [], (am_put (am_new w5 (100, 7320) (fun _ => 0)) L 7 _)) = am_run (4, 0) 67 ([some (.inr (.inr ((L : Int)))), some (.inr (.inr 1))], [], w6) by rw [e6]; rfl)
  rw [pX1_init_67, if_pos (at_is (ω := am_new w6 (100, 3) (fun _ => 0)) (nw_at a6)), Int.toNat_natCast, l6] at q
  obtain ⟨w7, e7⟩ : ∃ w, w = am_put (am_new w6 (100, 3) (fun _ => 0)) L 8 ((L + 23 : Nat) : Int) := ⟨_, rfl⟩
  have m7 := mk_new (q := (100, 3)) (d := fun _ => 0) (k := 8) (v := ((L + 23 : Nat) : Int)) hL m6 (by decide)
  rw [← e7] at m7
  have l7 := m7.len hL
  have a7 := m7.at hL (j := 0) rfl
  rw [Nat.add_zero] at a7
  have q := q.trans (show am_run (4, 0) 74 ([some (.inr (.inr ((L : Int)))), some (.inr (.inr 1))], [], (am_put (am_new w6 (100, 3) (fun _ => 0)) L 8 _)) = am_run (4, 0) 74 ([some (.inr (.inr ((L : Int)))), some (.inr (.inr 1))], [], w7) by rw [e7]; rfl)
  rw [pX1_init_74, if_pos (at_is (ω := am_new w7 (100, 3) (fun _ => 0)) (nw_at a7)), Int.toNat_natCast, l7] at q
  obtain ⟨w8, e8⟩ : ∃ w, w = am_put (am_new w7 (100, 3) (fun _ => 0)) L 9 ((L + 24 : Nat) : Int) := ⟨_, rfl⟩
  have m8 := mk_new (q := (100, 3)) (d := fun _ => 0) (k := 9) (v := ((L + 24 : Nat) : Int)) hL m7 (by decide)
  rw [← e8] at m8
  have a8 := m8.at hL (j := 0) rfl
  rw [Nat.add_zero] at a8
  have q := q.trans (show am_run (4, 0) 81 ([some (.inr (.inr ((L : Int)))), some (.inr (.inr 1))], [], (am_put (am_new w7 (100, 3) (fun _ => 0)) L 9 _)) = am_run (4, 0) 81 ([some (.inr (.inr ((L : Int)))), some (.inr (.inr 1))], [], w8) by rw [e8]; rfl)
  rw [pX1_init_81 _ _ _ (by omega) (at_is a8), Int.toNat_natCast] at q
  -- what each step leaves
  have L1 : w0.1.length = L + 1 := l0
  have L2 : w1.1.length = L + 2 := l1
  have L6 : w2.1.length = L + 6 := l2
  have L10 : w3.1.length = L + 10 := l3
  have L14 : w4.1.length = L + 14 := l4
  have L22 : w5.1.length = L + 22 := l5
  have L23 : w6.1.length = L + 23 := l6
  have L24 : w7.1.length = L + 24 := l7
  have o1 : ∀ a k, a < L + 1 → ¬ (a = L ∧ k = 1) → am_get w1 a k = am_get w0 a k := fun a k h1 h2 => by rw [e1]; exact (if_neg h2).trans (congrFun (nw_o (by omega)) k)
  have o2 : ∀ a k, a < L + 2 → ¬ (a = L ∧ k = 3) → am_get w2 a k = am_get w1 a k := fun a k h1 h2 => by rw [e2]; exact (if_neg h2).trans (congrFun (ng_o (by omega)) k)
  have o3 : ∀ a k, a < L + 6 → ¬ (a = L ∧ k = 4) → am_get w3 a k = am_get w2 a k := fun a k h1 h2 => by rw [e3]; exact (if_neg h2).trans (congrFun (ng_o (by omega)) k)
  have o4 : ∀ a k, a < L + 10 → ¬ (a = L ∧ k = 5) → am_get w4 a k = am_get w3 a k := fun a k h1 h2 => by rw [e4]; exact (if_neg h2).trans (congrFun (ng_o (by omega)) k)
  have o5 : ∀ a k, a < L + 14 → ¬ (a = L ∧ k = 6) → am_get w5 a k = am_get w4 a k := fun a k h1 h2 => by rw [e5]; exact (if_neg h2).trans (congrFun (ng_o (by omega)) k)
  have o6 : ∀ a k, a < L + 22 → ¬ (a = L ∧ k = 7) → am_get w6 a k = am_get w5 a k := fun a k h1 h2 => by rw [e6]; exact (if_neg h2).trans (congrFun (nw_o (by omega)) k)
  have o7 : ∀ a k, a < L + 23 → ¬ (a = L ∧ k = 8) → am_get w7 a k = am_get w6 a k := fun a k h1 h2 => by rw [e7]; exact (if_neg h2).trans (congrFun (nw_o (by omega)) k)
  have o8 : ∀ a k, a < L + 24 → ¬ (a = L ∧ k = 9) → am_get w8 a k = am_get w7 a k := fun a k h1 h2 => by rw [e8]; exact (if_neg h2).trans (congrFun (nw_o (by omega)) k)
  have o9 : ∀ a k, ¬ (a = L ∧ k = 0) → (am_put w8 L 0 1).2.1 a k = am_get w8 a k := fun a k h2 => if_neg h2
  have t78 : ∀ a k, a < L + 23 → ¬ (a = L ∧ (k = 0 ∨ k = 8 ∨ k = 9)) → (am_put w8 L 0 1).2.1 a k = am_get w6 a k := fun a k h1 h2 => (o9 a k (by omega)).trans ((o8 a k (by omega) (by omega)).trans (o7 a k (by omega) (by omega)))
  have t6 : ∀ a k, a < L + 22 → ¬ (a = L ∧ (k = 0 ∨ k = 7 ∨ k = 8 ∨ k = 9)) → (am_put w8 L 0 1).2.1 a k = am_get w5 a k := fun a k h1 h2 => (t78 a k (by omega) (by omega)).trans (o6 a k (by omega) (by omega))
  have t5 : ∀ a k, a < L + 14 → ¬ (a = L ∧ (k = 0 ∨ k = 6 ∨ k = 7 ∨ k = 8 ∨ k = 9)) → (am_put w8 L 0 1).2.1 a k = am_get w4 a k := fun a k h1 h2 => (t6 a k (by omega) (by omega)).trans (o5 a k (by omega) (by omega))
  have t4 : ∀ a k, a < L + 10 → ¬ (a = L ∧ (k = 0 ∨ k = 5 ∨ k = 6 ∨ k = 7 ∨ k = 8 ∨ k = 9)) → (am_put w8 L 0 1).2.1 a k = am_get w3 a k := fun a k h1 h2 => (t5 a k (by omega) (by omega)).trans (o4 a k (by omega) (by omega))
  have t3 : ∀ a k, a < L + 6 → ¬ (a = L ∧ (k = 0 ∨ k = 4 ∨ k = 5 ∨ k = 6 ∨ k = 7 ∨ k = 8 ∨ k = 9)) → (am_put w8 L 0 1).2.1 a k = am_get w2 a k := fun a k h1 h2 => (t4 a k (by omega) (by omega)).trans (o3 a k (by omega) (by omega))
  have t2 : ∀ a k, a < L + 2 → ¬ (a = L ∧ (k = 0 ∨ k = 3 ∨ k = 4 ∨ k = 5 ∨ k = 6 ∨ k = 7 ∨ k = 8 ∨ k = 9)) → (am_put w8 L 0 1).2.1 a k = am_get w1 a k := fun a k h1 h2 => (t3 a k (by omega) (by omega)).trans (o2 a k (by omega) (by omega))
  have sP : ([(1, 15)] ++ [(100, 120)] ++ ((104, 3) :: List.replicate 3 (100, 120)) ++ ((104, 3) :: List.replicate 3 (100, 120)) ++ ((104, 3) :: List.replicate 3 (100, 120)) ++ ((104, 7) :: List.replicate 7 (100, 1320)) ++ [(100, 7320)] ++ [(100, 3)] ++ [(100, 3)] : List (Nat × Nat)) = sh_P := by decide
  rw [sP] at m8
  refine ⟨_, q, ⟨m8.1, m8.2.1, fun a ha => funext fun k => (o9 a k (by omega)).trans (congrFun (m8.2.2 a ha) k)⟩, ?_⟩
  refine ⟨gp_same, ?_, ?_, ?_, ?_, ?_, ?_, ?_, ?_, fun j hj => ⟨?_, ?_, ?_⟩, fun j hj => ?_⟩
  · rw [t2 L 1 (by omega) (by omega), e1]; exact gp_same
  · rw [t3 L 3 (by omega) (by omega), e2]; exact gp_same
  · rw [t4 L 4 (by omega) (by omega), e3]; exact gp_same
  · rw [t5 L 5 (by omega) (by omega), e4]; exact gp_same
  · rw [t6 L 6 (by omega) (by omega), e5]; exact gp_same
  · rw [t78 L 7 (by omega) (by omega), e6]; exact gp_same
  · rw [o9 L 8 (by omega), o8 L 8 (by omega) (by omega), e7]; exact gp_same
  · rw [o9 L 9 (by omega), e8]; exact gp_same
  · rw [t3 (L + 2) j (by omega) (by omega), e2, gp_cell (show L + 2 ≠ L by omega)]
    have := ng_s (ω := w1) (n := 3) (k := 120) hj
    rw [L2] at this
    rw [this]
  · rw [t4 (L + 6) j (by omega) (by omega), e3, gp_cell (show L + 6 ≠ L by omega)]
    have := ng_s (ω := w2) (n := 3) (k := 120) hj
    rw [L6] at this
    rw [this]
  · rw [t5 (L + 10) j (by omega) (by omega), e4, gp_cell (show L + 10 ≠ L by omega)]
    have := ng_s (ω := w3) (n := 3) (k := 120) hj
    rw [L10] at this
    rw [this]
  · rw [t6 (L + 14) j (by omega) (by omega), e5, gp_cell (show L + 14 ≠ L by omega)]
    have := ng_s (ω := w4) (n := 7) (k := 1320) hj
    rw [L14] at this
    rw [this]
end K48
