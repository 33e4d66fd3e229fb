/-! ===== what is made at first: both ===== -/
section K77
theorem put_1 {ω : am_W} {a k : Nat} {v : Int} : (am_put ω a k v).1 = ω.1 := rfl
theorem new_1 {ω : am_W} {q : Nat × Nat} {d : Nat → Int} : (am_new ω q d).1 = ω.1 ++ [q] := rfl
theorem wP_1 {ω : am_W} : (wP ω).1 = ω.1 ++ ((3, 7) :: (100, 250) :: sh_W) := by
  show (wS _).1 = _
  rw [wS_1]
  show ((ω.1 ++ [(3, 7)]) ++ [(100, 250)]) ++ sh_W = _
  simp
theorem wP_at {ω : am_W} {l : Nat} {q : Nat × Nat} (h : ω.1[l]? = some q) : (wP ω).1[l]? = some q := by
  rw [wP_1, List.getElem?_append_left (List.getElem?_eq_some_iff.mp h).1]
  exact h
/-- the class's worlds, one after another -/
def u0 (ω : am_W) : am_W := am_new ω (6, 10) (am_d0 6)
def u1 (ω : am_W) : am_W := am_put (wS (u0 ω)) 0 0 ((u0 ω).1.length : Int)
def u2 (ω : am_W) : am_W := am_put (wS (u1 ω)) 0 1 ((u1 ω).1.length : Int)
def u3 (ω : am_W) : am_W := am_put (wP (u2 ω)) 0 3 ((u2 ω).1.length : Int)
def u4 (ω : am_W) : am_W := am_put (am_new (u3 ω) (103, 8) (fun _ => -1)) 0 4 ((u3 ω).1.length : Int)
def u5 (ω : am_W) : am_W := am_put (am_new (u4 ω) (100, 5) (fun _ => 0)) 0 5 ((u4 ω).1.length : Int)
def u6 (ω : am_W) : am_W := am_put (am_new (u5 ω) (4, 5) (am_d0 4)) 0 6 ((u5 ω).1.length : Int)
def u7 (ω : am_W) : am_W := am_put (am_new (u6 ω) (4, 5) (am_d0 4)) 0 7 ((u6 ω).1.length : Int)
def u8 (ω : am_W) : am_W := wL 8 (u7 ω)
section CL
variable {ω : am_W}
theorem u_1 (h : ω.1 = []) : (u0 ω).1 = [(6, 10)] ∧ (u1 ω).1 = (6, 10) :: sh_W ∧ (u2 ω).1 = ((6, 10) :: sh_W) ++ sh_W ∧ (u3 ω).1 = (((6, 10) :: sh_W) ++ sh_W) ++ ((3, 7) :: (100, 250) :: sh_W) := by
  have a0 : (u0 ω).1 = [(6, 10)] := by unfold u0; rw [new_1, h]; rfl
  have a1 : (u1 ω).1 = (6, 10) :: sh_W := by unfold u1; rw [put_1, wS_1, a0]; rfl
  have a2 : (u2 ω).1 = ((6, 10) :: sh_W) ++ sh_W := by unfold u2; rw [put_1, wS_1, a1]
  have a3 : (u3 ω).1 = (((6, 10) :: sh_W) ++ sh_W) ++ ((3, 7) :: (100, 250) :: sh_W) := by unfold u3; rw [put_1, wP_1, a2]
  exact ⟨a0, a1, a2, a3⟩
theorem c_ini (h : ω.1 = []) : am_run (83, 0) 0 ([some (.inr (.inr 0)), none], [], (u0 ω)) = some (none, u8 ω) := by
  obtain ⟨a0, a1, a2, a3⟩ := u_1 h
  have g0 : (u0 ω).1[0]? = some (6, 10) := by rw [a0]; rfl
  have g1 : (u1 ω).1[0]? = some (6, 10) := by unfold u1; rw [put_1]; exact wS_at g0
  have g2 : (u2 ω).1[0]? = some (6, 10) := by unfold u2; rw [put_1]; exact wS_at g1
  have g3 : (u3 ω).1[0]? = some (6, 10) := by unfold u3; rw [put_1]; exact wP_at g2
  have g4 : (u4 ω).1[0]? = some (6, 10) := by unfold u4; rw [put_1]; exact nw_at g3
  have g5 : (u5 ω).1[0]? = some (6, 10) := by unfold u5; rw [put_1]; exact nw_at g4
  have g6 : (u6 ω).1[0]? = some (6, 10) := by unfold u6; rw [put_1]; exact nw_at g5
  have g7 : (u7 ω).1[0]? = some (6, 10) := by unfold u7; rw [put_1]; exact nw_at g6
  have l3 : (u3 ω).1.length = 33 := by rw [a3]; rfl
  have l4 : (u4 ω).1.length = 34 := by unfold u4; rw [put_1, new_1, List.length_append, l3]; rfl
  have l5 : (u5 ω).1.length = 35 := by unfold u5; rw [put_1, new_1, List.length_append, l4]; rfl
  have l6 : (u6 ω).1.length = 36 := by unfold u6; rw [put_1, new_1, List.length_append, l5]; rfl
  have l7 : (u7 ω).1.length = 37 := by unfold u7; rw [put_1, new_1, List.length_append, l6]; rfl
  have r4 : (u4 ω).1[33]? = some (103, 8) := by unfold u4; rw [put_1, new_1, ← l3]; simp
  have r5 : (u5 ω).1[33]? = some (103, 8) := by unfold u5; rw [put_1]; exact nw_at r4
  have r6 : (u6 ω).1[33]? = some (103, 8) := by unfold u6; rw [put_1]; exact nw_at r5
  have r7 : (u7 ω).1[33]? = some (103, 8) := by unfold u7; rw [put_1]; exact nw_at r6
  have f7 : am_get (u7 ω) 0 4 = 33 := by
    have e4 : am_get (u4 ω) 0 4 = 33 := by unfold u4; rw [gp_same, l3]; rfl
    have e5 : am_get (u5 ω) 0 4 = 33 := by unfold u5; exact (gp_place (by omega)).trans ((congrFun (nw_o (by omega)) 4).trans e4)
    have e6 : am_get (u6 ω) 0 4 = 33 := by unfold u6; exact (gp_place (by omega)).trans ((congrFun (nw_o (by omega)) 4).trans e5)
    unfold u7
    exact (gp_place (by omega)).trans ((congrFun (nw_o (by omega)) 4).trans e6)
  have z0 : (0 : Int).toNat = 0 := rfl
  rw [pX6_init_0 0 _ (by omega), if_pos nw_is, bv_v c_wS, if_pos (show am_is (wS (u0 ω)) 0 (6, 10) = true from at_is (a := 0) (wS_at g0)), z0]
  show am_run (83, 0) 15 ([some (.inr (.inr 0)), none], [], (u1 ω)) = _
  rw [pX6_init_15, if_pos nw_is, bv_v c_wS, if_pos (show am_is (wS (u1 ω)) 0 (6, 10) = true from at_is (a := 0) (wS_at g1)), z0]
  show am_run (83, 0) 26 ([some (.inr (.inr 0)), none], [], (u2 ω)) = _
  rw [pX6_init_26, if_pos nw_is, bv_v c_wP, if_pos (show am_is (wP (u2 ω)) 0 (6, 10) = true from at_is (a := 0) (wP_at g2)), z0]
  show am_run (83, 0) 37 ([some (.inr (.inr 0)), none], [], (u3 ω)) = _
  rw [pX6_init_37, if_pos (show am_is (am_new (u3 ω) (103, 8) (fun _ => -1)) 0 (6, 10) = true from at_is (a := 0) (nw_at g3)), z0]
  show am_run (83, 0) 46 ([some (.inr (.inr 0)), none], [], (u4 ω)) = _
  rw [pX6_init_46, if_pos (show am_is (am_new (u4 ω) (100, 5) (fun _ => 0)) 0 (6, 10) = true from at_is (a := 0) (nw_at g4)), z0]
  show am_run (83, 0) 53 ([some (.inr (.inr 0)), none], [], (u5 ω)) = _
  rw [pX6_init_53, if_pos nw_is, pX4_init_0 _ _ (by omega), bv_v rfl, if_pos (show am_is (am_new (u5 ω) (4, 5) (am_d0 4)) 0 (6, 10) = true from at_is (a := 0) (nw_at g5)), z0]
  show am_run (83, 0) 64 ([some (.inr (.inr 0)), none], [], (u6 ω)) = _
  rw [pX6_init_64, if_pos nw_is, pX4_init_0 _ _ (by omega), bv_v rfl, if_pos (show am_is (am_new (u6 ω) (4, 5) (am_d0 4)) 0 (6, 10) = true from at_is (a := 0) (nw_at g6)), z0]
  show am_run (83, 0) 75 ([some (.inr (.inr 0)), none], [], (u7 ω)) = _
  rw [pX6_init_75]
  exact c_wL 8 0 (by omega) (u7 ω) g7 r7 f7 (by omega)
end CL
end K77
