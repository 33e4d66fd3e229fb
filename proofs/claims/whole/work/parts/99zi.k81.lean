/-! ===== the law begins ===== -/
section K81
theorem A_at : (vA (am_new (u8 o0) (7, 30) (am_d0 7)) 53).1[53]? = some (7, 30) ∧ (vA (am_new (u8 o0) (7, 30) (am_d0 7)) 53).1[54]? = some (100, 8) ∧ (vA (am_new (u8 o0) (7, 30) (am_d0 7)) 53).1[57]? = some (100, 6) ∧ (vA (am_new (u8 o0) (7, 30) (am_d0 7)) 53).1[58]? = some (100, 6) := by decide +kernel
theorem A_g : am_get (vA (am_new (u8 o0) (7, 30) (am_d0 7)) 53) 53 0 = 54 ∧ am_get (vA (am_new (u8 o0) (7, 30) (am_d0 7)) 53) 53 4 = 57 ∧ am_get (vA (am_new (u8 o0) (7, 30) (am_d0 7)) 53) 53 5 = 58 := by decide +kernel
theorem ss_get {ω : am_W} {sc : Nat × (Nat → Int)} {a k : Nat} : am_get (sS ω sc) a k = am_get ω a k := rfl
theorem m_ini {sc : Nat × (Nat → Int)} : am_run (147, 0) 0 ([some (.inr (.inr 53)), none], [], (am_new (u8 (sS o0 sc)) (7, 30) (am_d0 7))) = some (none, sS (wF o0) sc) := by
  obtain ⟨a1, a2, a3, a4⟩ := A_at
  obtain ⟨g1, g2, g3⟩ := A_g
  have e : am_new (u8 (sS o0 sc)) (7, 30) (am_d0 7) = sS (am_new (u8 o0) (7, 30) (am_d0 7)) sc := by rw [ss_u8, ss_new]
  have h : (am_new (u8 o0) (7, 30) (am_d0 7)).1[53]? = some (7, 30) := by decide +kernel
  rw [e]
  have q1 := m_iniA (ω := sS (am_new (u8 o0) (7, 30) (am_d0 7)) sc) (L := 53) (by rw [ss_1]; exact h)
  rw [ss_vA] at q1
  obtain ⟨A, hA⟩ : ∃ A, A = vA (am_new (u8 o0) (7, 30) (am_d0 7)) 53 := ⟨_, rfl⟩
  rw [← hA] at q1 a1 a2 a3 a4 g1 g2 g3
  have q2 := m_ini154 (L := 53) 8 0 (by omega) (sS A sc) (by rw [ss_1]; exact a1) (by rw [ss_1]; exact a2) (by rw [ss_get]; exact g1)
  rw [fillR_0] at q2
  have q3 := m_ini180 (L := 53) 6 0 (by omega) (am_put (fillR (sS A sc) (53 + 1) 0 8 (-1)) 53 3 4) (by rw [put_1]; exact a1) (by rw [put_1]; exact a3) (by rw [put_1]; exact a4) ((gp_place (by omega)).trans ((fillR_g (by omega)).trans g2)) ((gp_place (by omega)).trans ((fillR_g (by omega)).trans g3))
  have w : wQ 53 6 (am_put (fillR (sS A sc) (53 + 1) 0 8 (-1)) 53 3 4) = sS (wF o0) sc := by
    rw [ss_fill, ss_put, ss_wQ]
    unfold wF
    rw [hA]
  rw [w] at q3
  exact q1.trans (q2.trans q3)
theorem law_0 {sc : Nat × (Nat → Int)} : am_run (240, 0) 0 ([some (.inr (.inr ((-2)))), none, none, none], [], (sS o0 sc)) = am_run (240, 0) 18 ([some (.inr (.inr ((-2)))), some (.inr (.inr 0)), some (.inr (.inr 53)), some (.inl 0)], [], (sS (wF o0) sc)) := by
  have e0 : (((sS o0 sc).1.length : Nat) : Int) = 0 := rfl
  have e1 : (((u8 (sS o0 sc)).1.length : Nat) : Int) = 53 := by rw [ss_u8, ss_1, u8_len]; rfl
  have r1 : am_run (83, 0) 0 ([some (.inr (.inr 0)), none], [], (am_new (sS o0 sc) (6, 10) (am_d0 6))) = some (none, u8 (sS o0 sc)) := c_ini rfl
  have n0 : am_is (am_new (sS o0 sc) (6, 10) (am_d0 6)) 0 (6, 10) = true := nw_is (ω := sS o0 sc)
  have n1 : am_is (am_new (u8 (sS o0 sc)) (7, 30) (am_d0 7)) 53 (7, 30) = true := by
    have := nw_is (ω := u8 (sS o0 sc)) (q := (7, 30)) (d := am_d0 7)
    rw [e1] at this
    exact this
  rw [pL_law_0, e0, if_pos n0, bv_v r1, e1, if_pos n1, bv_v m_ini]
theorem inv_first {sc : Nat × (Nat → Int)} : Inv (sS (wF o0) sc) := inv_ss inv_0
end K81
