/-! ===== world ===== -/
section K114
variable {ω : am_W}
theorem kpU_43 {r : Nat} : kpU ω r 42 = am_get ω 53 3 ∧ kpU ω r 43 = am_get ω 53 6 ∧ kpU ω r 44 = am_get ω 53 12 ∧ kpU ω r 45 = am_get ω 53 13 ∧ kpU ω r 46 = am_get ω 53 14 := ⟨rfl, rfl, rfl, rfl, rfl⟩
theorem k_world (h : Inv ω) : Pair 98 179 [some (.inr (.inr 0)), none] [some (.inr (.inr 53)), none, none] ω := by
  have h0 := h.1
  obtain ⟨i1, i2, i3⟩ := h.2.2.2.1
  have i1' : am_get ω 53 15 = am_get ω 21 1 := i1
  have i2' : 0 ≤ am_get ω 21 1 ∧ am_get ω 21 1 ≤ 250 := i2
  obtain ⟨n, hn⟩ : ∃ n : Nat, am_get ω 21 1 = (n : Int) := ⟨(am_get ω 21 1).toNat, by omega⟩
  obtain ⟨L, hL⟩ : ∃ L, L = am_get ω 22 := ⟨_, rfl⟩
  have n250 : n ≤ 250 := by omega
  -- the class begins
  obtain ⟨ωa, wa⟩ : ∃ w, w = becF ω 23 1 := ⟨_, rfl⟩
  have Da : Dc ω ωa := by rw [wa]; exact becF_dc h0 (by omega)
  have Ba := h0.dc Da
  have oa : ∀ a k, ¬ (23 ≤ a ∧ a ≤ 32) → am_get ωa a k = am_get ω a k := fun a k z => by rw [wa]; exact becF_o (by omega)
  have f1 := f21_put Ba (k := 6) (v := -1) (by omega)
  have f2 := f21_put (Ba.dc f1.1) (k := 5) (v := 0) (by omega)
  obtain ⟨ωb, wb⟩ : ∃ w, w = am_put (am_put ωa 21 6 (-1)) 21 5 0 := ⟨_, rfl⟩
  have fab : F21 ωa ωb := by rw [wb]; exact f1.tr f2
  have Bb := Ba.dc fab.1
  have b5 : am_get ωb 21 5 = ((0 : Nat) : Int) := by rw [wb]; exact gp_same
  have b6 : am_get ωb 21 6 = -1 := by rw [wb]; exact (gp_place (by omega)).trans gp_same
  have CTb : CT ωb L n := ⟨Bb, n250, ((fab.2 _ _ (by omega)).trans (oa _ _ (by omega))).trans hn, fun j hj => ((fab.2 _ _ (by omega)).trans (oa _ _ (by omega))).trans (by rw [hL])⟩
  obtain ⟨ωc, s, b, e, rt, T, CTc, c3, c4, c5, c6, fbc⟩ := c_take CTb b5 (Nat.zero_le _)
  have C : CS ωc L n s b e (-1) := ⟨CTc, c3, c4, c5, c6.trans b6⟩
  have fac := fab.tr fbc
  have ec : ∀ a k, 23 ≤ a → a ≤ 32 → am_get ωc a k = am_get (becF ω 23 1) a k := fun a k z1 z2 => (fac.2 a k (by omega)).trans (by rw [wa])
  have oc : ∀ a k, ¬ (a = 21 ∧ 3 ≤ k) → ¬ (23 ≤ a ∧ a ≤ 32) → am_get ωc a k = am_get ω a k := fun a k z1 z2 => (fac.2 a k z1).trans (oa a k z2)
  have qr := pX3_read_0 21 1 ω (i_21 h0) (by rw [show (21 : Int).toNat = 21 from rfl, f_21_2 h0]; exact i_23 h0)
  have bec := c_become_23_1 h0
  rw [← wa] at bec
  rw [show (21 : Int).toNat = 21 from rfl, f_21_2 h0, bv_v bec, if_pos (i_21 Ba), ← wb, bv_v rt] at qr
  -- both go on, from any world in which the model's sky and tape are as they were
  have both : ∀ ωm : am_W, Bs ωm → (∀ a k, (57 ≤ a ∧ a ≤ 64) ∨ (a = 53 ∧ k ≤ 15) → am_get ωm a k = am_get ω a k) → am_get ωm 53 17 = ((0 : Nat) : Int) → _ := fun ωm Bm em e17 => by
    have sd := sd_0 (ωm := ωm) h (fun a k z => em a k (by omega)) ec
    exact w_loop (n + 1) 0 s b e 0 ωc ωm (by omega) C ⟨Bm, n250, ((em 53 15 (by omega)).trans i1').trans hn, fun j hj => (em 64 j (by omega)).trans (by rw [hL]; exact i3 j (by omega))⟩ e17 T sd.1 sd.2 (Nat.zero_le _)
  have D17 : Dc ω (am_put ω 53 17 0) := (f53_put h0 (k := 17) (v := 0) (by omega)).1
  have first := both (am_put ω 53 17 0) (h0.dc D17) (fun a k z => if_neg (by omega)) gp_same
  have p1 := pX6_world_0 0 ω (i_0 h0) (by rw [show (0 : Int).toNat = 0 from rfl, f_0_3 h0]; exact i_21 h0)
  rw [show (0 : Int).toNat = 0 from rfl, f_0_3 h0, f_0_0 h0] at p1
  obtain ⟨r, ωd, rd, fcd, kd⟩ : ∃ (r : Int) (ωd : am_W), am_run (34, 0) 24 ([some (.inr (.inr 21)), some (.inr (.inr 1)), some (.inl (((0 : Nat) : Int)))], [], ωc) = some (some (.inl r), ωd) ∧ Fc ωc ωd ∧ (am_get ωd 21 6 = -1 ∨ ∃ f : Nat, am_get ωd 21 6 = (f : Int)) := by
    rcases first with ⟨r, ωc', ωm', y1, y2, y3, y4, y5, y6, y7, y8⟩ | ⟨f, r, k', ωc', ωm', y1, y2, y3, y4, y5, y6⟩
    · exact ⟨r, ωc', y1, y7, Or.inl y2⟩
    · exact ⟨r, ωc', y1, y5, Or.inr ⟨f, y2⟩⟩
  clear first
  have Bc := C.1.1
  have Bd := Bc.dc fcd.1
  have Dd : Dc ω ωd := (Da.tr fac.1).tr fcd.1
  have od : ∀ a k, ¬ (a = 21 ∧ 3 ≤ k) → ¬ (23 ≤ a ∧ a ≤ 32) → am_get ωd a k = am_get ω a k := fun a k z1 z2 => (fcd.2 a k z1 z2).trans (oc a k z1 z2)
  have qr' : am_run (34, 0) 0 ([some (.inr (.inr 21)), some (.inr (.inr 1)), none], [], ω) = some (some (.inl r), ωd) := qr.trans rd
  obtain ⟨ωe, we⟩ : ∃ w, w = am_put ωd 21 1 0 := ⟨_, rfl⟩
  have De : Dc ωd ωe := by rw [we]; exact Dc.put (am_rp_at (bs_sh Bd (a := 21) rfl))
  have Be := Bd.dc De
  have e6 : am_get ωe 21 6 = am_get ωd 21 6 := by rw [we]; exact gp_place (by omega)
  have e1 : am_get ωe 21 1 = 0 := by rw [we]; exact gp_same
  have oe : ∀ a k, ¬ (a = 21 ∧ (k = 1 ∨ 3 ≤ k)) → ¬ (23 ≤ a ∧ a ≤ 32) → am_get ωe a k = am_get ω a k := fun a k z1 z2 => by rw [we]; exact (show am_get (am_put ωd 21 1 0) a k = am_get ωd a k from if_neg (by omega)).trans (od a k (by omega) z2)
  rw [bi_v qr', if_pos (i_0 Bd), f_0_3 Bd, if_pos (i_21 Bd), show (21 : Int).toNat = 21 from rfl, ← we, f_0_3 Be, if_pos (i_21 Be), show (21 : Int).toNat = 21 from rfl, e6] at p1
  have inj : ∀ (r2 : Int) (ω2 : am_W), am_run (34, 0) 24 ([some (.inr (.inr 21)), some (.inr (.inr 1)), some (.inl (((0 : Nat) : Int)))], [], ωc) = some (some (.inl r2), ω2) → r2 = r ∧ ω2 = ωd := fun r2 ω2 z => by
    rw [rd] at z
    injection z with z
    injection z with z1 z2
    injection z1 with z1
    injection z1 with z1
    exact ⟨z1.symm, z2.symm⟩
  have q3 : am_get ωc 23 3 = am_get ω 1 3 := (ec 23 3 (by omega) (by omega)).trans (becF_W (by omega))
  rcases kd with kd | ⟨f, kd⟩
  · -- all is told
    have bec2 := c_become_1_23 Be
    rw [kd, if_pos rfl, f_0_0 Be, if_pos (i_1 Be), f_21_2 Be, bv_v bec2] at p1
    obtain ⟨ωF, wF⟩ : ∃ w, w = becF ωe 1 23 := ⟨_, rfl⟩
    rw [← wF] at p1
    have DF : Dc ωe ωF := by rw [wF]; exact becF_dc Be (by omega)
    have BF := Be.dc DF
    have oF : ∀ a k, ¬ (1 ≤ a ∧ a ≤ 10) → am_get ωF a k = am_get ωe a k := fun a k z => by rw [wF]; exact becF_o (by omega)
    have D0 : Dc ωF (setV ωF 67 (kpU ωF 67)) := setA_dc (bs_sh BF (a := 67) rfl) (by omega)
    have B0 := BF.dc D0
    obtain ⟨ω0, w0⟩ : ∃ w, w = am_put (setV ωF 67 (kpU ωF 67)) 53 17 0 := ⟨_, rfl⟩
    have D1 : Dc (setV ωF 67 (kpU ωF 67)) ω0 := by rw [w0]; exact (f53_put B0 (k := 17) (v := 0) (by omega)).1
    have B1 := B0.dc D1
    have o0 : ∀ a k, a ≠ 67 → ¬ (a = 53 ∧ k = 17) → am_get ω0 a k = am_get ωF a k := fun a k z1 z2 => by rw [w0]; exact (show am_get (am_put (setV ωF 67 (kpU ωF 67)) 53 17 0) a k = am_get (setV ωF 67 (kpU ωF 67)) a k from if_neg z2).trans (congrFun (setV_o z1) k)
    have x17 : am_get ω0 53 17 = ((0 : Nat) : Int) := by rw [w0]; exact gp_same
    have p2 := pX7_world_0 53 ωF (i_53 BF)
    rw [show (53 : Int).toNat = 53 from rfl, f_53_24 BF, bv_v (m_keep_67 BF), if_pos (i_53 B0), ← w0] at p2
    rcases both ω0 B1 (fun a k z => (o0 a k (by omega) (by omega)).trans ((oF a k (by omega)).trans (oe a k (by omega) (by omega)))) x17 with ⟨r2, ωc', ωm', y1, y2, y3, y4, y5, y6, y7, y8⟩ | ⟨f, r2, k', ωc', ωm', y1, y2, y3, y4, y5, y6⟩
    · obtain ⟨rfl, rfl⟩ := inj r2 ωc' y1
      have Bm' := B1.dc y8.1
      obtain ⟨ωZ, wZ⟩ : ∃ w, w = am_put ωm' 53 15 0 := ⟨_, rfl⟩
      have DZ : Dc ωm' ωZ := by rw [wZ]; exact Dc.put (am_rp_at (bs_sh Bm' (a := 53) rfl))
      rw [← wZ] at y3
      have oZ : ∀ a k, ¬ (a = 53 ∧ k = 15) → am_get ωZ a k = am_get ωm' a k := fun a k z => by rw [wZ]; exact if_neg z
      have z15 : am_get ωZ 53 15 = 0 := by rw [wZ]; exact gp_same
      have lo : ∀ a k, a < 53 → am_get ωZ a k = am_get ωF a k := fun a k z => (oZ a k (by omega)).trans ((y8.2 a k (by omega) (by omega)).trans (o0 a k (by omega) (by omega)))
      have ed : ∀ a k, ¬ (a = 21 ∧ k = 1) → am_get ωe a k = am_get ωc' a k := fun a k z => by rw [we]; exact if_neg z
      have zW : ∀ k, k = 0 ∨ k = 3 ∨ k = 5 ∨ k = 6 ∨ k = 7 → am_get ωZ 1 k = am_get ωc' 23 k := fun k hk => (lo 1 k (by omega)).trans (by rw [wF, becF_W hk]; exact ed _ _ (by omega))
      have zT : ∀ j, j < 6 → am_get ωZ 2 j = am_get ωc' 24 j := fun j hj => (lo 2 j (by omega)).trans (by rw [wF]; exact (becF_T (d := 1) (s := 23) hj).trans (ed _ _ (by omega)))
      have zC : ∀ j, j < 5 → am_get ωZ 3 j = am_get ωc' 25 j := fun j hj => (lo 3 j (by omega)).trans (by rw [wF]; exact (becF_C (d := 1) (s := 23) hj).trans (ed _ _ (by omega)))
      have zV : ∀ i, i < 6 → ∀ f, f < 5 → am_get ωZ (1 + 4 + i) f = am_get ωc' (23 + 4 + i) f := fun i hi f hf => (lo _ f (by omega)).trans (by rw [wF]; exact (becF_V (d := 1) (s := 23) hi hf).trans (ed _ _ (by omega)))
      have eq : ∀ a k, ¬ ((1 ≤ a ∧ a ≤ 10) ∨ (a = 21 ∧ (k = 1 ∨ 3 ≤ k)) ∨ (23 ≤ a ∧ a ≤ 32) ∨ (57 ≤ a ∧ a ≤ 63) ∨ a = 67 ∨ (a = 53 ∧ (k = 3 ∨ k = 6 ∨ k = 12 ∨ k = 13 ∨ k = 14 ∨ k = 15 ∨ (17 ≤ k ∧ k ≤ 20)))) → am_get ωZ a k = am_get ω a k := fun a k z => (oZ a k (by omega)).trans ((y8.2 a k (by omega) (by omega)).trans ((o0 a k (by omega) (by omega)).trans ((oF a k (by omega)).trans (oe a k (by omega) (by omega)))))
      have DD : Dc ω ωZ := ((((Dd.tr De).tr DF).tr D0).tr D1).tr (y8.1.tr DZ)
      refine ⟨_, _, _, p1, BF, (Dd.tr De).2.1.symm ▸ ((Dd.tr De).tr DF).2.1, p2.trans y3, DD.2.1, inv_kp _ h DD eq (Or.inr ?_) (Or.inr ?_) (Or.inr ?_) (Or.inr ?_) (Or.inl (fun a k s b => by unfold S_ref at s; omega)) (Or.inl (fun a k s b => by unfold S_img at s; omega))⟩
      · obtain ⟨u1, u2, u3, u4, u5, u6, u7, u8⟩ := y4
        have e53 : ∀ k, k ≠ 15 → am_get ωZ 53 k = am_get ωm' 53 k := fun k hk => oZ 53 k (by omega)
        refine ⟨fun i hi f hf => ?_, fun j hj => ?_, fun j hj => ?_, (e53 3 (by omega)).trans (u4.trans (zW 0 (by omega)).symm), (e53 6 (by omega)).trans (u5.trans (zW 3 (by omega)).symm), (e53 12 (by omega)).trans (u6.trans (zW 5 (by omega)).symm), (e53 13 (by omega)).trans (u7.trans (zW 6 (by omega)).symm), (e53 14 (by omega)).trans (u8.trans (zW 7 (by omega)).symm)⟩
        · have := zV i hi f hf
          rw [show 1 + 4 + i = 5 + i by omega, show 23 + 4 + i = 27 + i by omega] at this
          exact (oZ _ _ (by omega)).trans ((u1 i hi f hf).trans this.symm)
        · exact (oZ _ _ (by omega)).trans ((u2 j hj).trans (zT j hj).symm)
        · exact (oZ _ _ (by omega)).trans ((u3 j hj).trans (zC j hj).symm)
      · exact osky_cp (m := ωc'.2.1) (w := 23) (zW 0 (by omega)) (zW 3 (by omega)) (zW 6 (by omega)) zT zC zV y5
      · have t21 : am_get ωZ 21 1 = 0 := (lo 21 1 (by omega)).trans ((oF 21 1 (by omega)).trans e1)
        refine ⟨z15.trans t21.symm, ?_, fun j hj => ?_⟩
        · show 0 ≤ am_get ωZ 21 1 ∧ am_get ωZ 21 1 ≤ 250
          rw [t21]; omega
        · exact (eq 64 j (by omega)).trans ((i3 j hj).trans (eq 22 j (by omega)).symm)
      · intro s hs
        obtain ⟨u1, u2, u3⟩ := h.2.2.2.2.1 s hs
        have e54 : ωZ.2.1 54 s = ω.2.1 54 s := eq 54 s (by omega)
        have e37 : ∀ k, ωZ.2.1 (37 + 2 * s) k = ω.2.1 (37 + 2 * s) k := fun k => eq _ k (by omega)
        have e55 : ωZ.2.1 55 s = ω.2.1 55 s := eq 55 s (by omega)
        have z3 : ωZ.2.1 1 3 = am_get ωc' 23 3 := zW 3 (by omega)
        rw [e54, e37 0, e37 1, e55, z3]
        refine ⟨u1, fun j hj => ?_, ?_⟩
        · exact (eq 56 _ (by omega)).trans ((u2 j hj).trans (eq (38 + 2 * s) j (by omega)).symm)
        · rw [q3] at y6
          unfold am_get at y6 ⊢
          rcases u3 with u | u | u
          · exact Or.inl u
          · exact Or.inr (Or.inl u)
          · exact Or.inr (Or.inr ⟨u.1, by omega⟩)
    · obtain ⟨rfl, rfl⟩ := inj r2 ωc' y1
      omega
  · -- there is a fault
    have e6f : am_get ωe 21 6 = (f : Int) := e6.trans kd
    rw [kd, if_neg (by omega), bi_v (c_ref Be (k := 0) (by omega) (c := -2) (by omega))] at p1
    obtain ⟨ωF, wF⟩ : ∃ w, w = rfz ωe 0 := ⟨_, rfl⟩
    rw [← wF] at p1
    have DF : Dc ωe ωF := by rw [wF]; exact rfz_dc Be
    have BF := Be.dc DF
    have oF : ∀ a k, a ≠ 34 → am_get ωF a k = am_get ωe a k := fun a k z => by rw [wF]; exact rfz_get z
    rw [if_pos (i_0 BF), f_0_3 BF, if_pos (i_21 BF), show (21 : Int).toNat = 21 from rfl, oF 21 6 (by omega), e6f] at p1
    have D0 : Dc ωF (setV ωF 67 (kpU ωF 67)) := setA_dc (bs_sh BF (a := 67) rfl) (by omega)
    have B0 := BF.dc D0
    obtain ⟨ω0, w0⟩ : ∃ w, w = am_put (setV ωF 67 (kpU ωF 67)) 53 17 0 := ⟨_, rfl⟩
    have D1 : Dc (setV ωF 67 (kpU ωF 67)) ω0 := by rw [w0]; exact (f53_put B0 (k := 17) (v := 0) (by omega)).1
    have B1 := B0.dc D1
    have o0 : ∀ a k, a ≠ 67 → ¬ (a = 53 ∧ k = 17) → am_get ω0 a k = am_get ωF a k := fun a k z1 z2 => by rw [w0]; exact (show am_get (am_put (setV ωF 67 (kpU ωF 67)) 53 17 0) a k = am_get (setV ωF 67 (kpU ωF 67)) a k from if_neg z2).trans (congrFun (setV_o z1) k)
    have u0 : ∀ k, am_get ω0 67 k = kpU ωF 67 k := fun k => by rw [w0]; exact (gp_cell (by omega)).trans (congrFun setV_get k)
    have x17 : am_get ω0 53 17 = ((0 : Nat) : Int) := by rw [w0]; exact gp_same
    have p2 := pX7_world_0 53 ωF (i_53 BF)
    rw [show (53 : Int).toNat = 53 from rfl, f_53_24 BF, bv_v (m_keep_67 BF), if_pos (i_53 B0), ← w0] at p2
    rcases both ω0 B1 (fun a k z => (o0 a k (by omega) (by omega)).trans ((oF a k (by omega)).trans (oe a k (by omega) (by omega)))) x17 with ⟨r2, ωc', ωm', y1, y2, y3, y4, y5, y6, y7, y8⟩ | ⟨f', r2, k', ωc', ωm', y1, y2, y3, y4, y5, y6⟩
    · obtain ⟨rfl, rfl⟩ := inj r2 ωc' y1
      omega
    · obtain ⟨rfl, rfl⟩ := inj r2 ωc' y1
      have ff : f' = f := by omega
      subst ff
      have Bm' := B1.dc y6.1
      have DA := agF_dc Bm' (r := 67)
      have BA := Bm'.dc DA
      have D2 : Dc (agF ωm' 67) (am_put (agF ωm' 67) 53 15 0) := Dc.put (am_rp_at (bs_sh BA (a := 53) rfl))
      have B2 := BA.dc D2
      have q17 := pX7_world_17 53 k' 0 ωm' (i_53 Bm')
      rw [if_pos rfl, show (53 : Int).toNat = 53 from rfl, f_53_24 Bm', bv_v (m_again_67 Bm'), if_pos (i_53 BA), bi_v (m_no B2 (k := 0) (by omega) (c := -2) (by omega))] at q17
      obtain ⟨ωZ, wZ⟩ : ∃ w, w = noz (am_put (agF ωm' 67) 53 15 0) 0 := ⟨_, rfl⟩
      have DZ : Dc (am_put (agF ωm' 67) 53 15 0) ωZ := by rw [wZ]; exact noz_dc B2
      have BZ := B2.dc DZ
      rw [← wZ, if_pos (i_53 BZ)] at q17
      have oZ : ∀ a k, a ≠ 65 → ¬ (a = 53 ∧ k = 15) → am_get ωZ a k = am_get (agF ωm' 67) a k := fun a k z1 z2 => by rw [wZ]; exact (gp_cell z1).trans (if_neg z2)
      have z15 : am_get ωZ 53 15 = 0 := by rw [wZ]; exact (gp_cell (by omega)).trans gp_same
      have z18 : am_get ωZ 53 18 = (f' : Int) := (oZ _ _ (by omega) (by omega)).trans ((agF_o (by omega) (by omega)).trans y4)
      rw [z18] at q17
      have back : ∀ a k, ¬ (57 ≤ a ∧ a ≤ 63) → ¬ (a = 53 ∧ (k = 3 ∨ k = 6 ∨ k = 12 ∨ k = 13 ∨ k = 14 ∨ k = 15 ∨ (17 ≤ k ∧ k ≤ 20))) → a ≠ 65 → a ≠ 67 → am_get ωZ a k = am_get ωF a k := fun a k z1 z2 z3 z4 => (oZ a k z3 (by omega)).trans ((agF_o z1 (by omega)).trans ((y6.2 a k z1 (by omega)).trans (o0 a k z4 (by omega))))
      have oo : ∀ a k, (57 ≤ a ∧ a ≤ 63) ∨ (a = 53 ∧ k < 15) → am_get ωF a k = am_get ω a k := fun a k z => (oF a k (by omega)).trans (oe a k (by omega) (by omega))
      have m67 : ∀ k, am_get ωm' 67 k = kpU ωF 67 k := fun k => (y6.2 67 k (by omega) (by omega)).trans (u0 k)
      have zM : ∀ a k, 57 ≤ a → a ≤ 63 → k < 6 → am_get ωZ a k = am_get ω a k := fun a k z1 z2 z3 => by
        rw [oZ a k (by omega) (by omega), agF_V ⟨z1, z2⟩ z3, m67, kpU_V (by omega) z3, show 57 + (a - 57) = a by omega]
        exact oo a k (by omega)
      have z53 : am_get ωZ 53 3 = am_get ω 53 3 ∧ am_get ωZ 53 6 = am_get ω 53 6 ∧ am_get ωZ 53 12 = am_get ω 53 12 ∧ am_get ωZ 53 13 = am_get ω 53 13 ∧ am_get ωZ 53 14 = am_get ω 53 14 := by
        obtain ⟨v3, v6, v12, v13, v14⟩ := kpU_43 (ω := ωF) (r := 67)
        refine ⟨?_, ?_, ?_, ?_, ?_⟩
        · rw [oZ _ _ (by omega) (by omega), agF_3, m67, v3]; exact oo _ _ (by omega)
        · rw [oZ _ _ (by omega) (by omega), agF_6, m67, v6]; exact oo _ _ (by omega)
        · rw [oZ _ _ (by omega) (by omega), agF_12, m67, v12]; exact oo _ _ (by omega)
        · rw [oZ _ _ (by omega) (by omega), agF_13, m67, v13]; exact oo _ _ (by omega)
        · rw [oZ _ _ (by omega) (by omega), agF_14, m67, v14]; exact oo _ _ (by omega)
      have eq : ∀ a k, ¬ ((a = 21 ∧ (k = 1 ∨ 3 ≤ k)) ∨ (23 ≤ a ∧ a ≤ 32) ∨ a = 34 ∨ a = 65 ∨ (57 ≤ a ∧ a ≤ 63) ∨ a = 67 ∨ (a = 53 ∧ (k = 3 ∨ k = 6 ∨ k = 12 ∨ k = 13 ∨ k = 14 ∨ k = 15 ∨ (17 ≤ k ∧ k ≤ 20)))) → am_get ωZ a k = am_get ω a k := fun a k z => (back a k (by omega) (by omega) (by omega) (by omega)).trans ((oF a k (by omega)).trans (oe a k (by omega) (by omega)))
      have DD : Dc ω ωZ := ((((Dd.tr De).tr DF).tr D0).tr D1).tr (((y6.1.tr DA).tr D2).tr DZ)
      refine ⟨_, _, _, p1, BF, ((Dd.tr De).tr DF).2.1, p2.trans (y3.trans q17), DD.2.1, inv_kp _ h DD eq (Or.inr ?_) (Or.inl (fun a k s b => by unfold S_osky at s; omega)) (Or.inr ?_) (Or.inl (fun a k s b => by unfold S_shelf at s; omega)) (Or.inr ?_) (Or.inl (fun a k s b => by unfold S_img at s; omega))⟩
      · obtain ⟨u1, u2, u3, u4, u5, u6, u7, u8⟩ := h.2.1
        have lo : ∀ a k, a ≤ 10 → am_get ωZ a k = am_get ω a k := fun a k z => eq a k (by omega)
        exact ⟨fun i hi f hf => (zM _ _ (by omega) (by omega) (by omega)).trans ((u1 i hi f hf).trans (lo _ _ (by omega)).symm), fun j hj => (zM _ _ (by omega) (by omega) (by omega)).trans ((u2 j hj).trans (lo _ _ (by omega)).symm), fun j hj => (zM _ _ (by omega) (by omega) (by omega)).trans ((u3 j hj).trans (lo _ _ (by omega)).symm), z53.1.trans (u4.trans (lo _ _ (by omega)).symm), z53.2.1.trans (u5.trans (lo _ _ (by omega)).symm), z53.2.2.1.trans (u6.trans (lo _ _ (by omega)).symm), z53.2.2.2.1.trans (u7.trans (lo _ _ (by omega)).symm), z53.2.2.2.2.trans (u8.trans (lo _ _ (by omega)).symm)⟩
      · have t21 : am_get ωZ 21 1 = 0 := (back 21 1 (by omega) (by omega) (by omega) (by omega)).trans ((oF 21 1 (by omega)).trans e1)
        refine ⟨z15.trans t21.symm, ?_, fun j hj => ?_⟩
        · show 0 ≤ am_get ωZ 21 1 ∧ am_get ωZ 21 1 ≤ 250
          rw [t21]; omega
        · exact (eq 64 j (by omega)).trans ((i3 j hj).trans (eq 22 j (by omega)).symm)
      · intro j hj
        have q : am_get ω 65 (j + 2) = am_get ω 34 j := h.2.2.2.2.2.1 j hj
        have m34 : am_get ωZ 34 j = am_get ωF 34 j := back 34 j (by omega) (by omega) (by omega) (by omega)
        have n65 : am_get (am_put (agF ωm' 67) 53 15 0) 65 (j + 2) = am_get ω 65 (j + 2) := (gp_cell (by omega)).trans ((agF_o (by omega) (by omega)).trans ((y6.2 _ _ (by omega) (by omega)).trans ((o0 _ _ (by omega) (by omega)).trans ((oF _ _ (by omega)).trans (oe _ _ (by omega) (by omega))))))
        have n34 : am_get ωe 34 j = am_get ω 34 j := oe _ _ (by omega) (by omega)
        show am_get ωZ 65 (j + 2) = am_get ωZ 34 j
        rw [m34, wZ, wF]
        unfold noz rfz
        by_cases y : j = 0
        · subst y
          rw [gp_same, gp_same, n65, n34, q]
        · rw [gp_place (by omega), gp_place y, n65, n34, q]
end K114
