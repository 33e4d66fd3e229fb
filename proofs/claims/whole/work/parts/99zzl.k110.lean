/-! ===== world: time and cost ===== -/
section K110
variable {ωc ωm : am_W} {L : Nat → Int} {n : Nat} {s : Int} {b e : Nat}
theorem t48_f {ω : am_W} (h : Bs ω) (hf : am_get ω 21 6 ≠ -1) {l1 l2 : Int} : am_run (37, 0) 48 ([some (.inr (.inr 21)), some (.inl l1), some (.inl l2), none], [], ω) = some (none, ω) := by
  have Q := pX3_readTime_48 21 l1 l2 none ω (i_21 h)
  rw [bi_v (c_num_f h hf), if_pos (i_21 h), show (21 : Int).toNat = 21 from rfl, if_pos hf] at Q
  exact Q
theorem f6_ne {ω : am_W} {v : Nat} : am_get (am_put ω 21 6 (v : Int)) 21 6 ≠ -1 := by rw [gp_same]; omega
theorem osky_T {m m' : Nat → Nat → Int} {c : Nat} {v : Int} (o : O_sky m 23) (hv : 2 ≤ v ∧ v ≤ 20) (no : ∀ i : Nat, (i : Int) < m 23 3 → m (23 + 4 + i) 1 ≠ (c : Int)) (e1 : m' 24 c = v) (e2 : ∀ a k, ¬ (a = 24 ∧ k = c) → m' a k = m a k) : O_sky m' 23 := by
  obtain ⟨o1, o2, o3, o4, o5, o6⟩ := o
  unfold O_sky
  rw [e2 23 0 (by omega), e2 23 3 (by omega), e2 23 6 (by omega)]
  refine ⟨o1, o2, fun j hj => ?_, fun j hj => ?_, fun i hi => ?_, o6⟩
  · by_cases z : j = c
    · rw [z, show 23 + 1 = 24 from rfl, e1]; exact hv
    · rw [e2 (23 + 1) j (by omega)]; exact o3 j hj
  · rw [e2 (23 + 2) j (by omega)]; exact o4 j hj
  · have ev : m' (23 + 4 + i) = m (23 + 4 + i) := funext fun k => e2 _ _ (by omega)
    obtain ⟨p0, p1, p2, p3, p4⟩ := o5 i hi
    have := no i hi
    rw [ev]
    refine ⟨p0, p1, ?_, p3, p4⟩
    rw [e2 (23 + 1) _ (by omega)]
    exact p2
theorem osky_C {m m' : Nat → Nat → Int} {c : Nat} {v : Int} (o : O_sky m 23) (hv : 1 ≤ v ∧ v ≤ 9) (e1 : m' 25 c = v) (e2 : ∀ a k, ¬ (a = 25 ∧ k = c) → m' a k = m a k) : O_sky m' 23 := by
  obtain ⟨o1, o2, o3, o4, o5, o6⟩ := o
  have eT : m' (23 + 1) = m (23 + 1) := funext fun k => e2 _ _ (by omega)
  unfold O_sky
  rw [e2 23 0 (by omega), e2 23 3 (by omega), e2 23 6 (by omega), eT]
  refine ⟨o1, o2, o3, fun j hj => ?_, fun i hi => ?_, o6⟩
  · by_cases z : j = c
    · rw [z, show 23 + 2 = 25 from rfl, e1]; exact hv
    · rw [e2 (23 + 2) j (by omega)]; exact o4 j hj
  · have ev : m' (23 + 4 + i) = m (23 + 4 + i) := funext fun k => e2 _ _ (by omega)
    rw [ev]
    exact o5 i hi
theorem sd_on (h : SD ωc ωm) (o : O_sky ωc.2.1 23) {c : Int} : fOn (mV ωm) c (mk ωm).toNat = fOn (cV ωc 23) c (ck ωc 23).toNat := by
  have e : mk ωm = ck ωc 23 := h.2.2.2.2.1
  have k6 : 0 ≤ am_get ωc 23 3 ∧ am_get ωc 23 3 ≤ 6 := o.2.1
  have ek : ck ωc 23 = am_get ωc 23 3 := rfl
  rw [e]
  refine fOn_c (fun i hi => ?_)
  have := h.1 i (by omega) 1 (by omega)
  have ev : cV ωc 23 i 1 = am_get ωc (27 + i) 1 := by unfold cV; rw [show ((23 : Int) + 4 + (i : Int)).toNat = 27 + i by omega]
  rw [ev]
  exact this
theorem st_time (h : Pre L n ωc ωm s b e) (w : Wd L s b e 1) : StR L n ωc ωm e (am_run (37, 0) 0 ([some (.inr (.inr 21)), none, none, none], [], ωc)) (am_run (178, 0) 0 ([some (.inr (.inr 53)), none, none, none], [], ωm)) := by
  obtain ⟨h1, h2, h3, h4, h5, h6⟩ := id h
  have B := h1.1.1
  have Bm := h2.1.1
  have n26 : 2 ≤ am_get ωc 23 0 ∧ am_get ωc 23 0 ≤ 6 := h4.1
  have q0 := pX7_statement_0 53 ωm (i_53 Bm)
  rw [bi_v (m_isWord h2 h5 h6 (k := 0) (by omega)), b01_neg (wd_x (by omega) (by omega) (by omega) w), if_pos rfl] at q0
  have Q := pX7_statement_39 53 none none none ωm (i_53 Bm)
  have en : am_get ωm 53 3 = am_get ωc 23 0 := h3.2.2.2.1
  have nw : ∀ _ : Unit, am_w (am_get ωc 23 0 - 1) = am_get ωc 23 0 - 1 := fun _ => am_w_s (by omega) (by omega)
  rw [bi_v (m_isWord h2 h5 h6 (k := 1) (by omega)), b01_pos w, if_neg (by omega), if_pos (i_53 Bm), show (53 : Int).toNat = 53 from rfl, en, nw ()] at Q
  have q := pX3_readTime_0 21 ωc (i_21 B)
  obtain ⟨ωc1, s1, b1, e1, r1, T1, C1, f1⟩ := c_take1 h1 h6
  have B1 := C1.1.1
  have n1 : am_get ωc1 23 0 = am_get ωc 23 0 := f1.2 _ _ (by omega)
  rw [bv_v r1, if_pos (i_21 B1), show (21 : Int).toNat = 21 from rfl, f_21_2 B1, if_pos (i_23 B1), show (23 : Int).toNat = 23 from rfl, n1, nw (), C1.2.2.1] at q
  clear nw
  have le1 : e ≤ e1 := by have := T1.1; have := T1.2.2.2.2.2.1; omega
  rcases num_pair C1 h2.1 h2.2.1 T1 (lo := 0) (hi := am_get ωc 23 0 - 1) (by omega) (by omega) with ⟨v, ωc2, ωm2, s2, b2, e2, v1, v2, rc, rm, T2, C2, M2, v20, f2, fm2⟩ | ⟨ωm2, rc, rm, x18, fm2⟩
  · have B2 := C2.1.1
    have Bm2 := M2.1.1
    have fc := f1.tr f2
    have ec : ∀ a k, 23 ≤ a → a ≤ 32 → am_get ωc2 a k = am_get ωc a k := fun a k z1 z2 => fc.2 a k (by omega)
    have sd := h3.f fc fm2
    have o := osky_f h4 ec
    have k6 : 0 ≤ ck ωc2 23 ∧ ck ωc2 23 ≤ 6 := o.2.1
    have ek : mk ωm2 = ck ωc2 23 := sd.2.2.2.2.1
    have on := sd_on sd o (c := v)
    rw [bi_v rc, if_pos (i_21 B2), C2.2.2.2.2, if_neg (fun z => z rfl), f_21_2 B2, if_pos (i_23 B2), bi_v (c_shipsOn B2 (W := 23) (Or.inr (Or.inr rfl)) k6)] at q
    rw [bi_v rm, if_neg (by omega), if_pos (i_53 Bm2), v20, bi_v (m_those Bm2 (by rw [ek]; exact k6)), on] at Q
    by_cases g : fOn (cV ωc2 23) v (ck ωc2 23).toNat = 0
    · rw [if_pos g] at q
      rw [if_pos g, if_pos (i_53 Bm2)] at Q
      have q48 := pX3_readTime_48 21 (b1 : Int) v none ωc2 (i_21 B2)
      rcases num_pair C2 M2.1 M2.2.1 T2 (lo := 2) (hi := 20) (by omega) (by omega) with ⟨v', ωc3, ωm3, s3, b3, e3, v1', v2', rc3, rm3, T3, C3, M3, v20', f3, fm3⟩ | ⟨ωm3, rc3, rm3, x18, fm3⟩
      · have B3 := C3.1.1
        have Bm3 := M3.1.1
        obtain ⟨c, hcv⟩ : ∃ c : Nat, v = (c : Int) := ⟨v.toNat, by omega⟩
        have c6 : c < 6 := by omega
        rw [bi_v rc3, if_pos (i_21 B3), show (21 : Int).toNat = 21 from rfl, C3.2.2.2.2, if_neg (fun z => z rfl), f_21_2 B3, if_pos (i_23 B3), show (23 : Int).toNat = 23 from rfl, f_23_1 B3, hcv, if_pos (n_24 B3 (by omega) (by omega)), Int.toNat_natCast, show (24 : Int).toNat = 24 from rfl] at q48
        rw [bi_v rm3, if_pos (by omega), if_pos (i_53 Bm3), f_53_4 Bm3, v20, hcv, if_pos (n_57 Bm3 (by omega) (by omega)), v20', Int.toNat_natCast, show (57 : Int).toNat = 57 from rfl] at Q
        rw [hcv] at q
        have dm : Dc ωm3 (am_put ωm3 57 c v') := Dc.put (am_rp_at (bs_sh Bm3 (a := 57) rfl))
        have dc : Dc ωc3 (am_put ωc3 24 c v') := Dc.put (am_rp_at (bs_sh B3 (a := 24) rfl))
        have M4 := M3.1.d dm (fun a k z => if_neg (by omega))
        obtain ⟨ωm5, r5, M5, f5⟩ := m_next1 M4 ((gp_cell (by omega)).trans M3.2.1) T3
        rw [bv_v r5] at Q
        have fc3 := fc.tr f3
        have fm23 := fm2.tr fm3
        have sd3 := sd.f f3 fm3
        have ec3 : ∀ a k, 23 ≤ a → a ≤ 32 → am_get ωc3 a k = am_get ωc2 a k := fun a k z1 z2 => f3.2 a k (by omega)
        have o3 := osky_f o ec3
        obtain ⟨q1, q2, q3, q4, q5, q6, q7, q8⟩ := sd3
        have eo : ∀ a k, ¬ (a = 24 ∧ k = c) → am_get (am_put ωc3 24 c v') a k = am_get ωc3 a k := fun a k z => if_neg z
        have em : ∀ a k, (57 ≤ a ∧ a ≤ 63) ∨ (a = 53 ∧ k < 15) → ¬ (a = 57 ∧ k = c) → am_get ωm5 a k = am_get ωm3 a k := fun a k z y => (f5.2 a k (by omega)).trans (if_neg y)
        left
        refine ⟨_, ωm5, e2, s3, b3, e3, q.trans q48, q0.trans Q, by have := T2.1; have := T2.2.2.2.2.2.1; omega, T3, C3.d dc (fun a k z => eo a k (by omega)), M5, ?_, ?_, ?_, fc3.c.tr ⟨dc, fun a k z1 z2 => eo a k (by omega)⟩, (fm23.m.tr ⟨dm, fun a k z1 z2 => if_neg (by omega)⟩).tr f5.m⟩
        · refine ⟨fun i hi f hf => (em _ _ (by omega) (by omega)).trans ((q1 i hi f hf).trans (eo _ _ (by omega)).symm), fun j hj => ?_, fun j hj => (em _ _ (by omega) (by omega)).trans ((q3 j hj).trans (eo _ _ (by omega)).symm), (em _ _ (by omega) (by omega)).trans (q4.trans (eo _ _ (by omega)).symm), (em _ _ (by omega) (by omega)).trans (q5.trans (eo _ _ (by omega)).symm), (em _ _ (by omega) (by omega)).trans (q6.trans (eo _ _ (by omega)).symm), (em _ _ (by omega) (by omega)).trans (q7.trans (eo _ _ (by omega)).symm), (em _ _ (by omega) (by omega)).trans (q8.trans (eo _ _ (by omega)).symm)⟩
          by_cases z : j = c
          · rw [z, f5.2 57 c (by omega), gp_same, gp_same]
          · exact (em _ _ (by omega) (by omega)).trans ((q2 j hj).trans (eo _ _ (by omega)).symm)
        · refine osky_T (c := c) (v := v') o3 ⟨v1', v2'⟩ (fun i hi => ?_) gp_same (fun a k z => eo a k z)
          have ei : ωc3.2.1 23 3 = ck ωc2 23 := ec3 23 3 (by omega) (by omega)
          have := fOn_0 (by omega) g i (by omega)
          rw [hcv] at this
          have ev : cV ωc2 23 i 1 = am_get ωc2 (27 + i) 1 := by unfold cV; rw [show ((23 : Int) + 4 + (i : Int)).toNat = 27 + i by omega]
          rw [ev] at this
          have e27 : ωc3.2.1 (23 + 4 + i) 1 = am_get ωc2 (27 + i) 1 := by rw [show 23 + 4 + i = 27 + i by omega]; exact ec3 _ _ (by omega) (by omega)
          rw [e27]
          exact this
        · rw [eo 23 3 (by omega), ec3 23 3 (by omega) (by omega), ec 23 3 (by omega) (by omega)]
          exact Int.le_refl _
      · have f6 := f21_put B2 (k := 6) (v := (b2 : Int)) (by omega)
        have B3 := B2.dc f6.1
        rw [bi_v rc3, if_pos (i_21 B3), show (21 : Int).toNat = 21 from rfl, if_pos f6_ne] at q48
        rw [bi_v rm3, if_neg (fun z => z rfl)] at Q
        exact Or.inr ⟨_, _, b2, q.trans q48, q0.trans Q, gp_same, x18, (fc.tr f6).c, (fm2.tr fm3).m⟩
    · rw [if_neg g, if_pos (i_21 B2)] at q
      rw [if_neg g] at Q
      have f6 := f21_put B2 (k := 6) (v := (b1 : Int)) (by omega)
      rw [t48_f (B2.dc f6.1) f6_ne] at q
      exact Or.inr ⟨_, _, b1, q, q0.trans Q, gp_same, M2.2.2.1, (fc.tr f6).c, fm2.m⟩
  · have f6 := f21_put B1 (k := 6) (v := (b1 : Int)) (by omega)
    have B3 := B1.dc f6.1
    rw [bi_v rc, if_pos (i_21 B3), if_pos f6_ne, t48_f B3 f6_ne] at q
    rw [bi_v rm, if_pos rfl] at Q
    exact Or.inr ⟨_, _, b1, q, q0.trans Q, gp_same, x18, (f1.tr f6).c, fm2.m⟩
theorem st_cost (h : Pre L n ωc ωm s b e) (w : Wd L s b e 2) : StR L n ωc ωm e (am_run (38, 0) 0 ([some (.inr (.inr 21)), none, none], [], ωc)) (am_run (178, 0) 0 ([some (.inr (.inr 53)), none, none, none], [], ωm)) := by
  obtain ⟨h1, h2, h3, h4, h5, h6⟩ := id h
  have B := h1.1.1
  have Bm := h2.1.1
  have n26 : 2 ≤ am_get ωc 23 0 ∧ am_get ωc 23 0 ≤ 6 := h4.1
  have q0 := pX7_statement_0 53 ωm (i_53 Bm)
  rw [bi_v (m_isWord h2 h5 h6 (k := 0) (by omega)), b01_neg (wd_x (by omega) (by omega) (by omega) w), if_pos rfl] at q0
  have Q := pX7_statement_39 53 none none none ωm (i_53 Bm)
  have en : am_get ωm 53 3 = am_get ωc 23 0 := h3.2.2.2.1
  have nw : ∀ _ : Unit, am_w (am_get ωc 23 0 - 2) = am_get ωc 23 0 - 2 := fun _ => am_w_s (by omega) (by omega)
  rw [bi_v (m_isWord h2 h5 h6 (k := 1) (by omega)), b01_neg (wd_x (by omega) (by omega) (by omega) w), if_pos rfl, if_pos (i_53 Bm), bi_v (m_isWord h2 h5 h6 (k := 2) (by omega)), b01_pos w, if_neg (by omega), if_pos (i_53 Bm), show (53 : Int).toNat = 53 from rfl, en, nw ()] at Q
  have q := pX3_readCost_0 21 ωc (i_21 B)
  obtain ⟨ωc1, s1, b1, e1, r1, T1, C1, f1⟩ := c_take1 h1 h6
  have B1 := C1.1.1
  have n1 : am_get ωc1 23 0 = am_get ωc 23 0 := f1.2 _ _ (by omega)
  rw [bv_v r1, if_pos (i_21 B1), show (21 : Int).toNat = 21 from rfl, f_21_2 B1, if_pos (i_23 B1), show (23 : Int).toNat = 23 from rfl, n1, nw ()] at q
  clear nw
  have le1 : e ≤ e1 := by have := T1.1; have := T1.2.2.2.2.2.1; omega
  rcases num_pair C1 h2.1 h2.2.1 T1 (lo := 0) (hi := am_get ωc 23 0 - 2) (by omega) (by omega) with ⟨v, ωc2, ωm2, s2, b2, e2, v1, v2, rc, rm, T2, C2, M2, v20, f2, fm2⟩ | ⟨ωm2, rc, rm, x18, fm2⟩
  · have B2 := C2.1.1
    have Bm2 := M2.1.1
    have fc := f1.tr f2
    have ec : ∀ a k, 23 ≤ a → a ≤ 32 → am_get ωc2 a k = am_get ωc a k := fun a k z1 z2 => fc.2 a k (by omega)
    have sd := h3.f fc fm2
    have o := osky_f h4 ec
    rw [bi_v rc, if_pos (i_21 B2)] at q
    rw [bi_v rm, if_pos (by omega), if_pos (i_53 Bm2)] at Q
    rcases num_pair C2 M2.1 M2.2.1 T2 (lo := 1) (hi := 9) (by omega) (by omega) with ⟨v', ωc3, ωm3, s3, b3, e3, v1', v2', rc3, rm3, T3, C3, M3, v20', f3, fm3⟩ | ⟨ωm3, rc3, rm3, x18, fm3⟩
    · have B3 := C3.1.1
      have Bm3 := M3.1.1
      obtain ⟨c, hcv⟩ : ∃ c : Nat, v = (c : Int) := ⟨v.toNat, by omega⟩
      have c6 : c < 5 := by omega
      rw [bi_v rc3, if_pos (i_21 B3), C3.2.2.2.2, if_neg (fun z => z rfl), f_21_2 B3, if_pos (i_23 B3), show (23 : Int).toNat = 23 from rfl, f_23_2 B3, hcv, if_pos (n_25 B3 (by omega) (by omega)), Int.toNat_natCast, show (25 : Int).toNat = 25 from rfl] at q
      rw [bi_v rm3, if_pos (by omega), if_pos (i_53 Bm3), f_53_5 Bm3, v20, hcv, if_pos (n_58 Bm3 (by omega) (by omega)), v20', Int.toNat_natCast, show (58 : Int).toNat = 58 from rfl] at Q
      have dm : Dc ωm3 (am_put ωm3 58 c v') := Dc.put (am_rp_at (bs_sh Bm3 (a := 58) rfl))
      have dc : Dc ωc3 (am_put ωc3 25 c v') := Dc.put (am_rp_at (bs_sh B3 (a := 25) rfl))
      have M4 := M3.1.d dm (fun a k z => if_neg (by omega))
      obtain ⟨ωm5, r5, M5, f5⟩ := m_next1 M4 ((gp_cell (by omega)).trans M3.2.1) T3
      rw [bv_v r5] at Q
      have fc3 := fc.tr f3
      have fm23 := fm2.tr fm3
      have sd3 := sd.f f3 fm3
      have ec3 : ∀ a k, 23 ≤ a → a ≤ 32 → am_get ωc3 a k = am_get ωc2 a k := fun a k z1 z2 => f3.2 a k (by omega)
      have o3 := osky_f o ec3
      obtain ⟨q1, q2, q3, q4, q5, q6, q7, q8⟩ := sd3
      have eo : ∀ a k, ¬ (a = 25 ∧ k = c) → am_get (am_put ωc3 25 c v') a k = am_get ωc3 a k := fun a k z => if_neg z
      have em : ∀ a k, (57 ≤ a ∧ a ≤ 63) ∨ (a = 53 ∧ k < 15) → ¬ (a = 58 ∧ k = c) → am_get ωm5 a k = am_get ωm3 a k := fun a k z y => (f5.2 a k (by omega)).trans (if_neg y)
      left
      refine ⟨_, ωm5, e2, s3, b3, e3, q, q0.trans Q, by have := T2.1; have := T2.2.2.2.2.2.1; omega, T3, C3.d dc (fun a k z => eo a k (by omega)), M5, ?_, osky_C (c := c) (v := v') o3 ⟨v1', v2'⟩ gp_same (fun a k z => eo a k z), ?_, fc3.c.tr ⟨dc, fun a k z1 z2 => eo a k (by omega)⟩, (fm23.m.tr ⟨dm, fun a k z1 z2 => if_neg (by omega)⟩).tr f5.m⟩
      · refine ⟨fun i hi f hf => (em _ _ (by omega) (by omega)).trans ((q1 i hi f hf).trans (eo _ _ (by omega)).symm), fun j hj => (em _ _ (by omega) (by omega)).trans ((q2 j hj).trans (eo _ _ (by omega)).symm), fun j hj => ?_, (em _ _ (by omega) (by omega)).trans (q4.trans (eo _ _ (by omega)).symm), (em _ _ (by omega) (by omega)).trans (q5.trans (eo _ _ (by omega)).symm), (em _ _ (by omega) (by omega)).trans (q6.trans (eo _ _ (by omega)).symm), (em _ _ (by omega) (by omega)).trans (q7.trans (eo _ _ (by omega)).symm), (em _ _ (by omega) (by omega)).trans (q8.trans (eo _ _ (by omega)).symm)⟩
        by_cases z : j = c
        · rw [z, f5.2 58 c (by omega), gp_same, gp_same]
        · exact (em _ _ (by omega) (by omega)).trans ((q3 j hj).trans (eo _ _ (by omega)).symm)
      · rw [eo 23 3 (by omega), ec3 23 3 (by omega) (by omega), ec 23 3 (by omega) (by omega)]
        exact Int.le_refl _
    · have f6 := f21_put B2 (k := 6) (v := (b2 : Int)) (by omega)
      have B3 := B2.dc f6.1
      rw [bi_v rc3, if_pos (i_21 B3), if_pos f6_ne] at q
      rw [bi_v rm3, if_neg (fun z => z rfl)] at Q
      exact Or.inr ⟨_, _, b2, q, q0.trans Q, gp_same, x18, (fc.tr f6).c, (fm2.tr fm3).m⟩
  · have f6 := f21_put B1 (k := 6) (v := (b1 : Int)) (by omega)
    have B3 := B1.dc f6.1
    rw [bi_v rc, if_pos (i_21 B3), bi_v (c_num_f B3 f6_ne), if_pos (i_21 B3), if_pos f6_ne] at q
    rw [bi_v rm, if_neg (fun z => z rfl)] at Q
    exact Or.inr ⟨_, _, b1, q, q0.trans Q, gp_same, x18, (f1.tr f6).c, fm2.m⟩
end K110
