/-! ===== world: ships ===== -/
section K112
variable {ωc ωm : am_W} {L : Nat → Int} {n : Nat} {s : Int} {b e : Nat}
theorem fm_new {ω : am_W} (h : Bs ω) {K : Nat} (hK : K < 6) {k c p d : Int} : Fm ω (newS ω K k c p d) := ⟨newS_dc h, fun a j z1 z2 => newS_o (by omega)⟩
theorem fc_add {ω : am_W} (h : Bs ω) {K : Nat} (hK : K < 6) {k c p d : Int} : Fc ω (addS ω 23 K k c p d) := ⟨addS_dc h (Or.inr (Or.inr rfl)) hK, fun a j z1 z2 => ad_o (by omega)⟩
theorem st_ship (h : Pre L n ωc ωm s b e) (w : Wd L s b e 3) : StR L n ωc ωm e (am_run (39, 0) 0 ([some (.inr (.inr 21)), none, none, none, none], [], ωc)) (am_run (178, 0) 0 ([some (.inr (.inr 53)), none, none, none], [], ωm)) := by
  obtain ⟨h1, h2, h3, h4, h5, h6⟩ := id h
  have B := h1.1.1
  have Bm := h2.1.1
  have n26 : 2 ≤ am_get ωc 23 0 ∧ am_get ωc 23 0 ≤ 6 := h4.1
  have k06 : 0 ≤ am_get ωc 23 3 ∧ am_get ωc 23 3 ≤ 6 := h4.2.1
  have q0 := pX7_statement_0 53 ωm (i_53 Bm)
  rw [bi_v (m_isWord h2 h5 h6 (k := 0) (by omega)), b01_neg (wd_x (by omega) (by omega) (by omega) w), if_pos rfl] at q0
  have sh : am_get ωm 53 6 = am_get ωc 23 3 := h3.2.2.2.2.1
  have fu := pX5_isFull_0 23 ωc (i_23 B)
  rw [show (23 : Int).toNat = 23 from rfl] at fu
  have q := pX3_readShip_0 21 ωc (i_21 B) (by rw [show (21 : Int).toNat = 21 from rfl, f_21_2 B]; exact i_23 B)
  rw [show (21 : Int).toNat = 21 from rfl, f_21_2 B] at q
  by_cases g : am_get ωc 23 3 < 6
  · rw [if_pos g] at fu
    rw [bi_v fu, if_pos rfl, if_pos (i_21 B)] at q
    obtain ⟨K, hK⟩ : ∃ K : Nat, am_get ωc 23 3 = (K : Int) := ⟨(am_get ωc 23 3).toNat, by omega⟩
    have K6 : K < 6 := by omega
    have q39 := pX7_statement_39 53 none none none ωm (i_53 Bm)
    rw [bi_v (m_isWord h2 h5 h6 (k := 1) (by omega)), b01_neg (wd_x (by omega) (by omega) (by omega) w), if_pos rfl, if_pos (i_53 Bm), bi_v (m_isWord h2 h5 h6 (k := 2) (by omega)), b01_neg (wd_x (by omega) (by omega) (by omega) w), if_pos rfl] at q39
    have pre := q0.trans q39
    have Q := pX7_statement_160 53 none none none ωm (i_53 Bm)
    rw [bi_v (m_isWord h2 h5 h6 (k := 5) (by omega)), b01_neg (wd_x (by omega) (by omega) (by omega) w), if_pos rfl, if_pos (i_53 Bm), bi_v (m_isWord h2 h5 h6 (k := 3) (by omega)), b01_pos w, if_neg (by omega), if_pos (i_53 Bm), show (53 : Int).toNat = 53 from rfl, sh, if_neg (by omega)] at Q
    obtain ⟨ωc1, s1, b1, e1, r1, T1, C1, f1⟩ := c_take1 h1 h6
    have B1 := C1.1.1
    rw [bv_v r1, if_pos (i_21 B1)] at q
    have le1 : e ≤ e1 := by have := T1.1; have := T1.2.2.2.2.2.1; omega
    have nw : ∀ _ : Unit, am_w (am_get ωc 23 0 - 1) = am_get ωc 23 0 - 1 := fun _ => am_w_s (by omega) (by omega)
    rcases num_pair C1 h2.1 h2.2.1 T1 (lo := 0) (hi := 5) (by omega) (by omega) with ⟨vk, ωc2, ωm2, s2, b2, e2, vk1, vk2, rc2, rm2, T2, C2, M2, vk20, f2, fm2⟩ | ⟨ωm2, rc2, rm2, x18, fm2⟩
    · have B2 := C2.1.1
      have Bm2 := M2.1.1
      have fc2 := f1.tr f2
      have n2 : am_get ωc2 23 0 = am_get ωc 23 0 := fc2.2 _ _ (by omega)
      have n2m : am_get ωm2 53 3 = am_get ωc 23 0 := (fm2.2 _ _ (by omega)).trans h3.2.2.2.1
      have le2 : e1 ≤ e2 := by have := T2.1; have := T2.2.2.2.2.2.1; omega
      rw [bi_v rc2, if_pos (i_21 B2), f_21_2 B2, if_pos (i_23 B2), show (23 : Int).toNat = 23 from rfl, n2, nw ()] at q
      rw [bi_v rm2, if_pos (by omega), if_pos (i_53 Bm2), n2m, nw (), vk20] at Q
      rcases num_pair C2 M2.1 M2.2.1 T2 (lo := 0) (hi := am_get ωc 23 0 - 1) (by omega) (by omega) with ⟨vc, ωc3, ωm3, s3, b3, e3, vc1, vc2, rc3, rm3, T3, C3, M3, vc20, f3, fm3⟩ | ⟨ωm3, rc3, rm3, x18, fm3⟩
      · have B3 := C3.1.1
        have Bm3 := M3.1.1
        have fc3 := fc2.tr f3
        have fm23 := fm2.tr fm3
        have le3 : e2 ≤ e3 := by have := T3.1; have := T3.2.2.2.2.2.1; omega
        have sd3 := h3.f fc3 fm23
        obtain ⟨c, hcv⟩ : ∃ c : Nat, vc = (c : Int) := ⟨vc.toNat, by omega⟩
        have c6 : c < 6 := by omega
        have n3 : cn ωc3 23 = am_get ωc 23 0 := fc3.2 _ _ (by show ¬ ((23 : Nat) = 21 ∧ _); omega)
        have tT : 2 ≤ am_get ωc 24 c ∧ am_get ωc 24 c ≤ 20 := h4.2.2.1 c c6
        have t3 : cT ωc3 23 c = am_get ωc 24 c := fc3.2 24 c (by omega)
        have ti := c_timeOf B3 (W := 23) (Or.inr (Or.inr rfl)) (c := vc) vc1 (by rw [n3]; omega) (by rw [n3]; omega)
        have tm : am_get ωm3 57 c = am_get ωc 24 c := (sd3.2.1 c c6).trans (fc3.2 24 c (by omega))
        have tw : ∀ _ : Unit, am_w (am_get ωc 24 c - 1) = am_get ωc 24 c - 1 := fun _ => am_w_s (by omega) (by omega)
        rw [hcv, Int.toNat_natCast, t3] at ti
        rw [hcv] at vc1 vc2 rc3 vc20
        rw [bi_v rc3, if_pos (i_21 B3), f_21_2 B3, if_pos (i_23 B3), bi_v ti, if_pos (i_21 B3), tw ()] at q
        rw [bi_v rm3, if_pos (by omega), if_pos (i_53 Bm3), f_53_4 Bm3, vc20, if_pos (n_57 Bm3 (by omega) (by omega)), Int.toNat_natCast, show (57 : Int).toNat = 57 from rfl, tm, tw ()] at Q
        rcases num_pair C3 M3.1 M3.2.1 T3 (lo := 0) (hi := am_get ωc 24 c - 1) (by omega) (by omega) with ⟨vp, ωc4, ωm4, s4, b4, e4, vp1, vp2, rc4, rm4, T4, C4, M4, vp20, f4, fm4⟩ | ⟨ωm4, rc4, rm4, x18, fm4⟩
        · have B4 := C4.1.1
          have Bm4 := M4.1.1
          have fc4 := fc3.tr f4
          have fm234 := fm23.tr fm4
          have sd4 := h3.f fc4 fm234
          have o4 := osky_f h4 (ωc' := ωc4) (fun a k z1 z2 => fc4.2 a k (by omega))
          have k4 : am_get ωc4 23 3 = (K : Int) := (fc4.2 _ _ (by omega)).trans hK
          have km4 : mk ωm4 = (K : Int) := sd4.2.2.2.2.1.trans k4
          have ns := m_newShip Bm4 K6 km4 (k := vk) (c := (c : Int)) (p := vp) (d := 0)
          have fn := fm_new Bm4 K6 (k := vk) (c := (c : Int)) (p := vp) (d := 0)
          obtain ⟨ωm5, w5⟩ : ∃ w, w = newS ωm4 K vk (c : Int) vp 0 := ⟨_, rfl⟩
          rw [← w5] at ns fn
          have Bm5 := Bm4.dc fn.1
          have fno : ∀ a j, ¬ ((59 ≤ a ∧ a ≤ 63 ∧ j = K) ∨ (a = 53 ∧ j = 6)) → am_get ωm5 a j = am_get ωm4 a j := fun a j z => by rw [w5]; exact newS_o z
          have M5 := M4.1.d fn.1 (fun a j z => fno a j (by omega))
          obtain ⟨ωm6, r6, M6, f6⟩ := m_next1 M5 ((fno 53 17 (by omega)).trans M4.2.1) T4
          have be4 := T4.2.2.2.2.2.1
          have en4 := T4.2.2.2.2.2.2.1
          have le4 : e3 ≤ e4 := by have := T4.1; omega
          have Bm6 := M6.1.1
          have em6 : ∀ a j, (57 ≤ a ∧ a ≤ 63) ∨ (a = 53 ∧ j < 15) → ¬ (59 ≤ a ∧ j = K) → ¬ (a = 53 ∧ j = 6) → am_get ωm6 a j = am_get ωm4 a j := fun a j z1 z2 z3 => (f6.2 a j (by omega)).trans (by rw [w5]; exact newS_o (by omega))
          have ev6 : ∀ f, f < 5 → am_get ωm6 (59 + f) K = nv vk (c : Int) vp 0 f := fun f hf => (f6.2 _ _ (by omega)).trans (by rw [w5]; exact newS_v hf)
          have e66 : am_get ωm6 53 6 = (K : Int) + 1 := (f6.2 _ _ (by omega)).trans (by rw [w5]; exact newS_k)
          have hO : ∀ d : Int, 0 ≤ d → d ≤ 99 → O_ship (am_get ωc 23 0) (am_get ωc 24) (nv vk (c : Int) vp d) := fun d d0 d9 => by
            refine ⟨⟨vk1, vk2⟩, ⟨vc1, by show (c : Int) < _; omega⟩, ⟨vp1, ?_⟩, ⟨d0, d9⟩, ⟨Int.le_refl _, by show (0 : Int) ≤ 10; omega⟩⟩
            show vp < am_get ωc 24 ((c : Int)).toNat
            rw [Int.toNat_natCast]
            omega
          rw [bi_v rc4, if_pos (i_21 B4), C4.2.2.2.2, if_neg (fun z => z rfl), bi_v (c_isWord C4 be4 en4 (k := 4) (by omega))] at q
          rw [bi_v rm4, if_pos (by omega), if_pos (i_53 Bm4), vp20, bi_v ns, if_pos (i_53 Bm5), bv_v r6, if_pos (i_53 Bm6), bi_v (m_isWord M6 be4 en4 (k := 4) (by omega))] at Q
          have eO : ∀ ω : am_W, F21 ωc ω → am_get ω 23 0 = am_get ωc 23 0 ∧ am_get ω 24 = am_get ωc 24 := fun ω f => ⟨f.2 _ _ (by omega), funext fun j => f.2 _ _ (by omega)⟩
          by_cases gw : Wd L s4 b4 e4 4
          · rw [b01_pos gw, if_neg (by omega), if_pos (i_21 B4)] at q
            rw [b01_pos gw, if_pos (by omega), if_pos (i_53 Bm6)] at Q
            obtain ⟨ωc5, s5, b5, e5, r5, T5, C5, f5⟩ := c_take1 C4 en4
            have B5 := C5.1.1
            rw [bv_v r5, if_pos (i_21 B5)] at q
            rcases num_pair C5 M6.1 M6.2.1 T5 (lo := 0) (hi := 99) (by omega) (by omega) with ⟨vd, ωc7, ωm7, s7, b7, e7, vd1, vd2, rc7, rm7, T7, C7, M7, vd20, f7, fm7⟩ | ⟨ωm7, rc7, rm7, x18, fm7⟩
            · have B7 := C7.1.1
              have Bm7 := M7.1.1
              have fc7 := (fc4.tr f5).tr f7
              have k7 : ck ωc7 23 = (K : Int) := (fc7.2 23 3 (by omega)).trans hK
              have as := c_addShip B7 (W := 23) (Or.inr (Or.inr rfl)) K6 k7 (k := vk) (c := (c : Int)) (p := vp) (d := vd)
              rw [bi_v rc7, if_pos (i_21 B7), C7.2.2.2.2, if_neg (fun z => z rfl), f_21_2 B7, if_pos (i_23 B7), bi_v as] at q
              rw [bi_v rm7, if_pos (by omega), if_pos (i_53 Bm7), f_53_10 Bm7, if_pos (n_62 Bm7 (by omega) (by omega)), vd20, Int.toNat_natCast, show (62 : Int).toNat = 62 from rfl] at Q
              have dm : Dc ωm7 (am_put ωm7 62 K vd) := Dc.put (am_rp_at (bs_sh Bm7 (a := 62) rfl))
              have eo : ∀ a j, ¬ (a = 62 ∧ j = K) → am_get (am_put ωm7 62 K vd) a j = am_get ωm7 a j := fun a j z => if_neg z
              have M8 := M7.1.d dm (fun a j z => eo a j (by omega))
              obtain ⟨ωm9, r9, M9, f9⟩ := m_next1 M8 ((eo 53 17 (by omega)).trans M7.2.1) T7
              rw [bv_v r9] at Q
              have fa := fc_add B7 K6 (k := vk) (c := (c : Int)) (p := vp) (d := vd)
              have sd7 : SD ωc7 ωm4 := sd4.f (f5.tr f7) F53.rf
              have o7 := osky_f h4 (ωc' := ωc7) (fun a k z1 z2 => fc7.2 a k (by omega))
              have eO7 := eO ωc7 fc7
              left
              refine ⟨_, ωm9, e5, s7, b7, e7, q, pre.trans Q, by have := T5.1; have := T5.2.2.2.2.2.1; omega, T7, C7.d fa.1 (fun a k z => ad_o (by omega)), M9, sd_add sd7 K6 (fun a j z1 z2 z3 => ?_) (fun f hf => ?_) ?_, osky_add o7 K6 k7 (by rw [eO7.1, eO7.2]; exact hO vd vd1 vd2), ?_, fc7.c.tr fa, ((((fm234.m.tr fn).tr f6.m).tr fm7.m).tr ⟨dm, fun a j z1 z2 => eo a j (by omega)⟩).tr f9.m⟩
              · exact (f9.2 a j (by omega)).trans ((eo a j (by omega)).trans ((fm7.2 a j (by omega)).trans (em6 a j z1 z2 z3)))
              · rw [f9.2 _ _ (by omega)]
                by_cases z : f = 3
                · subst z
                  exact gp_same
                · rw [eo _ _ (by omega), fm7.2 _ _ (by omega), ev6 f hf]
                  unfold nv
                  rcases (show f = 0 ∨ f = 1 ∨ f = 2 ∨ f = 4 by omega) with rfl | rfl | rfl | rfl <;> rfl
              · rw [f9.2 _ _ (by omega), eo _ _ (by omega), fm7.2 _ _ (by omega)]
                exact e66
              · rw [ad_k, hK]
                omega
            · have f8 := f21_put B5 (k := 6) (v := (b5 : Int)) (by omega)
              have B8 := B5.dc f8.1
              rw [bi_v rc7, if_pos (i_21 B8), if_pos f6_ne] at q
              rw [bi_v rm7, if_neg (fun z => z rfl)] at Q
              exact Or.inr ⟨_, _, b5, q, pre.trans Q, gp_same, x18, ((fc4.tr f5).tr f8).c, ((fm234.m.tr fn).tr f6.m).tr fm7.m⟩
          · have as := c_addShip B4 (W := 23) (Or.inr (Or.inr rfl)) K6 k4 (k := vk) (c := (c : Int)) (p := vp) (d := 0)
            rw [b01_neg gw, if_pos rfl, if_pos (i_21 B4), C4.2.2.2.2, if_neg (fun z => z rfl), f_21_2 B4, if_pos (i_23 B4), bi_v as] at q
            rw [b01_neg gw, if_neg (fun z => z rfl)] at Q
            have fa := fc_add B4 K6 (k := vk) (c := (c : Int)) (p := vp) (d := 0)
            have eO4 := eO ωc4 fc4
            left
            refine ⟨_, ωm6, e3, s4, b4, e4, q, pre.trans Q, by omega, T4, C4.d fa.1 (fun a k z => ad_o (by omega)), M6, sd_add sd4 K6 em6 ev6 e66, osky_add o4 K6 k4 (by rw [eO4.1, eO4.2]; exact hO 0 (by omega) (by omega)), ?_, fc4.c.tr fa, (fm234.m.tr fn).tr f6.m⟩
            rw [ad_k, hK]
            omega
        · have f8 := f21_put B3 (k := 6) (v := (b3 : Int)) (by omega)
          have B8 := B3.dc f8.1
          rw [bi_v rc4, if_pos (i_21 B8), if_pos f6_ne, if_pos f6_ne] at q
          rw [bi_v rm4, if_neg (fun z => z rfl)] at Q
          exact Or.inr ⟨_, _, b3, q, pre.trans Q, gp_same, x18, (fc3.tr f8).c, (fm23.tr fm4).m⟩
      · have f8 := f21_put B2 (k := 6) (v := (b2 : Int)) (by omega)
        have B8 := B2.dc f8.1
        rw [bi_v rc3, if_pos (i_21 B8), f_21_2 B8, if_pos (i_23 B8), bi_v (c_time_n B8), if_pos (i_21 B8), bi_v (c_num_f B8 f6_ne), if_pos (i_21 B8), if_pos f6_ne, if_pos f6_ne] at q
        rw [bi_v rm3, if_neg (fun z => z rfl)] at Q
        exact Or.inr ⟨_, _, b2, q, pre.trans Q, gp_same, x18, (fc2.tr f8).c, (fm2.tr fm3).m⟩
    · have f8 := f21_put B1 (k := 6) (v := (b1 : Int)) (by omega)
      have B8 := B1.dc f8.1
      rw [bi_v rc2, if_pos (i_21 B8), f_21_2 B8, if_pos (i_23 B8), bi_v (c_num_f B8 f6_ne), if_pos (i_21 B8), f_21_2 B8, if_pos (i_23 B8), bi_v (c_time_n B8), if_pos (i_21 B8), bi_v (c_num_f B8 f6_ne), if_pos (i_21 B8), if_pos f6_ne, if_pos f6_ne] at q
      rw [bi_v rm2, if_neg (fun z => z rfl)] at Q
      exact Or.inr ⟨_, _, b1, q, pre.trans Q, gp_same, x18, (f1.tr f8).c, fm2.m⟩
  · rw [if_neg g] at fu
    rw [bi_v fu, if_neg (by omega), if_pos (i_21 B), h1.2.2.1] at q
    exact st_0 h q (q0.trans (m_39n h2 h5 h6 (wd_x (by omega) (by omega) (by omega) w) (wd_x (by omega) (by omega) (by omega) w) (wd_x (by omega) (by omega) (by omega) w) (Or.inr (by rw [sh]; omega))))
/-- a statement, whatever stands there -/
theorem st_any (h : Pre L n ωc ωm s b e) : StR L n ωc ωm e (am_run (35, 0) 0 ([some (.inr (.inr 21))], [], ωc)) (am_run (178, 0) 0 ([some (.inr (.inr 53)), none, none, none], [], ωm)) := by
  obtain ⟨h1, h2, h3, h4, h5, h6⟩ := id h
  have B := h1.1.1
  have Bm := h2.1.1
  have vv : ∀ x : Option (Option am_V × am_W), StR L n ωc ωm e x (am_run (178, 0) 0 ([some (.inr (.inr 53)), none, none, none], [], ωm)) → StR L n ωc ωm e (am_bv x (fun ω => some (none, ω))) (am_run (178, 0) 0 ([some (.inr (.inr 53)), none, none, none], [], ωm)) := by
    rintro x (⟨ωc', ωm', j', s', b', e', rc, rest⟩ | ⟨ωc', ωm', f, rc, rest⟩)
    · exact Or.inl ⟨ωc', ωm', j', s', b', e', bv_v rc, rest⟩
    · exact Or.inr ⟨ωc', ωm', f, bv_v rc, rest⟩
  have q := pX3_readStatement_0 21 ωc (i_21 B)
  have ww := fun k (hk : k < 6) => c_isWord h1 h5 h6 (k := k) hk
  rw [bi_v (ww 0 (by omega))] at q
  by_cases w0 : Wd L s b e 0
  · rw [b01_pos w0, if_neg (by omega), if_pos (i_21 B)] at q
    rw [q]
    exact vv _ (st_circles h w0)
  · rw [b01_neg w0, if_pos rfl, if_pos (i_21 B), bi_v (ww 1 (by omega))] at q
    by_cases w1 : Wd L s b e 1
    · rw [b01_pos w1, if_neg (by omega), if_pos (i_21 B)] at q
      rw [q]
      exact vv _ (st_time h w1)
    · rw [b01_neg w1, if_pos rfl, if_pos (i_21 B), bi_v (ww 2 (by omega))] at q
      by_cases w2 : Wd L s b e 2
      · rw [b01_pos w2, if_neg (by omega), if_pos (i_21 B)] at q
        rw [q]
        exact vv _ (st_cost h w2)
      · rw [b01_neg w2, if_pos rfl, if_pos (i_21 B), bi_v (ww 3 (by omega))] at q
        by_cases w3 : Wd L s b e 3
        · rw [b01_pos w3, if_neg (by omega), if_pos (i_21 B)] at q
          rw [q]
          exact vv _ (st_ship h w3)
        · rw [b01_neg w3, if_pos rfl, if_pos (i_21 B), bi_v (ww 5 (by omega))] at q
          by_cases w5 : Wd L s b e 5
          · rw [b01_pos w5, if_neg (by omega), if_pos (i_21 B)] at q
            rw [q]
            exact vv _ (st_step h w5)
          · rw [b01_neg w5, if_pos rfl, if_pos (i_21 B), show (21 : Int).toNat = 21 from rfl, h1.2.2.1] at q
            have q0 := pX7_statement_0 53 ωm (i_53 Bm)
            rw [bi_v (m_isWord h2 h5 h6 (k := 0) (by omega)), b01_neg w0, if_pos rfl] at q0
            exact st_0 h q (q0.trans (m_39n h2 h5 h6 w1 w2 w5 (Or.inl w3)))
end K112
