/-! ===== round: the pair ===== -/
section K74
variable {ω : am_W}
theorem Lst_1 {W : Nat → Nat → Prop} {last : Nat} {r r' : Int} (h : Lst W last r) (h' : Lst W last r') : r = r' := Lst_u (fun t d w => ⟨t, d, Nat.le_refl _, Nat.le_refl _, w⟩) (fun _ _ w => w) h h'
theorem k_round (h : Inv ω) (s set t : Int) (hR : am_R32 set) : Pair 110 211 [some (.inr (.inr 0)), some (.inl s), some (.inl set), some (.inl t)] [some (.inr (.inr 53)), some (.inl s), some (.inl set), some (.inl t), none, none, none, none, none, none, none, none, none] ω := by
  have h0 := h.1
  obtain ⟨e1, e2, e3, e4⟩ := inv_k h
  have b := fun k => rfz_bs (k := k) h0
  obtain ⟨N, hN⟩ : ∃ N : Nat, ck ω 1 = N := ⟨(ck ω 1).toNat, by omega⟩
  have N6 : N ≤ 6 := by omega
  have sh := shr_0 hR N6
  have p1 := pX6_round_0 0 s set t ω (i_0 h0) (by simp only [Int.toNat_zero, f_0_0 h0]; exact i_1 h0)
  simp only [am_bi_s, am_bl_s, am_ba_s, am_bv_s, Int.toNat_zero, Int.reduceToNat, Int.toNat_natCast, if_true, if_false, not_true, not_false_eq_true, Int.reduceEq, Int.reduceLT, Int.reduceLE, i_0 h0, i_1 h0, f_0_0 h0, f_0_3 h0, f_0_4 h0, f_1_1 h0, f_1_2 h0, f_1_4 h0, c_hasShip h0 W1, c_r2 h0, c_steps, c_isSet h0, hN] at p1
  -- the model's run over a world w, up to what it answers
  have bad : ∀ w, Bs w → mk w = (N : Int) → ¬ ((0 ≤ s ∧ s < (N : Int)) ∧ (0 ≤ t ∧ t ≤ 60) ∧ (am_shr set (N : Int) = 0 ∧ am_and set (am_shl 1 s) = 0 ∧ bcF set ≤ 3)) → am_run (211, 0) 0 ([some (.inr (.inr 53)), some (.inl s), some (.inl set), some (.inl t), none, none, none, none, none, none, none, none, none], [], w) = some (some (.inl (-2)), noz w 0) := by
    intro w hw kw no
    have e6 : am_get w 53 6 = (N : Int) := kw
    have p2 := pX7_round_0 53 s set t w (i_53 hw)
    simp only [am_bi_s, am_bl_s, am_ba_s, am_bv_s, Int.toNat_zero, Int.reduceToNat, Int.toNat_natCast, if_true, if_false, not_true, not_false_eq_true, Int.reduceEq, Int.reduceLT, Int.reduceLE, m_isShip hw (by rw [kw]; omega), kw, m_r2 hw, e6, m_in1, j_bitCount, i_53 hw] at p2
    rw [p2]
    by_cases g1 : 0 ≤ s ∧ s < (N : Int)
    · rw [b01_pos g1, if_neg (show ¬ (1 : Int) = 0 by omega)]
      by_cases g2 : 0 ≤ set ∧ set ≤ am_w (am_shl 1 (N : Int) - 1)
      · have w64 : ∀ N : Nat, N ≤ 6 → am_w (am_shl 1 (N : Int) - 1) < 64 := by decide +kernel
        have := w64 N N6
        obtain ⟨st, rfl⟩ : ∃ st : Nat, set = st := ⟨set.toNat, by clear p2 p1; omega⟩
        obtain ⟨i, rfl⟩ : ∃ i : Nat, s = i := ⟨s.toNat, by clear p2 p1; omega⟩
        have st64 : st < 64 := by clear p2 p1; omega
        have i6 : i < 6 := by clear p2 p1; omega
        rw [b01_pos g2, if_neg (show ¬ (1 : Int) = 0 by omega), bi_v (has_e st64 i6)]
        by_cases g3 : bitI (st : Int) i
        · rw [b01_pos g3, if_pos (show ¬ (1 : Int) = 0 by omega), if_pos (i_53 hw), bi_v (m_r2 hw)]
        · have g3' : am_and (st : Int) (am_shl 1 (i : Int)) = 0 := Classical.byContradiction g3
          rw [b01_neg g3, if_neg (fun z => z rfl)]
          by_cases g4 : 3 < bcF (st : Int)
          · rw [if_pos g4, if_pos (i_53 hw), bi_v (m_r2 hw)]
          · rw [if_neg g4]
            by_cases g5 : 0 ≤ t ∧ t ≤ 60
            · exact absurd ⟨g1, g5, sh.mpr g2, g3', Int.not_lt.mp g4⟩ no
            · rw [b01_neg g5, if_neg (fun z => z rfl), if_pos (i_53 hw), bi_v (m_r2 hw)]
      · rw [b01_neg g2, if_pos rfl]
    · rw [b01_neg g1, if_pos rfl]
  by_cases hp : (0 ≤ s ∧ s < (N : Int)) ∧ (0 ≤ t ∧ t ≤ 60) ∧ (am_shr set (N : Int) = 0 ∧ am_and set (am_shl 1 s) = 0 ∧ bcF set ≤ 3)
  · obtain ⟨g1, g5, gs⟩ := hp
    rw [b01_pos g1, if_neg (show ¬ (1 : Int) = 0 by omega), b01_pos g5, if_neg (show ¬ (1 : Int) = 0 by omega), b01_pos gs, if_pos (show ¬ (1 : Int) = 0 by omega)] at p1
    obtain ⟨gs1, gs2, gs3⟩ := gs
    have g2 := sh.mp gs1
    have w64 : ∀ N : Nat, N ≤ 6 → am_w (am_shl 1 (N : Int) - 1) < 64 := by decide +kernel
    have w64' := w64 N N6
    obtain ⟨st, rfl⟩ : ∃ st : Nat, set = st := ⟨set.toNat, by omega⟩
    obtain ⟨i, rfl⟩ : ∃ i : Nat, s = i := ⟨s.toNat, by omega⟩
    obtain ⟨last, rfl⟩ : ∃ N : Nat, t = N := ⟨t.toNat, by omega⟩
    have st64 : st < 64 := by omega
    have iN : i < N := by omega
    have i6 : i < 6 := by omega
    have l60 : last ≤ 60 := by omega
    obtain ⟨cb1, cb2⟩ := cB_N st64 N6 g2.2
    have bc := bc_e st64
    have c3 : cB st 6 ≤ 3 := by omega
    have CN0 := cn_of (N := N) st64 N6 c3
    have gNe : gN (st : Int) N = cB st N := gM_c c3 N N6
    have M3 : gN (st : Int) N ≤ 3 := by omega
    have bcM : bcF (st : Int) = (gN (st : Int) N : Int) := by rw [gNe, cb1]; exact bc
    -- the model's answer over a world w
    have mod : ∀ w, Inv w → am_get w 1 3 = (N : Int) → ∃ (w' : am_W) (r : Int), am_run (211, 0) 0 ([some (.inr (.inr 53)), some (.inl ((i : Int))), some (.inl ((st : Int))), some (.inl ((last : Int))), none, none, none, none, none, none, none, none, none], [], w) = some (some (.inl r), w') ∧ F89 w w' ∧ Lst (RW (cn w 1) (cT w 1) (cC w 1) (cV w 1 i 0) (cV w 1) (gE (st : Int) N) (gN (st : Int) N) (sQ (cV w 1 i)) (sB (cV w 1 i)) (if gN (st : Int) N = 0 then 0 else wh (gN (st : Int) N))) last r := by
      intro w hw nw
      obtain ⟨a1, a2, a3, a4⟩ := inv_k hw
      have kw : mk w = (N : Int) := by rw [a1]; exact nw
      have e6 : am_get w 53 6 = (N : Int) := kw
      obtain ⟨w1, r1, f1, N1⟩ := m_begun hw nw iN (n := cn w 1) (T := cT w 1) (C := cC w 1) (K := cV w 1 i 0)
      obtain ⟨ms1, ms2, ms3, ms4, ms5, ms6, ms7⟩ := ms_of hw nw iN iN
      obtain ⟨W, hW⟩ : ∃ W : Nat, W = if gN (st : Int) N = 0 then 0 else wh (gN (st : Int) N) := ⟨_, rfl⟩
      have ww : am_w (am_shl 1 (bcF (st : Int)) - 1) = (W : Int) := by
        rw [bcM, hW]
        by_cases z : gN (st : Int) N = 0
        · rw [if_pos z, z]; decide +kernel
        · rw [if_neg z]; exact wh_w M3 z
      rw [← hW]
      have W8 : W < 8 := by
        clear ww
        rw [hW]
        have := wh_7 M3
        by_cases z : gN (st : Int) N = 0
        · rw [if_pos z]; omega
        · rw [if_neg z]; omega
      have hc := mp_c ms2
      have hmW : ∀ t q b m d, PhF (cn w 1) (cT w 1) (cC w 1) (cV w 1 i 0) (cV w 1) (gE (st : Int) N) (gN (st : Int) N) (sQ (cV w 1 i)) (sB (cV w 1 i)) t q b m d → mtk (cT w 1) (cV w 1) (gE (st : Int) N) (gN (st : Int) N) t q b m ≤ W := by
        intro t q b m d hp
        rw [hW]
        by_cases z : gN (st : Int) N = 0
        · rw [if_pos z]
          rw [z] at hp ⊢
          rw [mt_0]
          exact P_m (W := 0) (fun t q m hm => hm) _ _ _ _ _ hp
        · rw [if_neg z]
          have m4 := (ph_v hc ms6 ms7 M3 hp).2.2.2.1
          unfold mtk
          by_cases y : b = 0
          · rw [if_pos y]; exact orN_w m4
          · rw [if_neg y]; exact m4
      have fk := mk_kp f1
      obtain ⟨R0, R1⟩ := rn_0 (V := cV w 1) (mem := gE (st : Int) N) (M := gN (st : Int) N) N1
      have B1 := hw.1.dc f1.1
      obtain ⟨w2, r, r2, f2, L2⟩ := m_81 (ω := w1) B1 (ms2.kp fk) ms6 ms7 M3 (N := N) ((fk 53 6 (by omega)).trans e6) N6 (V := cV w 1) (fun s hs => by
        obtain ⟨_, _, x3, x4, x5, _⟩ := ms_of hw nw iN hs
        exact ⟨fun j hj => (x4 j hj).trans (fk _ _ (by omega)).symm, x5⟩) CN0 (set := (st : Int)) (fun s hs ω' => has_e st64 (by omega)) (last := last) (W := W) l60 W8 hmW (last + 1) 0 (by omega) w1 10000 none none none none none none F89.rf (Or.inl ⟨rfl, R0, R1⟩) (Or.inl ⟨rfl, fun t' ht' => absurd ht' (Nat.not_lt_zero _)⟩)
      have g3 : ¬ bitI (st : Int) i := fun z => z gs2
      have p2 := pX7_round_0 53 i st last w (i_53 hw.1)
      simp only [am_bi_s, am_bl_s, am_ba_s, am_bv_s, Int.toNat_zero, Int.reduceToNat, Int.toNat_natCast, if_true, if_false, not_true, not_false_eq_true, Int.reduceEq, Int.reduceLT, Int.reduceLE, m_isShip hw.1 (by rw [kw]; omega), kw, e6, m_in1, j_bitCount, i_53 hw.1, has_e st64 i6, b01_pos g1, b01_pos g2, b01_neg g3, b01_pos g5, r1, ww] at p2
      rw [if_neg (show ¬ 3 < bcF (st : Int) from Int.not_lt.mpr gs3)] at p2
      exact ⟨w2, r, p2.trans r2, f1.tr f2, L2⟩
    by_cases z0 : st = 0
    · -- the empty set
      rw [if_neg (fun z => z (by omega))] at p1
      obtain ⟨w', r, r1, f1, L1⟩ := mod ω h hN
      have gz : gN (st : Int) N = 0 := by
        rw [gNe, z0]
        have : ∀ N : Nat, N ≤ 6 → cB 0 N = 0 := by decide +kernel
        exact this N N6
      have r0 : r = 0 := by
        rw [gz, if_pos rfl] at L1
        have R00 : RW (cn ω 1) (cT ω 1) (cC ω 1) (cV ω 1 i 0) (cV ω 1) (gE (st : Int) N) 0 (sQ (cV ω 1 i)) (sB (cV ω 1 i)) 0 0 0 := ⟨sQ (cV ω 1 i), sB (cV ω 1 i), 0, ⟨rfl, rfl, rfl, rfl⟩, mt_0⟩
        rcases L1 with ⟨_, n⟩ | ⟨f, e, _, l⟩
        · exact absurd R00 (n 0 (by omega) 0)
        · have := l 0 (by omega) 0 R00
          omega
      rw [r0] at r1
      exact ⟨_, _, _, p1, h0, rfl, r1, f1.1.2.1, f89_inv h f1⟩
    · rw [if_pos (show ¬ ((st : Nat) : Int) = 0 by omega)] at p1
      obtain ⟨ω1, p, r1, I1, P1, sc1, lo1⟩ := c_thinking h
      have hN1 : am_get ω1 1 3 = (N : Int) := (lo1 1 3 (by omega) (by omega)).trans hN
      obtain ⟨ω2, r, r2, f2, L2⟩ := c_fewest I1 P1 hN1 iN (st : Int) (last := last) l60
      have w1 : am_get ω1 1 4 = 4 := w_S I1.1 (W := 1) (Or.inl rfl)
      have w2 : am_ina ω1 4 (i : Int) = true := ina_S I1.1 (W := 1) (Or.inl rfl) (Int.natCast_nonneg _) (by omega)
      have w3 : am_get ω1 4 i = 1 + 4 + (i : Int) := w_V I1.1 (W := 1) (Or.inl rfl) i6
      rw [ba_v r1] at p1
      simp only [am_bi_s, am_bl_s, am_ba_s, am_bv_s, Int.toNat_zero, Int.reduceToNat, Int.toNat_natCast, if_true, if_false, not_true, not_false_eq_true, Int.reduceEq, Int.reduceLT, Int.reduceLE, i_0 I1.1, f_0_0 I1.1, i_1 I1.1, w1, w2, w3, pl_is P1, r2] at p1
      have I2 := f2.inv I1
      have hN2 : am_get ω2 1 3 = (N : Int) := (f2.2 1 3 (by omega)).trans hN1
      obtain ⟨ω4, z, r4, f4, L4⟩ := mod ω2 I2 hN2
      have gz : gN (st : Int) N ≠ 0 := by rw [gNe]; have := cb2 z0; omega
      have eq : z = r := by
        have en : cn ω2 1 = cn ω1 1 := f2.2 _ _ (by decide)
        have eT : cT ω2 1 = cT ω1 1 := funext fun k => f2.2 _ _ (by decide)
        have eC : cC ω2 1 = cC ω1 1 := funext fun k => f2.2 _ _ (by decide)
        have eV : ∀ k, k < 6 → cV ω2 1 k = cV ω1 1 k := fun k hk => funext fun f => f2.2 _ _ (by omega)
        have hv : ∀ k, k < gN (st : Int) N → cV ω2 1 (gE (st : Int) N k) = cV ω1 1 (gE (st : Int) N k) := fun k hk => by
          have : gE (st : Int) N k ∈ gM (bitI (st : Int)) N := by
            unfold gE
            rw [List.getD_eq_getElem?_getD, List.getElem?_eq_getElem hk]
            exact List.getElem_mem hk
          have := ((gM_3 (bit := bitI (st : Int)) N).2 _ this).1
          exact eV _ (by omega)
        have ehr : hrF (cT ω1 1) (cV ω2 1) (gE (st : Int) N) (gN (st : Int) N) = hrF (cT ω1 1) (cV ω1 1) (gE (st : Int) N) (gN (st : Int) N) := by
          funext t q m
          unfold hrF
          have : ∀ k, k ≤ gN (st : Int) N → orN (fun k => spF (cT ω1 1) (cV ω2 1 (gE (st : Int) N k)) (t : Int) = (q : Int)) k m = orN (fun k => spF (cT ω1 1) (cV ω1 1 (gE (st : Int) N k)) (t : Int) = (q : Int)) k m := by
            intro k
            induction k with
            | zero => intro _; rfl
            | succ k ih =>
              intro hk
              have e := ih (by omega)
              by_cases g : spF (cT ω1 1) (cV ω1 1 (gE (st : Int) N k)) (t : Int) = (q : Int)
              · rw [orN_y (Q := fun k => spF (cT ω1 1) (cV ω1 1 (gE (st : Int) N k)) (t : Int) = (q : Int)) g, orN_y (Q := fun k => spF (cT ω1 1) (cV ω2 1 (gE (st : Int) N k)) (t : Int) = (q : Int)) (by rw [hv k hk]; exact g), e]
              · rw [orN_n (Q := fun k => spF (cT ω1 1) (cV ω1 1 (gE (st : Int) N k)) (t : Int) = (q : Int)) g, orN_n (Q := fun k => spF (cT ω1 1) (cV ω2 1 (gE (st : Int) N k)) (t : Int) = (q : Int)) (by rw [hv k hk]; exact g), e]
          exact this _ (Nat.le_refl _)
        rw [if_neg gz, en, eT, eC, eV i i6] at L4
        have w0 := (wh_7 M3).1
        refine Lst_u (W' := WinS ω1 i (gE (st : Int) N) (gN (st : Int) N)) (fun t d w => ?_) (fun t d w => ?_) L4 L2
        · obtain ⟨q, b, m', x1, x2⟩ := w
          unfold PhF at x1
          rw [ehr] at x1
          unfold mtk at x2
          by_cases y : b = 0
          · rw [if_pos y] at x2
            subst y
            refine ⟨t, d, Nat.le_refl _, Nat.le_refl _, q, m', x1, ?_⟩
            rw [← ehr]
            exact x2
          · rw [if_neg y] at x2
            obtain ⟨t', d', y1, y2, y3⟩ := P_won w0 _ _ _ _ _ x1 x2
            exact ⟨t', d', Nat.le_of_lt y1, y2, y3⟩
        · obtain ⟨q, m, x1, x2⟩ := w
          refine ⟨q, 0, m, ?_, ?_⟩
          · unfold PhF
            rw [ehr]
            exact x1
          · unfold mtk
            rw [if_pos rfl]
            rw [← ehr] at x2
            exact x2
      rw [eq] at r4
      exact ⟨_, _, _, p1, I2.1, f2.1.2.1.trans sc1, r4, f4.1.2.1.trans (f2.1.2.1.trans sc1), f89_inv I2 f4⟩
  · refine pair_ref h 0 (by omega) ?_ (bad _ (b 0) (by rw [mk_rfz, e1, hN]) hp)
    rw [p1]
    by_cases g1 : 0 ≤ s ∧ s < (N : Int)
    · rw [b01_pos g1, if_neg (show ¬ (1 : Int) = 0 by omega)]
      by_cases g5 : 0 ≤ t ∧ t ≤ 60
      · rw [b01_pos g5, if_neg (show ¬ (1 : Int) = 0 by omega), b01_neg (fun z => hp ⟨g1, g5, z⟩), if_neg (fun z => z rfl)]
      · rw [b01_neg g5, if_pos rfl]
    · rw [b01_neg g1, if_pos rfl]
end K74
