/-! ===== the planner visits a step: the loops ===== -/
section K53
variable {ω : am_W}
theorem v_pr {f : Nat → Int} {m i q m' q' : Nat} (eq : f i = (q : Int)) : ((m' < m ∨ (m' = m ∧ ∃ i', i' < i ∧ f i' = (q' : Int))) ∨ (m' = m ∧ q' = q)) ↔ (m' < m ∨ (m' = m ∧ ∃ i', i' < i + 1 ∧ f i' = (q' : Int))) := by
  constructor
  · rintro ((z | ⟨z1, i', z2, z3⟩) | ⟨z1, z2⟩)
    · exact Or.inl z
    · exact Or.inr ⟨z1, i', by omega, z3⟩
    · exact Or.inr ⟨z1, i, by omega, by rw [z2]; exact eq⟩
  · rintro (z | ⟨z1, i', z2, z3⟩)
    · exact Or.inl (Or.inl z)
    · by_cases e : i' = i
      · refine Or.inr ⟨z1, ?_⟩
        rw [e, eq] at z3
        omega
      · exact Or.inl (Or.inr ⟨z1, i', by omega, z3⟩)
theorem v_sl {s q q' b : Nat} (hq : q < 120) (hq' : q' < 120) (hb : b < 10) : (s + 1 + b) % 11 * 120 + q' ≠ s % 11 * 120 + q := by omega
theorem v_s0 {s q q' : Nat} (h : q' ≠ q) : s % 11 * 120 + q' ≠ s % 11 * 120 + q := by omega
theorem v_ms {a b : Nat} {x : Int} (h : x = (a : Int)) (h' : x = (b : Int)) : b = a := by omega
section VI
variable {vd : Nat → Prop} {ok : Nat → Nat → Prop} {tg ln pc : Nat → Nat → Nat} {hr : Nat → Nat → Nat → Nat} {q0 b0 p step M W : Nat}
theorem c_visit_in (hP0 : Pls ω p) (hw0 : Chw ω p vd ok tg ln pc) (hc : Cht vd ok tg ln pc) (hv : vd q0) (hb0 : b0 ≤ 10) (hs : step ≤ 60) (h10 : am_get ω p 10 = (M : Int)) (hM : M ≤ 3) (h11 : am_get ω p 11 = (W : Int)) (hW7 : W ≤ 7) (msp : Nat → Int) (hms : ∀ k, k < M → am_get ω (p + 24) k = msp k) (hhr : ∀ q m, hr step q m = orN (fun k => msp k = (q : Int)) M m) (hW : ∀ t q m, m ≤ W → hr t q m ≤ W) {L0 f0 g0 : Int} (hL0 : L0 < 1000000) (ri : RI vd ok tg ln pc hr q0 b0 W step (fun m k => am_get ω (p + 15 + m) k) L0) : ∀ n m i : Nat, m < W → (∃ S : Nat, am_get ω p 2 = (S : Int) ∧ i + n = S ∧ S ≤ 120) → ∀ ω1 (o5 o6 : Option am_V), FrP p ω ω1 → RJ vd ok tg ln pc hr q0 b0 W step (fun m k => am_get ω (p + 15 + m) k) L0 (fun m' q' => m' < m ∨ (m' = m ∧ ∃ i', i' < i ∧ am_get ω (p + 1) i' = (q' : Int))) (fun m k => am_get ω1 (p + 15 + m) k) (am_get ω1 p 12) → LF ok tg ln pc hr q0 b0 W p step L0 f0 g0 ω1 → ∃ (ω2 : am_W) (o4 o5' o6' : Option am_V), am_run (13, 0) 68 ([some (.inr (.inr ((p : Int)))), some (.inl ((step : Int))), some (.inl (((step % 11 * 120 : Nat) : Int))), some (.inl ((m : Int))), some (.inl ((i : Int))), o5, o6], [], ω1) = am_run (13, 0) 51 ([some (.inr (.inr ((p : Int)))), some (.inl ((step : Int))), some (.inl (((step % 11 * 120 : Nat) : Int))), some (.inl (((m + 1 : Nat) : Int))), o4, o5', o6'], [], ω2) ∧ FrP p ω ω2 ∧ RJ vd ok tg ln pc hr q0 b0 W step (fun m k => am_get ω (p + 15 + m) k) L0 (fun m' _ => m' < m + 1) (fun m k => am_get ω2 (p + 15 + m) k) (am_get ω2 p 12) ∧ LF ok tg ln pc hr q0 b0 W p step L0 f0 g0 ω2 := by
  intro n
  induction n with
  | zero =>
    rintro m i hm ⟨S, s1, s2, s3⟩ ω1 o5 o6 F J lf
    have P1 := hP0.dc F.1
    have e2 : am_get ω1 p 2 = (S : Int) := (F.2 _ _ (by omega) (by omega)).trans s1
    refine ⟨ω1, some (.inl (i : Int)), o5, o6, ?_, F, ?_, lf⟩
    · rw [pX1_visit_68 _ _ _ _ _ _ _ _ (pl_is P1)]
      simp only [am_bi_s, am_bl_s, am_ba_s, am_bv_s, Int.toNat_zero, Int.reduceToNat, Int.toNat_natCast, if_true, if_false, not_true, not_false_eq_true, Int.reduceEq, Int.reduceLT, Int.reduceLE, e2]
      rw [if_pos (by omega), am_w_s (by omega) (by omega), show (m : Int) + 1 = ((m + 1 : Nat) : Int) by omega]
    · refine rj_pr (fun m' q' hm' hq' => ⟨fun z => by rcases z with z | z <;> omega, fun z => ?_⟩) J
      by_cases e : m' = m
      · right
        refine ⟨e, ?_⟩
        obtain ⟨⟨S', t1, t2, t3, t4⟩, _⟩ := hw0
        obtain ⟨i', z1, z2⟩ := t4 q' hq'
        have : S' = S := by rw [s1] at t2; omega
        exact ⟨i', by omega, z2⟩
      · left; omega
  | succ n ih =>
    rintro m i hm ⟨S, s1, s2, s3⟩ ω1 o5 o6 F J lf
    have iS : i < S := by omega
    have i120 : (i : Int) < 120 := by omega
    have i1 : am_w ((i : Int) + 1) = ((i + 1 : Nat) : Int) := (am_w_s (by omega) (by omega)).trans (by omega)
    have m7 : m < 7 := by omega
    have m7i : (m : Int) < 7 := by omega
    have nS : ¬ (S : Int) ≤ (i : Int) := by omega
    have sn : ∃ S' : Nat, am_get ω p 2 = (S' : Int) ∧ i + 1 + n = S' ∧ S' ≤ 120 := ⟨S, s1, by omega, s3⟩
    have P1 := hP0.dc F.1
    have e2 : am_get ω1 p 2 = (S : Int) := (F.2 _ _ (by omega) (by omega)).trans s1
    obtain ⟨q, hq, eq⟩ : ∃ q : Nat, vd q ∧ am_get ω (p + 1) i = (q : Int) := by
      obtain ⟨⟨S', t1, t2, t3, t4⟩, _⟩ := hw0
      exact t3 i (v_ms s1 t2 ▸ iS)
    have q120 := (hc q hq).1
    have e3 : am_get ω1 (p + 1) i = (q : Int) := (F.2 _ _ (by omega) (by omega)).trans eq
    have ix : am_w (((step % 11 * 120 : Nat) : Int) + (q : Int)) = ((step % 11 * 120 + q : Nat) : Int) := (am_w_s (by omega) (by omega)).trans (by omega)
    have Q := pX1_visit_68 (p : Int) step ((step % 11 * 120 : Nat) : Int) m i o5 o6 ω1 (pl_is P1)
    simp only [am_bi_s, am_bl_s, am_ba_s, am_bv_s, Int.toNat_zero, Int.reduceToNat, Int.toNat_natCast, if_true, if_false, not_true, not_false_eq_true, Int.reduceEq, Int.reduceLT, Int.reduceLE, e2, if_neg nS, pl_1 P1, pl_s120 P1 (i := (i : Int)) (Int.natCast_nonneg _) i120, e3, ix, pl_6 P1, pl_ina7 P1 (i := (m : Int)) (Int.natCast_nonneg _) m7i, pl_r P1 m7, pl_ring P1 m7 (i := ((step % 11 * 120 + q : Nat) : Int)) (Int.natCast_nonneg _) (Int.ofNat_lt.mpr (ix_lt q120)), i1] at Q
    have pr' : ∀ m' q', m' < W → vd q' → (((m' < m ∨ (m' = m ∧ ∃ i', i' < i ∧ am_get ω (p + 1) i' = (q' : Int))) ∨ (m' = m ∧ q' = q)) ↔ (m' < m ∨ (m' = m ∧ ∃ i', i' < i + 1 ∧ am_get ω (p + 1) i' = (q' : Int)))) := fun m' q' _ _ => v_pr eq
    have L1 : am_get ω1 p 12 < 1000000 := by have := J.1; omega
    by_cases gF : am_get ω1 (p + 15 + m) (step % 11 * 120 + q) = 1000000
    · rw [if_pos gF] at Q
      obtain ⟨ω2, o4, o5', o6', r, rest⟩ := ih m (i + 1) hm sn ω1 _ _ F (rj_pr pr' (rj_far J hm hq L1 gF)) lf
      exact ⟨ω2, o4, o5', o6', Q.trans r, rest⟩
    · have npr : ¬ (m < m ∨ (m = m ∧ ∃ i', i' < i ∧ am_get ω (p + 1) i' = (q : Int))) := fun z => gF ((J.2.1 m hm q hq).1 z)
      have eR : am_get ω1 (p + 15 + m) (step % 11 * 120 + q) = am_get ω (p + 15 + m) (step % 11 * 120 + q) := (J.2.1 m hm q hq).2 npr
      have s0 : am_get ω (p + 15 + m) (step % 11 * 120 + q) = 1000000 ∨ ∃ d : Nat, am_get ω (p + 15 + m) (step % 11 * 120 + q) = (d : Int) ∧ Pth ok tg ln pc hr q0 b0 step q 0 m d := ri.1 m hm 0 (Nat.zero_le _) q hq
      obtain ⟨d, ed, hd⟩ := s0.resolve_left (fun z => gF (eR.trans z))
      have ed1 : am_get ω1 (p + 15 + m) (step % 11 * 120 + q) = (d : Int) := eR.trans ed
      obtain ⟨_, _, d9⟩ := P_v hc hv hb0 _ _ _ _ _ hd
      have d1000 : d ≤ 1000 := by omega
      rw [if_neg gF, ed1] at Q
      have F2 : FrP p ω1 (am_put ω1 (p + 15 + m) (step % 11 * 120 + q) 1000000) := by
        have := FrP.ring (p := p) (r := 15 + m) (k := step % 11 * 120 + q) (v := 1000000) P1 (by omega)
        rw [← Nat.add_assoc] at this
        exact this
      obtain ⟨ω2, hω2⟩ : ∃ w, w = am_put ω1 (p + 15 + m) (step % 11 * 120 + q) 1000000 := ⟨_, rfl⟩
      rw [← hω2] at Q F2
      have F02 := F.tr F2
      have P2 := hP0.dc F02.1
      have clr : ∀ m' k, ¬ (m' = m ∧ k = step % 11 * 120 + q) → am_get ω2 (p + 15 + m') k = am_get ω1 (p + 15 + m') k := fun m' k z => by rw [hω2]; exact if_neg (fun y => z ⟨by omega, y.2⟩)
      have clr0 : am_get ω2 (p + 15 + m) (step % 11 * 120 + q) = 1000000 := by rw [hω2]; exact gp_same
      have w2 := hw0.kp (ω' := ω2) (fun a k z => F02.2 a k (by omega) (by omega))
      have L2 : am_get ω2 p 12 = am_get ω1 p 12 := by rw [hω2]; exact gp_cell (by omega)
      have L3 : am_get ω2 p 13 = am_get ω1 p 13 := by rw [hω2]; exact gp_cell (by omega)
      have L4 : am_get ω2 p 14 = am_get ω1 p 14 := by rw [hω2]; exact gp_cell (by omega)
      have hor : orN (fun k => msp k = (q : Int)) M m ≤ W := by rw [← hhr]; exact hW _ _ _ (by omega)
      obtain ⟨ω3, r3, cs⟩ := c_arrive (Q := fun k => msp k = (q : Int)) (m := m) (d := d) (step := step) P2 w2 hc hq m7 d1000 (by omega) L2 ((F02.2 _ _ (by omega) (by omega)).trans h10) hM ((F02.2 _ _ (by omega) (by omega)).trans h11) hW7 (fun k hk => by rw [F02.2 _ _ (by omega) (by omega), hms k hk]) hor
      rw [bv_v r3] at Q
      rw [← hhr] at cs
      have go : ∀ (F3 : FrP p ω ω3), RJ vd ok tg ln pc hr q0 b0 W step (fun m k => am_get ω (p + 15 + m) k) L0 (fun m' q' => (m' < m ∨ (m' = m ∧ ∃ i', i' < i ∧ am_get ω (p + 1) i' = (q' : Int))) ∨ (m' = m ∧ q' = q)) (fun m k => am_get ω3 (p + 15 + m) k) (am_get ω3 p 12) → LF ok tg ln pc hr q0 b0 W p step L0 f0 g0 ω3 → _ := fun F3 J3 lf3 => ih m (i + 1) hm sn ω3 (some (.inl (q : Int))) (some (.inl (d : Int))) F3 (rj_pr pr' J3) lf3
      have fin : ∃ (ω2 : am_W) (o4 o5' o6' : Option am_V), am_run (13, 0) 68 ([some (.inr (.inr ((p : Int)))), some (.inl ((step : Int))), some (.inl (((step % 11 * 120 : Nat) : Int))), some (.inl ((m : Int))), some (.inl (((i + 1 : Nat) : Int))), some (.inl ((q : Int))), some (.inl ((d : Int)))], [], ω3) = am_run (13, 0) 51 ([some (.inr (.inr ((p : Int)))), some (.inl ((step : Int))), some (.inl (((step % 11 * 120 : Nat) : Int))), some (.inl (((m + 1 : Nat) : Int))), o4, o5', o6'], [], ω2) ∧ FrP p ω ω2 ∧ RJ vd ok tg ln pc hr q0 b0 W step (fun m k => am_get ω (p + 15 + m) k) L0 (fun m' _ => m' < m + 1) (fun m k => am_get ω2 (p + 15 + m) k) (am_get ω2 p 12) ∧ LF ok tg ln pc hr q0 b0 W p step L0 f0 g0 ω2 := by
        rcases cs with ⟨c1, rfl⟩ | ⟨c1, c2, rfl⟩ | ⟨c1, c2, c3⟩
        · refine go F02 ?_ ?_
          · exact rj_clear (R := fun m k => am_get ω1 (p + 15 + m) k) J hm hq npr ed1 (by rw [L2]; exact Int.le_refl _) (by rw [L2]; exact c1) clr0 clr hc
          · unfold LF
            rw [L2, L3, L4]
            exact lf
        · have FF := FrP.fin (step := step) (d := d) P2
          obtain ⟨f12, f13, f14⟩ := fin_12 (ω := ω2) (p := p) (step := step) (d := d)
          have J0 := J.1
          refine go (F02.tr FF) ?_ ?_
          · refine rj_clear (R := fun m k => am_get ω1 (p + 15 + m) k) J hm hq npr ed1 (by rw [f12]; omega) (by rw [f12]; omega) ?_ (fun m' k z => ?_) hc
            · exact (fin_o (by omega)).trans clr0
            · exact (fin_o (by omega)).trans (clr m' k z)
          · refine Or.inr ⟨d, f13, f12, by omega, ⟨q, m, hd, c2⟩, ?_⟩
            rw [f14, L4]
            rcases lf with ⟨_, _, l3⟩ | ⟨_, _, _, _, _, l3⟩
            · rw [l3]
            · rw [l3]
              by_cases z : g0 = -1
              · rw [if_pos z, if_neg (by omega)]
              · rw [if_neg z, if_neg z]
        · obtain ⟨t0, t1, t2, t3, t4⟩ := c3
          have FS : FrP p ω2 ω3 := ⟨t0, fun a k _ z => t1 a k (by omega)⟩
          have k12 : am_get ω3 p 12 = am_get ω1 p 12 := (t1 _ _ (by omega)).trans L2
          have row : ∀ m' k, m' ≠ hr step q m → am_get ω3 (p + 15 + m') k = am_get ω2 (p + 15 + m') k := fun m' k z => t1 _ _ (by omega)
          have rle : ∀ m' k, am_get ω3 (p + 15 + m') k ≤ am_get ω2 (p + 15 + m') k := fun m' k => by
            by_cases z : m' = hr step q m
            · rw [z]; exact t2 k
            · rw [row m' k z]; exact Int.le_refl _
          have cur : ∀ m' q', vd q' → am_get ω3 (p + 15 + m') (step % 11 * 120 + q') = am_get ω2 (p + 15 + m') (step % 11 * 120 + q') := fun m' q' hq' => by
            by_cases z : m' = hr step q m
            · rw [z]
              rcases t3 (step % 11 * 120 + q') with y | ⟨x, x1, x2, x3, x4, x5⟩
              · exact y
              · have a1 := (hc q' hq').1
                obtain ⟨_, _, c3'⟩ := hc q hq
                obtain ⟨y1, y2, y3, y4⟩ := c3' x x1 x2
                have a2 := (hc _ y1).1
                exfalso
                clear t3 t4 rle row J ri
                omega
            · exact row m' _ z
          refine go (F02.tr FS) ?_ ?_
          · rw [k12]
            refine rj_go (R := fun m k => am_get ω1 (p + 15 + m) k) J hm hq npr ed1 hd c2 ((cur m q hq).trans clr0) (fun m' q' hq' z => (cur m' q' hq').trans (clr m' _ (fun y => z ⟨y.1, Classical.byContradiction (fun x => v_s0 x y.2)⟩))) (fun m' b q' hb hq' => ?_) (fun m' b q' hb hq' => ?_) (fun x hx hok hxL => t4 x hx hok hxL) hc
            · refine Int.le_trans (rle m' _) ?_
              rw [clr m' _ (fun y => v_sl q120 (hc q' hq').1 hb y.2)]
              exact Int.le_refl _
            · have e : am_get ω2 (p + 15 + m') ((step + 1 + b) % 11 * 120 + q') = am_get ω1 (p + 15 + m') ((step + 1 + b) % 11 * 120 + q') := clr m' _ (fun y => v_sl q120 (hc q' hq').1 hb y.2)
              by_cases z : m' = hr step q m
              · subst z
                rcases t3 ((step + 1 + b) % 11 * 120 + q') with y | ⟨x, x1, x2, x3, x4, x5⟩
                · exact Or.inl (y.trans e)
                · right
                  have a1 := (hc q' hq').1
                  obtain ⟨_, _, c3'⟩ := hc q hq
                  obtain ⟨y1, y2, y3, y4⟩ := c3' x x1 x2
                  have a2 := (hc _ y1).1
                  refine ⟨rfl, x, x1, x2, ?_, ?_, x5⟩
                  · clear t3 t4 rle row J ri x5 x3; omega
                  · clear t3 t4 rle row J ri x5 x3; omega
              · exact Or.inl ((row m' _ z).trans e)
          · unfold LF
            rw [k12, t1 p 13 (by omega), t1 p 14 (by omega), L3, L4]
            exact lf
      obtain ⟨ω4, o4, o5', o6', r, rest⟩ := fin
      exact ⟨ω4, o4, o5', o6', Q.trans r, rest⟩
end VI
end K53
