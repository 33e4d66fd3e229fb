/-! ===== world: the loop ===== -/
section K113
variable {L : Nat → Int} {n : Nat}
theorem m_st_n {ωm : am_W} {s : Int} {b e : Nat} (h : MT ωm L n s b e) (be : b ≤ e) (en : e ≤ n) (hs : s ≠ 1) : am_run (178, 0) 0 ([some (.inr (.inr 53)), none, none, none], [], ωm) = some (some (.inl 0), ωm) := by
  have B := h.1.1
  have nw : ∀ k, ¬ Wd L s b e k := fun k z => hs z.1
  have q0 := pX7_statement_0 53 ωm (i_53 B)
  rw [bi_v (m_isWord h be en (k := 0) (by omega)), b01_neg (nw 0), if_pos rfl] at q0
  exact q0.trans (m_39n h be en (nw 1) (nw 2) (nw 5) (Or.inl (nw 3)))
theorem Fc.rf {ω : am_W} : Fc ω ω := ⟨Dc.rf ω, fun _ _ _ _ => rfl⟩
theorem Fm.rf {ω : am_W} : Fm ω ω := ⟨Dc.rf ω, fun _ _ _ _ => rfl⟩
theorem w_loop : ∀ (N k : Nat) (s : Int) (b e j : Nat) (ωc ωm : am_W), n - b < N → CS ωc L n s b e (-1) → MA ωm L n → am_get ωm 53 17 = (j : Int) → Tk L n j s b e → SD ωc ωm → O_sky ωc.2.1 23 → k ≤ b → (∃ (r : Int) (ωc' ωm' : am_W), am_run (34, 0) 24 ([some (.inr (.inr 21)), some (.inr (.inr 1)), some (.inl ((k : Int)))], [], ωc) = some (some (.inl r), ωc') ∧ am_get ωc' 21 6 = -1 ∧ am_run (179, 0) 17 ([some (.inr (.inr 53)), some (.inl ((k : Int))), some (.inl 1)], [], ωm) = some (some (.inl r), am_put ωm' 53 15 0) ∧ SD ωc' ωm' ∧ O_sky ωc'.2.1 23 ∧ am_get ωc 23 3 ≤ am_get ωc' 23 3 ∧ Fc ωc ωc' ∧ Fm ωm ωm') ∨ ∃ (f : Nat) (r k' : Int) (ωc' ωm' : am_W), am_run (34, 0) 24 ([some (.inr (.inr 21)), some (.inr (.inr 1)), some (.inl ((k : Int)))], [], ωc) = some (some (.inl r), ωc') ∧ am_get ωc' 21 6 = (f : Int) ∧ am_run (179, 0) 17 ([some (.inr (.inr 53)), some (.inl ((k : Int))), some (.inl 1)], [], ωm) = am_run (179, 0) 17 ([some (.inr (.inr 53)), some (.inl k'), some (.inl 0)], [], ωm') ∧ am_get ωm' 53 18 = (f : Int) ∧ Fc ωc ωc' ∧ Fm ωm ωm' := by
  intro N
  induction N with
  | zero => intro k s b e j ωc ωm hN; omega
  | succ N ih =>
    intro k s b e j ωc ωm hN C M e17 T sd o kb
    have B := C.1.1
    have Bm := M.1
    have n250 := C.1.2.1
    obtain ⟨t1, t2, t3, t4, t5, t6, t7, t8⟩ := id T
    have k1 : ∀ _ : Unit, am_w ((k : Int) + 1) = ((k + 1 : Nat) : Int) := fun _ => (am_w_s (by omega) (by omega)).trans (by omega)
    obtain ⟨ωm1, r1, M1, f1⟩ := m_next1 M e17 T
    have Bm1 := M1.1.1
    have Q := pX7_world_17 53 k 1 ωm (i_53 Bm)
    rw [if_neg (by omega), bv_v r1, if_pos (i_53 Bm1)] at Q
    have q := pX3_read_24 21 1 k ωc (i_21 B)
    rw [show (21 : Int).toNat = 21 from rfl, C.1.2.2.1, if_neg (by omega)] at q
    have pre : Pre L n ωc ωm1 s b e := ⟨C, M1, sd.f F21.rf f1, o, t6, t7⟩
    rcases st_any pre with ⟨ωc2, ωm2, j', s', b', e', rc, rm, ej, T2, C2, M2, sd2, o2, kk, fc, fm⟩ | ⟨ωc2, ωm2, f, rc, rm, x6, x18, fc, fm⟩
    · have s1 : s = 1 := by
        by_cases z : s = 1
        · exact z
        · rw [m_st_n M1 t6 t7 z] at rm
          have := congrArg (fun x : Option (Option am_V × am_W) => x.map (fun y => y.1)) rm
          simp at this
      have be : b < e := by
        rcases t8 with ⟨z, _⟩ | ⟨_, z, _⟩ | ⟨z, _⟩
        · omega
        · exact z
        · omega
      have B2 := C2.1.1
      have Bm2 := M2.1.1
      obtain ⟨u1, u2, u3, u4, u5, u6, u7, u8⟩ := id T2
      rw [bi_v rm, if_neg (by omega), k1 ()] at Q
      have q37 := pX7_world_37 53 ((k + 1 : Nat) : Int) 1 ωm2 (i_53 Bm2)
      rw [show (53 : Int).toNat = 53 from rfl, M2.2.2.2.1, if_neg (show ¬ (1 : Int) = 0 by omega)] at q37
      rw [bv_v rc, if_pos (i_21 B2), C2.2.2.2.2, if_pos rfl, C2.2.1, k1 ()] at q
      have fm12 := f1.m.tr fm
      by_cases g0 : s' = 0
      · rw [if_neg (fun z => z g0)] at q
        rw [if_neg (fun z => z (by rw [if_neg (by omega)]; exact g0))] at q37
        exact Or.inl ⟨_, ωc2, ωm2, q, C2.2.2.2.2, Q.trans q37, sd2, o2, kk, fc, fm12⟩
      · have sr : 0 ≤ s' ∧ s' ≤ 4 := by
          have := sO_r (L := L) (n := n) (j := b')
          rw [← u5] at this
          exact ⟨this.1, this.2.1⟩
        rw [if_pos g0] at q
        rw [if_pos (by by_cases z : s' = 4
                       · rw [if_pos z]; omega
                       · rw [if_neg z]; exact g0), if_neg (show ¬ (1 : Int) = 0 by omega)] at q37
        by_cases g3 : s' = 3
        · rw [if_pos g3] at q
          rw [if_neg (fun z => z (by rw [if_neg (by omega)]; exact g3))] at q37
          obtain ⟨ωc3, s3, b3, e3, r3, T3, C3, f3⟩ := c_take1 C2 u7
          rw [bv_v r3] at q
          have eb : e' ≤ b3 := T3.1
          have b3n : b3 ≤ n := T3.2.1
          rcases ih (k + 1) s3 b3 e3 e' ωc3 ωm2 (by omega) C3 M2.1 M2.2.1 T3 (sd2.f f3 F53.rf) (osky_f o2 (fun a k z1 z2 => f3.2 a k (by omega))) (by omega) with ⟨r, ωc', ωm', y1, y2, y3, y4, y5, y6, y7, y8⟩ | ⟨f, r, k', ωc', ωm', y1, y2, y3, y4, y5, y6⟩
          · refine Or.inl ⟨r, ωc', ωm', q.trans y1, y2, Q.trans (q37.trans y3), y4, y5, ?_, (fc.tr f3.c).tr y7, fm12.tr y8⟩
            have : am_get ωc3 23 3 = am_get ωc2 23 3 := f3.2 _ _ (by omega)
            omega
          · exact Or.inr ⟨f, r, k', ωc', ωm', q.trans y1, y2, Q.trans (q37.trans y3), y4, (fc.tr f3.c).tr y5, fm12.tr y6⟩
        · rw [if_neg g3, C2.2.2.1] at q
          rw [if_pos (by by_cases z : s' = 4
                         · rw [if_pos z]; omega
                         · rw [if_neg z]; exact g3)] at q37
          have f6 := f21_put B2 (k := 6) (v := (b' : Int)) (by omega)
          exact Or.inr ⟨b', _, _, _, ωm2, q, gp_same, Q.trans q37, M2.2.2.1, fc.tr f6.c, fm12⟩
    · have B2 := B.dc fc.1
      have Bm2 := Bm1.dc fm.1
      rw [bv_v rc, if_pos (i_21 B2), x6, if_neg (by omega)] at q
      rw [bi_v rm, if_pos rfl] at Q
      have q37 := pX7_world_37 53 k 0 ωm2 (i_53 Bm2)
      rw [if_pos rfl, if_pos rfl] at q37
      exact Or.inr ⟨f, _, _, ωc2, ωm2, q, x6, Q.trans q37, x18, fc, f1.m.tr fm⟩
theorem sd_0 {ω ωc ωm : am_W} (h : Inv ω) (em : ∀ a k, (57 ≤ a ∧ a ≤ 63) ∨ (a = 53 ∧ k < 15) → am_get ωm a k = am_get ω a k) (ec : ∀ a k, 23 ≤ a → a ≤ 32 → am_get ωc a k = am_get (becF ω 23 1) a k) : SD ωc ωm ∧ O_sky ωc.2.1 23 := by
  obtain ⟨q1, q2, q3, q4, q5, q6, q7, q8⟩ := h.2.1
  have w : ∀ k, k = 0 ∨ k = 3 ∨ k = 5 ∨ k = 6 ∨ k = 7 → am_get ωc 23 k = am_get ω 1 k := fun k hk => (ec 23 k (by omega) (by omega)).trans (becF_W hk)
  have tT : ∀ j, j < 6 → am_get ωc 24 j = am_get ω 2 j := fun j hj => (ec 24 j (by omega) (by omega)).trans (becF_T (d := 23) (s := 1) hj)
  have tC : ∀ j, j < 5 → am_get ωc 25 j = am_get ω 3 j := fun j hj => (ec 25 j (by omega) (by omega)).trans (becF_C (d := 23) (s := 1) hj)
  have tV : ∀ i, i < 6 → ∀ f, f < 5 → am_get ωc (23 + 4 + i) f = am_get ω (1 + 4 + i) f := fun i hi f hf => (ec (23 + 4 + i) f (by omega) (by omega)).trans (becF_V (d := 23) (s := 1) hi hf)
  refine ⟨⟨fun i hi f hf => ?_, fun j hj => ?_, fun j hj => ?_, ?_, ?_, ?_, ?_, ?_⟩, osky_cp (m := ω.2.1) (w := 1) (w 0 (by omega)) (w 3 (by omega)) (w 6 (by omega)) tT tC tV h.2.2.1⟩
  · have := tV i hi f hf
    rw [show 23 + 4 + i = 27 + i by omega, show 1 + 4 + i = 5 + i by omega] at this
    rw [em _ _ (by omega), this]
    exact q1 i hi f hf
  · rw [em _ _ (by omega), tT j hj]; exact q2 j hj
  · rw [em _ _ (by omega), tC j hj]; exact q3 j hj
  · rw [em _ _ (by omega), w 0 (by omega)]; exact q4
  · rw [em _ _ (by omega), w 3 (by omega)]; exact q5
  · rw [em _ _ (by omega), w 5 (by omega)]; exact q6
  · rw [em _ _ (by omega), w 6 (by omega)]; exact q7
  · rw [em _ _ (by omega), w 7 (by omega)]; exact q8
end K113
