/-! ===== the model goes on by a step: the loops ===== -/
section K64
variable {ω0 : am_W} {n : Int} {T C : Nat → Int} {K : Int} {i : Nat}
/-- whether it steers -/
noncomputable def stf (K : Int) : Int := b01 (K = 0 ∨ K = 1 ∨ K = 5)
abbrev GIm (n : Int) (T C : Nat → Int) (K : Int) (ω0 ω1 : am_W) (D : Nat) : Prop := GI (cvd n T) (cok n C K) (ctg T) (cln T) (cpc n C K) ω0 ω1 D
theorem m_down (h0 : Bs ω0) (mp : MP ω0 i n T C K) {ω1 : am_W} (f : F9 ω0 ω1) {c r m d D : Nat} (hc : (c : Int) < n) (hr : (r : Int) < T c) (hm : m < 8) (hA : am_get ω0 68 (stI (c * 20 + r) 0 m) = (d : Int)) (hd : d ≤ 1000) (G : GIm n T C K ω0 ω1 D) (hs : K = 0 ∨ K = 1 ∨ K = 5) : ∃ ω2, am_run (203, 0) 237 ([some (.inr (.inr 53)), some (.inl ((i : Int))), some (.inl (stf K)), some (.inl ((c : Int))), some (.inl ((r : Int))), some (.inl 0), some (.inl ((m : Int))), some (.inl ((d : Int))), some (.inl (T c / 2 - 1))], [], ω1) = am_run (203, 0) 99 ([some (.inr (.inr 53)), some (.inl ((i : Int))), some (.inl (stf K)), some (.inl ((c : Int))), some (.inl ((r : Int))), some (.inl 0), some (.inl (((m + 1 : Nat) : Int))), some (.inl ((d : Int))), some (.inl (T c / 2 - 1))], [], ω2) ∧ F9 ω0 ω2 ∧ GIm n T C K ω0 ω2 D ∧ Tri ω2 n T C K 2 (c * 20 + r) m d ∧ ∀ k, am_get ω2 69 k ≤ am_get ω1 69 k := by
  obtain ⟨on, oT, oC, oK, i6, e1, e2, e3, e4⟩ := id mp
  have tc := oT c (by omega)
  have B1 := h0.dc f.1
  have mp1 := mp.kp (ω' := ω1) (fun a k ha => f.2 a k (by omega))
  obtain ⟨_, _, _, _, _, e1', e2', e3', e4'⟩ := mp1
  have Q := pX7_goOn_237 53 i (stf K) c r 0 m d (T c / 2 - 1) ω1 (i_53 B1)
  have m1 : ∀ _ : Unit, am_w ((m : Int) + 1) = ((m + 1 : Nat) : Int) := fun _ => (am_w_s (by omega) (by omega)).trans (by omega)
  have hq : cvd n T (c * 20 + r) := by unfold cvd; rw [show (c * 20 + r) / 20 = c by omega, show (c * 20 + r) % 20 = r by omega]; exact ⟨hc, hr⟩
  by_cases g : c = 0
  · rw [if_pos (by omega), m1 ()] at Q
    exact ⟨ω1, Q, f, G, fun z => by have := ((ok_2 on.2 oC (by omega) hc).mp z).2; omega, fun _ => Int.le_refl _⟩
  · have ok := (ok_2 (K := K) on.2 oC (r := r) (by omega) hc).mpr ⟨hs, by omega⟩
    obtain ⟨v1, v2, v3⟩ := mv_2 (K := K) on.2 oT oC (by omega) hc hr
    have tn := oT (c - 1) (by omega)
    have fl := fL_ok (p := (r : Int)) (a := T c) tn.1
    have pb := fP_b (K := K) (oC (c - 1) (by omega))
    have ac := m_across B1 (by rw [e1']; exact on.2) (fun j hj => by rw [e2' j hj]; exact oT j hj) (c := (c : Int)) (p := (r : Int)) (t := ((c - 1 : Nat) : Int)) (by rw [e1']; omega) (by rw [e1']; omega) (by omega)
    rw [Int.toNat_natCast, Int.toNat_natCast, e2' _ (by omega), e2' _ (by omega)] at ac
    have pr := m_price B1 (fun j hj => by rw [e3' j hj]; exact oC j hj) i6 (l := ((c - 1 : Nat) : Int)) (by omega) (by omega)
    rw [Int.toNat_natCast, e3' _ (by omega), e4'] at pr
    obtain ⟨ω2, r2, f2, G2, t2, le2⟩ := m_try h0 mp f hq (x := 2) (by omega) ok hm hA hd G v1 (by omega) (b' := (T c / 2).toNat - 1) (by omega)
    have c1 : am_w ((c : Int) - 1) = ((c - 1 : Nat) : Int) := (am_w_s (by omega) (by omega)).trans (by omega)
    have ef : (((fL (r : Int) (T c) (T (c - 1))).toNat : Nat) : Int) = fL (r : Int) (T c) (T (c - 1)) := by omega
    have eb : (((T c / 2).toNat - 1 : Nat) : Int) = T c / 2 - 1 := by omega
    rw [ef, eb] at r2
    have dp : am_w ((d : Int) + fP K (C (c - 1))) = ((d + cpc n C K 2 (c * 20 + r) : Nat) : Int) := by
      rw [v3]
      exact (am_w_s (by clear c1; omega) (by clear c1; omega)).trans (by clear c1; omega)
    rw [if_neg (by clear c1 dp; omega), c1, bi_v ac, if_pos (i_53 B1), bi_v pr, if_pos (i_53 B1), dp, bv_v r2, m1 ()] at Q
    exact ⟨ω2, Q, f2, G2, t2, le2⟩
theorem m_body (h0 : Bs ω0) (mp : MP ω0 i n T C K) {ω1 : am_W} (f : F9 ω0 ω1) {c r b m : Nat} (hc : (c : Int) < n) (hr : (r : Int) < T c) (hb : b ≤ 10) (hm : m < 8) (hA : am_get ω0 68 (stI (c * 20 + r) b m) = 10000 ∨ ∃ d : Nat, d ≤ 1000 ∧ am_get ω0 68 (stI (c * 20 + r) b m) = (d : Int)) (G : GIm n T C K ω0 ω1 (stI (c * 20 + r) b m)) (o7 o8 : Option am_V) : ∃ (ω2 : am_W) (o7' o8' : Option am_V), am_run (203, 0) 99 ([some (.inr (.inr 53)), some (.inl ((i : Int))), some (.inl (stf K)), some (.inl ((c : Int))), some (.inl ((r : Int))), some (.inl ((b : Int))), some (.inl ((m : Int))), o7, o8], [], ω1) = am_run (203, 0) 99 ([some (.inr (.inr 53)), some (.inl ((i : Int))), some (.inl (stf K)), some (.inl ((c : Int))), some (.inl ((r : Int))), some (.inl ((b : Int))), some (.inl (((m + 1 : Nat) : Int))), o7', o8'], [], ω2) ∧ F9 ω0 ω2 ∧ GIm n T C K ω0 ω2 (stI (c * 20 + r) b m + 1) := by
  obtain ⟨on, oT, oC, oK, i6, e1, e2, e3, e4⟩ := id mp
  have ch := mp_c mp
  have tc := oT c (by omega)
  have B1 := h0.dc f.1
  have mp1 := mp.kp (ω' := ω1) (fun a k ha => f.2 a k (by omega))
  obtain ⟨_, _, _, _, _, e1', e2', e3', e4'⟩ := mp1
  have hq : cvd n T (c * 20 + r) := by unfold cvd; rw [show (c * 20 + r) / 20 = c by omega, show (c * 20 + r) % 20 = r by omega]; exact ⟨hc, hr⟩
  have A1 : am_get ω1 68 (stI (c * 20 + r) b m) = am_get ω0 68 (stI (c * 20 + r) b m) := f.2 _ _ (by omega)
  have lt : ((stI (c * 20 + r) b m : Nat) : Int) < 10560 := Int.ofNat_lt.mpr (stI_lt (by omega) hb hm)
  have m1 : ∀ _ : Unit, am_w ((m : Int) + 1) = ((m + 1 : Nat) : Int) := fun _ => (am_w_s (by omega) (by omega)).trans (by omega)
  have Q := pX7_goOn_99 53 i (stf K) c r b m o7 o8 ω1 (i_53 B1)
  rw [if_neg (by omega), bi_v (m_state (by omega) (by omega) hb hm)] at Q
  have t57 : am_get ω1 57 c = T c := e2' c (by omega)
  have tc0 : ¬ T c = 0 := by omega
  have n57 := n_57 B1 (i := (c : Int)) (by omega) (by omega)
  simp only [am_bi_s, am_bl_s, am_ba_s, am_bv_s, Int.toNat_zero, Int.reduceToNat, Int.toNat_natCast, if_true, if_false, not_true, not_false_eq_true, Int.reduceEq, Int.reduceLT, Int.reduceLE, f_53_25 B1, n_68 B1 (Int.natCast_nonneg _) lt, A1, i_53 B1, f_53_4 B1, n57, t57, if_neg tc0, m1 ()] at Q
  rcases hA with hA | ⟨d, d1, hA⟩
  · rw [hA, if_neg (fun z => z rfl)] at Q
    exact ⟨ω1, _, _, Q, f, gi_up G hb hm rfl (fun d hd hd' => by rw [hA] at hd; omega)⟩
  · rw [hA, if_pos (by omega)] at Q
    by_cases gb : b = 0
    · subst gb
      rw [if_pos (by omega)] at Q
      have m0 := Int.emod_nonneg ((r : Int) + 1) (show T c ≠ 0 by omega)
      have m2 := Int.emod_lt_of_pos ((r : Int) + 1) (show 0 < T c by omega)
      have rm : (am_w ((r : Int) + 1)).tmod (T c) = (((((r : Int) + 1) % T c).toNat : Nat) : Int) := by
        rw [am_w_s (by omega) (by omega), Int.tmod_eq_emod_of_nonneg (by omega)]
        omega
      rw [rm] at Q
      clear rm
      obtain ⟨v1, v2, v3⟩ := mv_0 (n := n) (C := C) (K := K) oT (c := c) (by omega) hr
      obtain ⟨ω2, r2, f2, G2, t2, le2⟩ := m_try h0 mp f hq (x := 0) (by omega) (Or.inl rfl) hm hA d1 G v1 (by omega) (b' := 0) v2
      rw [v3, Nat.add_zero] at r2
      have B2 := h0.dc f2.1
      have mp2 := mp.kp (ω' := ω2) (fun a k ha => f2.2 a k (by omega))
      obtain ⟨_, _, _, _, _, e1'', e2'', e3'', e4''⟩ := mp2
      have Q2 := pX7_goOn_157 53 i (stf K) c r ((0 : Nat) : Int) m d 53 c (((((r : Int) + 1) % T c).toNat : Nat) : Int) o8 ω1
      have mx : mx0 (am_w (((0 : Nat) : Int) - 1)) = ((0 : Nat) : Int) := rfl
      have fin : ∀ ω3, F9 ω0 ω3 → GIm n T C K ω0 ω3 (stI (c * 20 + r) 0 m) → Tri ω3 n T C K 0 (c * 20 + r) m d → Tri ω3 n T C K 1 (c * 20 + r) m d → Tri ω3 n T C K 2 (c * 20 + r) m d → GIm n T C K ω0 ω3 (stI (c * 20 + r) 0 m + 1) := by
        intro ω3 f3 G3 x0 x1 x2
        refine gi_up G3 (by omega) hm rfl (fun d' hd' _ q' b' e s => ?_)
        rw [hA] at hd'
        obtain rfl : d = d' := by omega
        rcases s with ⟨s1, _⟩ | ⟨_, x, y1, y2, y3, y4, y5⟩
        · omega
        · rw [y3, y5, show b' = cln T x (c * 20 + r) - 1 by omega]
          rcases (show x = 0 ∨ x = 1 ∨ x = 2 by omega) with rfl | rfl | rfl
          · exact x0 y2
          · exact x1 y2
          · exact x2 y2
      have z0 : ¬ (0 : Int) < ((0 : Nat) : Int) := by omega
      have n57' := n_57 B2 (i := (c : Int)) (by omega) (by omega)
      have t57' : am_get ω2 57 c = T c := e2'' c (by omega)
      have en2 : am_get ω2 53 3 = n := e1''
      rw [bi_v j_max0, mx, if_pos (i_53 B1), bv_v r2, if_neg z0] at Q2
      by_cases hs : K = 0 ∨ K = 1 ∨ K = 5
      · have st1 : stf K = 1 := b01_pos hs
        have hh := m_halfOf (ω := ω2) tc
        have nw : am_w (n - 1) = n - 1 := am_w_s (by omega) (by omega)
        have hw : am_w (T c / 2 - 1) = T c / 2 - 1 := am_w_s (by omega) (by omega)
        rw [if_pos (by rw [st1]; omega), if_pos (i_53 B2)] at Q2
        simp only [am_bi_s, am_bl_s, am_ba_s, am_bv_s, Int.toNat_zero, Int.reduceToNat, Int.toNat_natCast, if_true, if_false, not_true, not_false_eq_true, Int.reduceEq, Int.reduceLT, Int.reduceLE, f_53_4 B2, n57', t57', hh, i_53 B2, en2, nw, hw] at Q2
        clear nw hw
        by_cases gc : (c : Int) < n - 1
        · have ok := (ok_1 (K := K) on.2 oC (r := r) (by omega)).mpr ⟨hs, gc⟩
          obtain ⟨u1, u2, u3⟩ := mv_1 (K := K) on.2 oT oC gc hr
          have tn := oT (c + 1) (by omega)
          have fl := fL_ok (p := (r : Int)) (a := T c) tn.1
          have pb := fP_b (K := K) (oC c (by omega))
          have ac := m_across B2 (by rw [e1'']; exact on.2) (fun j hj => by rw [e2'' j hj]; exact oT j hj) (c := (c : Int)) (p := (r : Int)) (t := ((c + 1 : Nat) : Int)) (by rw [e1'']; omega) (by rw [e1'']; omega) (by omega)
          rw [Int.toNat_natCast, Int.toNat_natCast, e2'' _ (by omega), e2'' _ (by omega)] at ac
          have pr := m_price B2 (fun j hj => by rw [e3'' j hj]; exact oC j hj) i6 (l := (c : Int)) (by omega) (by omega)
          rw [Int.toNat_natCast, e3'' _ (by omega), e4''] at pr
          obtain ⟨ω3, r3, f3, G3, t3, le3⟩ := m_try h0 mp f2 hq (x := 1) (by omega) ok hm hA d1 G2 u1 (by omega) (b' := (T c / 2).toNat - 1) (by omega)
          have ef : (((fL (r : Int) (T c) (T (c + 1))).toNat : Nat) : Int) = fL (r : Int) (T c) (T (c + 1)) := by omega
          have eb : (((T c / 2).toNat - 1 : Nat) : Int) = T c / 2 - 1 := by omega
          rw [ef, eb] at r3
          have c1 : am_w ((c : Int) + 1) = ((c + 1 : Nat) : Int) := (am_w_s (by omega) (by omega)).trans (by omega)
          have dp : am_w ((d : Int) + fP K (C c)) = ((d + cpc n C K 1 (c * 20 + r) : Nat) : Int) := by
            rw [u3]
            exact (am_w_s (by clear c1; omega) (by clear c1; omega)).trans (by clear c1; omega)
          rw [if_neg (by clear c1 dp; omega), c1, bi_v ac, if_pos (i_53 B2), bi_v pr, if_pos (i_53 B2), dp, bv_v r3] at Q2
          clear c1 dp
          obtain ⟨ω4, r4, f4, G4, t4, le4⟩ := m_down h0 mp f3 hc hr hm hA d1 G3 hs
          exact ⟨ω4, _, _, Q.trans (Q2.trans r4), f4, fin ω4 f4 G4 ((t2.le le3).le le4) (t3.le le4) t4⟩
        · rw [if_pos (by omega)] at Q2
          obtain ⟨ω4, r4, f4, G4, t4, le4⟩ := m_down h0 mp f2 hc hr hm hA d1 G2 hs
          exact ⟨ω4, _, _, Q.trans (Q2.trans r4), f4, fin ω4 f4 G4 (t2.le le4) (fun z => absurd ((ok_1 on.2 oC (by omega)).mp z).2 gc) t4⟩
      · have st0 : stf K = 0 := b01_neg hs
        rw [if_neg (fun z => z st0), m1 ()] at Q2
        exact ⟨ω2, _, _, Q.trans Q2, f2, fin ω2 f2 G2 t2 (fun z => absurd ((ok_1 on.2 oC (by omega)).mp z).1 hs) (fun z => absurd ((ok_2 on.2 oC (by omega) hc).mp z).1 hs)⟩
    · rw [if_neg (by omega)] at Q
      have Q2 := pX7_goOn_157 53 i (stf K) c r (b : Int) m d 53 c r o8 ω1
      have bw : am_w ((b : Int) - 1) = (b : Int) - 1 := am_w_s (by omega) (by omega)
      have mx : mx0 (am_w ((b : Int) - 1)) = ((b - 1 : Nat) : Int) := by
        rw [bw]
        clear bw
        unfold mx0
        by_cases z : 0 < (b : Int) - 1
        · rw [if_pos z]; omega
        · rw [if_neg z]; omega
      clear bw
      have sp : Sp1 (cok n C K) (ctg T) (cln T) (cpc n C K) (c * 20 + r) b (c * 20 + r) (b - 1) 0 := Or.inl ⟨by omega, rfl, by omega, rfl⟩
      obtain ⟨g1, g2, g3⟩ := gi_bt ch G hq hb hm hA (by omega) sp
      rw [Nat.add_zero] at g1 g2 g3
      rw [bi_v j_max0, mx, if_pos (i_53 B1), bv_v (m_better B1 (by clear mx; omega) (by clear mx; omega) (by clear mx; omega) hm), if_pos (by clear mx; omega), m1 ()] at Q2
      refine ⟨_, _, _, Q.trans Q2, f.tr (bt_9 B1), gi_up g1 hb hm rfl (fun d' hd' _ q' b' e s => ?_)⟩
      rw [hA] at hd'
      obtain rfl : d = d' := by clear mx; omega
      rcases s with ⟨s1, s2, s3, s4⟩ | ⟨s1, _⟩
      · rw [s2, s4, show b' = b - 1 by clear mx; omega]; exact g2
      · exact absurd s1 gb
end K64
