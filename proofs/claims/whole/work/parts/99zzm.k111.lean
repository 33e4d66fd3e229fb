/-! ===== world: steps and ships ===== -/
section K111
variable {ωc ωm : am_W} {L : Nat → Int} {n : Nat} {s : Int} {b e : Nat}
theorem cV_23 {ω : am_W} {i : Nat} : cV ω 23 i = am_get ω (27 + i) := by unfold cV; rw [show ((23 : Int) + 4 + (i : Int)).toNat = 27 + i by omega]
theorem st_step (h : Pre L n ωc ωm s b e) (w : Wd L s b e 5) : StR L n ωc ωm e (am_run (40, 0) 0 ([some (.inr (.inr 21)), none], [], ωc)) (am_run (178, 0) 0 ([some (.inr (.inr 53)), none, none, none], [], ωm)) := by
  obtain ⟨h1, h2, h3, h4, h5, h6⟩ := id h
  have B := h1.1.1
  have Bm := h2.1.1
  have q0 := pX7_statement_0 53 ωm (i_53 Bm)
  rw [bi_v (m_isWord h2 h5 h6 (k := 0) (by omega)), b01_neg (wd_x (by omega) (by omega) (by omega) w), if_pos rfl] at q0
  have q39 := pX7_statement_39 53 none none none ωm (i_53 Bm)
  rw [bi_v (m_isWord h2 h5 h6 (k := 1) (by omega)), b01_neg (wd_x (by omega) (by omega) (by omega) w), if_pos rfl, if_pos (i_53 Bm), bi_v (m_isWord h2 h5 h6 (k := 2) (by omega)), b01_neg (wd_x (by omega) (by omega) (by omega) w), if_pos rfl] at q39
  have Q := pX7_statement_160 53 none none none ωm (i_53 Bm)
  rw [bi_v (m_isWord h2 h5 h6 (k := 5) (by omega)), b01_pos w, if_neg (by omega), if_pos (i_53 Bm)] at Q
  have pre := q0.trans q39
  have q := pX3_readSteps_0 21 ωc (i_21 B)
  obtain ⟨ωc1, s1, b1, e1, r1, T1, C1, f1⟩ := c_take1 h1 h6
  have B1 := C1.1.1
  rw [bv_v r1, if_pos (i_21 B1)] at q
  have le1 : e ≤ e1 := by have := T1.1; have := T1.2.2.2.2.2.1; omega
  rcases num_pair C1 h2.1 h2.2.1 T1 (lo := 1) (hi := 60) (by omega) (by omega) with ⟨v, ωc2, ωm2, s2, b2, e2, v1, v2, rc, rm, T2, C2, M2, v20, f2, fm2⟩ | ⟨ωm2, rc, rm, x18, fm2⟩
  · have B2 := C2.1.1
    have Bm2 := M2.1.1
    have fc := f1.tr f2
    have ec : ∀ a k, 23 ≤ a → a ≤ 32 → am_get ωc2 a k = am_get ωc a k := fun a k z1 z2 => fc.2 a k (by omega)
    have sd := h3.f fc fm2
    have o := osky_f h4 ec
    obtain ⟨N, rfl⟩ : ∃ N : Nat, v = (N : Int) := ⟨v.toNat, by omega⟩
    obtain ⟨q1, q2, q3, q4, q5, q6, q7, q8⟩ := sd
    obtain ⟨o1, o2, o3, o4, o5, o6⟩ := id o
    have o2' : 0 ≤ am_get ωc2 23 3 ∧ am_get ωc2 23 3 ≤ 6 := o2
    have o1' : am_get ωc2 23 0 ≤ 6 := o1.2
    obtain ⟨K, hK⟩ : ∃ K : Nat, am_get ωc2 23 3 = (K : Int) := ⟨(am_get ωc2 23 3).toNat, by omega⟩
    have OVc : OV (am_get ωc2 23 0) (am_get ωc2 24) K (cV ωc2 23) := fun i hi => by
      have := o5 i (by show (i : Int) < am_get ωc2 23 3; omega)
      rw [cV_23, show 27 + i = 23 + 4 + i by omega]
      exact this
    have Tk : Tok (am_get ωc2 24) := fun j hj => o3 j hj
    obtain ⟨ωc3, ra, FA, ca, ha, ta⟩ := c_advance (W := 23) (Or.inr (Or.inr rfl)) (n := am_get ωc2 23 0) (T := am_get ωc2 24) (K := K) (N := N) (by omega) o1' Tk (by omega) (am_get ωc2 23 6) N 0 (by omega) ωc2 none B2 rfl rfl hK OVc
    obtain ⟨ωm3, rb, FB, cb, hb, tb⟩ := m_steps (n := am_get ωc2 23 0) (T := am_get ωc2 24) (K := K) (N := N) (by omega) o1' Tk (by omega) (am_get ωm2 53 13) N 0 (by omega) ωm2 (cV ωc2 23) none none Bm2 q4 (fun j hj => (q2 j hj).symm) (q5.trans hK) OVc (fun i hi f hf => by rw [cV_23]; exact (q1 i hi f hf).symm) (by rw [q7]; exact o6)
    have qa := pX5_advance_0 23 (N : Int) ωc2 (i_23 B2)
    have qb := pX7_steps_0 53 (N : Int) ωm2 (i_53 Bm2)
    have qa' := qa.trans ra
    have qb' := qb.trans rb
    rw [bi_v rc, if_pos (i_21 B2), show (21 : Int).toNat = 21 from rfl, C2.2.2.2.2, if_neg (fun z => z rfl), f_21_2 B2, if_pos (i_23 B2), bi_v qa'] at q
    have Bm3 := Bm2.dc FB.1
    rw [bi_v rm, if_pos (by omega), if_pos (i_53 Bm2), show (53 : Int).toNat = 53 from rfl, v20, bi_v qb', if_pos (i_53 Bm3)] at Q
    have M3 := M2.1.d FB.1 (fun a k z => FB.2 a k (by omega) (by omega))
    obtain ⟨ωm5, r5, M5, f5⟩ := m_next1 M3 ((FB.2 53 17 (by omega) (by omega)).trans M2.2.1) T2
    rw [bv_v r5] at Q
    have eA : ∀ a k, ¬ (27 ≤ a ∧ a ≤ 32) → ¬ (a = 23 ∧ (k = 5 ∨ k = 6)) → am_get ωc3 a k = am_get ωc2 a k := fun a k z1 z2 => FA.2 a k (by show ¬ (27 ≤ a ∧ a < 33); omega) z2
    have em : ∀ a k, (57 ≤ a ∧ a ≤ 63) ∨ (a = 53 ∧ k < 15) → am_get ωm5 a k = am_get ωm3 a k := fun a k z => f5.2 a k (by omega)
    have e13 : am_get ωm2 53 13 = am_get ωc2 23 6 := q7
    have ha' : am_get ωc3 23 6 = advH (am_get ωc2 24) K N (cV ωc2 23) (am_get ωc2 23 6) := ha
    have ta' : am_get ωc3 23 5 = am_w (am_get ωc2 23 5 + (N : Int)) := ta
    left
    refine ⟨ωc3, ωm5, e1, s2, b2, e2, q, pre.trans Q, le1, T2, C2.d FA.1 (fun a k z => eA a k (by omega) (by omega)), M5, ⟨fun i hi f hf => ?_, fun j hj => ?_, fun j hj => ?_, ?_, ?_, ?_, ?_, ?_⟩, ?_, ?_, fc.c.tr ⟨FA.1, fun a k z1 z2 => eA a k (by omega) (by omega)⟩, (fm2.m.tr ⟨FB.1, fun a k z1 z2 => FB.2 a k (by omega) (by omega)⟩).tr f5.m⟩
    · rw [em _ _ (by omega)]
      have := cb i hi f hf
      have cc := congrFun (ca i) f
      rw [cV_23] at cc
      rw [cc]
      exact this.symm
    · rw [em _ _ (by omega), FB.2 _ _ (by omega) (by omega), eA _ _ (by omega) (by omega)]; exact q2 j hj
    · rw [em _ _ (by omega), FB.2 _ _ (by omega) (by omega), eA _ _ (by omega) (by omega)]; exact q3 j hj
    · rw [em _ _ (by omega), FB.2 _ _ (by omega) (by omega), eA _ _ (by omega) (by omega)]; exact q4
    · rw [em _ _ (by omega), FB.2 _ _ (by omega) (by omega), eA _ _ (by omega) (by omega)]; exact q5
    · rw [em _ _ (by omega), tb, ta', q6]
    · rw [em _ _ (by omega), hb, ha', e13]
    · rw [em _ _ (by omega), FB.2 _ _ (by omega) (by omega), eA _ _ (by omega) (by omega)]; exact q8
    · obtain ⟨-, -, O'⟩ := adv_c (K := K) o1' Tk (fun _ _ => rfl : E6 (am_get ωc2 24) (am_get ωc2 24)) N (cV ωc2 23) (cV ωc2 23) 0 OVc (fun _ _ _ _ => rfl)
      have eT : ωc3.2.1 (23 + 1) = ωc2.2.1 (23 + 1) := funext fun j => eA _ _ (by omega) (by omega)
      have x0 : ωc3.2.1 23 0 = ωc2.2.1 23 0 := eA _ _ (by omega) (by omega)
      have x3 : ωc3.2.1 23 3 = ωc2.2.1 23 3 := eA _ _ (by omega) (by omega)
      unfold O_sky
      rw [x0, x3, eT]
      refine ⟨o1, o2, o3, fun j hj => ?_, fun i hi => ?_, ?_⟩
      · have : ωc3.2.1 (23 + 2) j = ωc2.2.1 (23 + 2) j := eA _ _ (by omega) (by omega)
        rw [this]; exact o4 j hj
      · have hi' : (i : Int) < am_get ωc2 23 3 := hi
        have := O' i (by omega)
        have cc := ca i
        rw [cV_23] at cc
        have c2 : ωc3.2.1 (23 + 4 + i) = advV (am_get ωc2 24) K N (cV ωc2 23) i := by rw [← cc, show 23 + 4 + i = 27 + i by omega]; rfl
        rw [c2]
        exact this
      · have : ωc3.2.1 23 6 = advH (am_get ωc2 24) K N (cV ωc2 23) (am_get ωc2 23 6) := ha
        rw [this]
        exact advH_R _ _ _ o6
    · rw [eA 23 3 (by omega) (by omega), ec 23 3 (by omega) (by omega)]
      exact Int.le_refl _
  · have f6 := f21_put B1 (k := 6) (v := (b1 : Int)) (by omega)
    have B3 := B1.dc f6.1
    rw [bi_v rc, if_pos (i_21 B3), show (21 : Int).toNat = 21 from rfl, if_pos f6_ne] at q
    rw [bi_v rm, if_neg (fun z => z rfl)] at Q
    exact Or.inr ⟨_, _, b1, q, pre.trans Q, gp_same, x18, (f1.tr f6).c, fm2.m⟩
section AD
variable {K : Nat} {k c p d : Int} {ωm' : am_W}
theorem ad_o {ω : am_W} {a j : Nat} (h : ¬ ((a = 27 + K ∧ j < 5) ∨ (a = 23 ∧ j = 3))) : am_get (addS ω 23 K k c p d) a j = am_get ω a j := addS_o (by rw [show ((23 : Int) + 4 + (K : Int)).toNat = 27 + K by omega]; exact h)
theorem ad_v {ω : am_W} {f : Nat} (hf : f < 5) : am_get (addS ω 23 K k c p d) (27 + K) f = nv k c p d f := by
  have := addS_v (ω := ω) (W := 23) (n := K) (k := k) (c := c) (p := p) (d := d) (Or.inr (Or.inr rfl)) hf
  rw [show ((23 : Int) + 4 + (K : Int)).toNat = 27 + K by omega] at this
  exact this
theorem ad_k {ω : am_W} : am_get (addS ω 23 K k c p d) 23 3 = (K : Int) + 1 := addS_k (W := 23)
theorem sd_add (h : SD ωc ωm) (hK : K < 6) (em : ∀ a j, (57 ≤ a ∧ a ≤ 63) ∨ (a = 53 ∧ j < 15) → ¬ (59 ≤ a ∧ j = K) → ¬ (a = 53 ∧ j = 6) → am_get ωm' a j = am_get ωm a j) (ev : ∀ f, f < 5 → am_get ωm' (59 + f) K = nv k c p d f) (e6 : am_get ωm' 53 6 = (K : Int) + 1) : SD (addS ωc 23 K k c p d) ωm' := by
  obtain ⟨q1, q2, q3, q4, q5, q6, q7, q8⟩ := h
  refine ⟨fun i hi f hf => ?_, fun j hj => ?_, fun j hj => ?_, ?_, ?_, ?_, ?_, ?_⟩
  · by_cases z : i = K
    · rw [z, ev f hf, ad_v hf]
    · rw [em _ _ (by omega) (by omega) (by omega), ad_o (by omega)]; exact q1 i hi f hf
  · rw [em _ _ (by omega) (by omega) (by omega), ad_o (by omega)]; exact q2 j hj
  · rw [em _ _ (by omega) (by omega) (by omega), ad_o (by omega)]; exact q3 j hj
  · rw [em _ _ (by omega) (by omega) (by omega), ad_o (by omega)]; exact q4
  · rw [e6, ad_k]
  · rw [em _ _ (by omega) (by omega) (by omega), ad_o (by omega)]; exact q6
  · rw [em _ _ (by omega) (by omega) (by omega), ad_o (by omega)]; exact q7
  · rw [em _ _ (by omega) (by omega) (by omega), ad_o (by omega)]; exact q8
theorem osky_add (o : O_sky ωc.2.1 23) (hK : K < 6) (e : am_get ωc 23 3 = (K : Int)) (hO : O_ship (am_get ωc 23 0) (am_get ωc 24) (nv k c p d)) : O_sky (addS ωc 23 K k c p d).2.1 23 := by
  obtain ⟨o1, o2, o3, o4, o5, o6⟩ := o
  have go : ∀ a j, ¬ ((a = 27 + K ∧ j < 5) ∨ (a = 23 ∧ j = 3)) → (addS ωc 23 K k c p d).2.1 a j = ωc.2.1 a j := fun a j z => ad_o z
  have gv : ∀ f, f < 5 → (addS ωc 23 K k c p d).2.1 (27 + K) f = nv k c p d f := fun f hf => ad_v hf
  have g3 : (addS ωc 23 K k c p d).2.1 23 3 = (K : Int) + 1 := ad_k
  have e' : ωc.2.1 23 3 = (K : Int) := e
  have eT : (addS ωc 23 K k c p d).2.1 (23 + 1) = ωc.2.1 (23 + 1) := funext fun j => go _ _ (by omega)
  unfold O_sky
  rw [go 23 0 (by omega), g3, go 23 6 (by omega), eT]
  refine ⟨o1, by omega, o3, fun j hj => by rw [go _ _ (by omega)]; exact o4 j hj, fun i hi => ?_, o6⟩
  by_cases z : i = K
  · subst z
    unfold O_ship
    rw [show 23 + 4 + i = 27 + i by omega, gv 0 (by omega), gv 1 (by omega), gv 2 (by omega), gv 3 (by omega), gv 4 (by omega)]
    exact hO
  · have : (addS ωc 23 K k c p d).2.1 (23 + 4 + i) = ωc.2.1 (23 + 4 + i) := funext fun j => go _ _ (by omega)
    rw [this]
    exact o5 i (by omega)
end AD
theorem c_time_n {ω : am_W} (h : Bs ω) : am_run (61, 0) 0 ([some (.inr (.inr 23)), some (.inl (-1))], [], ω) = some (some (.inl 2), ω) := by
  rw [pX5_timeOf_0 _ _ _ (i_23 h), if_pos (by omega)]
end K111
