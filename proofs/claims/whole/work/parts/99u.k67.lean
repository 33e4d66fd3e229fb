/-! ===== the model's least ===== -/
section K67
variable {ω : am_W} {n : Int} {T C : Nat → Int} {K : Int} {q0 b0 : Nat}
/-- the number that stands where the other is -/
def vAt (ω : am_W) (T u : Nat → Int) (t : Nat) : Int := if (t : Int) < u 4 then 10000 else am_get ω 68 (stI (spF T u (t : Int)).toNat 0 0)
abbrev MWF (n : Int) (T C : Nat → Int) (K : Int) (q0 b0 : Nat) (u : Nat → Int) (t d : Nat) : Prop := MW (cok n C K) (ctg T) (cln T) (cpc n C K) q0 b0 (fun t => spF T u (t : Int)) t d
theorem sp_b (hn : n ≤ 6) (hT : Tok T) {u : Nat → Int} (O : O_ship n T u) {t : Int} (h : ¬ t < u 4) : 0 ≤ spF T u t ∧ spF T u t < 120 ∧ spF T u t = u 1 * 20 + plF T u t := by
  have pl := pl_ok (t := t) hn hT O
  have o1 := O.2.1
  have tt := hT (u 1).toNat (by omega)
  have e : spF T u t = u 1 * 20 + plF T u t := by unfold spF; rw [if_neg h]
  rw [e]
  exact ⟨by omega, by omega, rfl⟩
theorem v_at (hn : n ≤ 6) (hT : Tok T) {u : Nat → Int} (O : O_ship n T u) {t : Nat} (h : NI ω n T C K q0 b0 t) : (vAt ω T u t = 10000 ∨ ∃ d : Nat, vAt ω T u t = (d : Int) ∧ MWF n T C K q0 b0 u t d) ∧ ∀ d, MWF n T C K q0 b0 u t d → vAt ω T u t ≤ (d : Int) := by
  unfold vAt
  by_cases g : (t : Int) < u 4
  · rw [if_pos g]
    refine ⟨Or.inl rfl, fun d hd => ?_⟩
    obtain ⟨q, _, h2⟩ := hd
    have : spF T u (t : Int) = -1 := by unfold spF; rw [if_pos g]
    have h2' : spF T u (t : Int) = (q : Int) := h2
    omega
  · rw [if_neg g]
    obtain ⟨s1, s2, _⟩ := sp_b hn hT O g
    refine ⟨?_, fun d hd => ?_⟩
    · rcases h.1 (spF T u (t : Int)).toNat 0 0 (by omega) (by omega) (by omega) with z | ⟨d, z1, _, z2⟩
      · exact Or.inl z
      · exact Or.inr ⟨d, z1, _, z2, by show spF T u (t : Int) = _; omega⟩
    · obtain ⟨q, h1, h2⟩ := hd
      have h2' : spF T u (t : Int) = (q : Int) := h2
      rw [h2', Int.toNat_natCast]
      exact h.2 _ _ _ h1
theorem mk_kp {ω' : am_W} (f : F89 ω ω') : (∀ a k, a < 67 → am_get ω' a k = am_get ω a k) := fun a k ha => f.2 a k (by omega) (by omega)
/-- the model looks where the other is -/
theorem m_look {i : Nat} (h : Bs ω) (mp : MP ω i n T C K) {o : Nat} (ho : o < 6) {u : Nat → Int} (hu : E5 u (mV ω o)) (O : O_ship n T u) {t : Nat} (ht : t ≤ 60) {l3 l4 l5 l6 : Int} {o8 o9 : Option am_V} : ∃ o8' : Int, am_run (205, 0) 30 ([some (.inr (.inr 53)), some (.inl ((i : Int))), some (.inl ((o : Int))), some (.inl l3), some (.inl l4), some (.inl l5), some (.inl l6), some (.inl ((t : Int))), o8, o9], [], ω) = am_run (205, 0) 69 ([some (.inr (.inr 53)), some (.inl ((i : Int))), some (.inl ((o : Int))), some (.inl l3), some (.inl l4), some (.inl l5), some (.inl l6), some (.inl ((t : Int))), some (.inl o8'), o9], [(.inl (vAt ω T u t))], ω) := by
  obtain ⟨on, oT, oC, oK, i6, e1, e2, e3, e4⟩ := id mp
  have e6 : E6 T (mT ω) := fun j hj => (e2 j hj).symm
  have mO : O_ship (mn ω) (mT ω) (mV ω o) := by
    obtain ⟨p0, p1, p2, p3, p4⟩ := O
    rw [e1]
    rw [hu 0 (by omega)] at p0
    rw [hu 1 (by omega)] at p1 p2
    rw [hu 2 (by omega)] at p2
    rw [hu 3 (by omega)] at p3
    rw [hu 4 (by omega)] at p4
    refine ⟨p0, p1, ?_, p3, p4⟩
    rw [← e6 _ (by omega)]
    exact p2
  have pa := m_placeAt h (by rw [e1]; exact on.2) (fun j hj => by rw [e2 j hj]; exact oT j hj) ho mO (t := (t : Int)) ⟨by omega, by omega⟩
  rw [← pa_c on.2 O hu e6] at pa
  have Q := pX7_least_30 53 i o l3 l4 l5 l6 t o8 o9 ω (i_53 h)
  rw [bi_v pa] at Q
  unfold paF at Q
  unfold vAt
  by_cases g : (t : Int) < u 4
  · rw [if_pos g] at Q ⊢
    rw [if_neg (fun z => z rfl)] at Q
    exact ⟨_, Q⟩
  · rw [if_neg g] at Q ⊢
    obtain ⟨s1, s2, s3⟩ := sp_b on.2 oT O g
    have pl := pl_ok (t := (t : Int)) on.2 oT O
    have o1 := O.2.1
    have tt := oT (u 1).toNat (by omega)
    have u1 : am_get ω 60 o = (((u 1).toNat : Nat) : Int) := by
      have : am_get ω 60 o = u 1 := (hu 1 (by omega)).symm
      rw [this]; omega
    have ep : plF T u (t : Int) = (((plF T u (t : Int)).toNat : Nat) : Int) := by omega
    have ms : am_run (200, 0) 0 ([some (.inl ((((u 1).toNat : Nat) : Int))), some (.inl ((((plF T u (t : Int)).toNat : Nat) : Int))), some (.inl 0), some (.inl 0)], [], ω) = some (some (.inl (stI ((u 1).toNat * 20 + (plF T u (t : Int)).toNat) 0 0 : Int)), ω) := m_state (b := 0) (m := 0) (by omega) (by omega) (by omega) (by omega)
    have lt : ((stI ((u 1).toNat * 20 + (plF T u (t : Int)).toNat) 0 0 : Nat) : Int) < 10560 := Int.ofNat_lt.mpr (stI_lt (by omega) (by omega) (by omega))
    have es : (spF T u (t : Int)).toNat = (u 1).toNat * 20 + (plF T u (t : Int)).toNat := by omega
    rw [if_pos (by omega)] at Q
    rw [ep] at Q
    simp only [am_bi_s, am_bl_s, am_ba_s, am_bv_s, Int.toNat_zero, Int.reduceToNat, Int.toNat_natCast, if_true, if_false, not_true, not_false_eq_true, Int.reduceEq, Int.reduceLT, Int.reduceLE, i_53 h, f_53_8 h, n_60 h (i := (o : Int)) (by omega) (by omega), u1, ms, f_53_25 h, n_68 h (Int.natCast_nonneg _) lt] at Q
    rw [es]
    exact ⟨_, Q⟩
/-- all that a search in the model needs -/
def MS (ω : am_W) (i o : Nat) (n : Int) (T C : Nat → Int) (K : Int) (u : Nat → Int) (q0 b0 : Nat) : Prop := Bs ω ∧ MP ω i n T C K ∧ o < 6 ∧ E5 u (mV ω o) ∧ O_ship n T u ∧ cvd n T q0 ∧ b0 ≤ 10
theorem MS.kp {ω' : am_W} {i o : Nat} {u : Nat → Int} (h : MS ω i o n T C K u q0 b0) (f : F89 ω ω') : MS ω' i o n T C K u q0 b0 := by
  obtain ⟨h1, h2, h3, h4, h5, h6, h7⟩ := h
  exact ⟨h1.dc f.1, h2.kp (mk_kp f), h3, fun j hj => (h4 j hj).trans (f.2 _ _ (by omega) (by omega)).symm, h5, h6, h7⟩
section LL
variable {i o : Nat} {u : Nat → Int}
/-- one turn of the loop: the numbers of step t are there -/
theorem m_turn (h : MS ω i o n T C K u q0 b0) {t last : Nat} (ht : t ≤ last) (hl : last ≤ 60) (N : (t = 0 ∧ NI ω n T C K q0 b0 0) ∨ ∃ t', t = t' + 1 ∧ NI ω n T C K q0 b0 t') {l4 l5 l6 : Int} {o8 o9 : Option am_V} : ∃ (ω' : am_W) (o8' : Int), am_run (205, 0) 14 ([some (.inr (.inr 53)), some (.inl ((i : Int))), some (.inl ((o : Int))), some (.inl ((last : Int))), some (.inl l4), some (.inl l5), some (.inl l6), some (.inl ((t : Int))), o8, o9], [], ω) = am_run (205, 0) 69 ([some (.inr (.inr 53)), some (.inl ((i : Int))), some (.inl ((o : Int))), some (.inl ((last : Int))), some (.inl l4), some (.inl l5), some (.inl l6), some (.inl ((t : Int))), some (.inl o8'), o9], [(.inl (vAt ω' T u t))], ω') ∧ F89 ω ω' ∧ NI ω' n T C K q0 b0 t := by
  obtain ⟨h1, h2, h3, h4, h5, h6, h7⟩ := id h
  have hc := mp_c h2
  have Q := pX7_least_14 53 i o last l4 l5 l6 t o8 o9 ω (i_53 h1)
  rw [if_neg (by omega)] at Q
  rcases N with ⟨rfl, N⟩ | ⟨t', rfl, N⟩
  · rw [if_pos (by omega)] at Q
    obtain ⟨o8', r⟩ := m_look h1 h2 h3 h4 h5 (t := 0) (by omega) (i := i) (l3 := last) (l4 := l4) (l5 := l5) (l6 := l6) (o8 := o8) (o9 := o9)
    exact ⟨ω, o8', Q.trans r, F89.rf, N⟩
  · rw [if_neg (by omega)] at Q
    obtain ⟨ω1, r1, f1, g1⟩ := m_goOn h1 h2 (N.rg hc h6 h7 (by omega))
    rw [bv_v r1] at Q
    obtain ⟨k1, k2, k3, k4, k5, k6, k7⟩ := h.kp f1
    obtain ⟨o8', r⟩ := m_look k1 k2 k3 k4 k5 (t := t' + 1) (by omega) (i := i) (l3 := last) (l4 := l4) (l5 := l5) (l6 := l6) (o8 := o8) (o9 := o9)
    exact ⟨ω1, o8', Q.trans r, f1, N.step hc h6 h7 (by omega) g1⟩
theorem m_least0 (h : MS ω i o n T C K u q0 b0) {last : Nat} (hl : last ≤ 60) : ∀ k t : Nat, t + k = last + 1 → ∀ (ω1 : am_W) (l6 : Int) (o8 o9 : Option am_V), F89 ω ω1 → ((t = 0 ∧ NI ω1 n T C K q0 b0 0) ∨ ∃ t', t = t' + 1 ∧ NI ω1 n T C K q0 b0 t') → ((l6 = 10000 ∧ ∀ t', t' < t → ∀ d, ¬ MWF n T C K q0 b0 u t' d) ∨ ∃ f : Nat, l6 = (f : Int) ∧ f < 10000 ∧ (∃ t', t' < t ∧ MWF n T C K q0 b0 u t' f) ∧ ∀ t', t' < t → ∀ d, MWF n T C K q0 b0 u t' d → f ≤ d) → ∃ (ω2 : am_W) (r : Int), am_run (205, 0) 14 ([some (.inr (.inr 53)), some (.inl ((i : Int))), some (.inl ((o : Int))), some (.inl ((last : Int))), some (.inl 9999), some (.inl 0), some (.inl l6), some (.inl ((t : Int))), o8, o9], [], ω1) = some (some (.inl r), ω2) ∧ F89 ω ω2 ∧ Lst (MWF n T C K q0 b0 u) last (if r = 10000 then -1 else r) := by
  obtain ⟨h1, h2, h3, h4, h5, h6, h7⟩ := id h
  obtain ⟨on, oT, _⟩ := id h2
  have hc := mp_c h2
  have b540 : ∀ t d, t ≤ 60 → MWF n T C K q0 b0 u t d → d ≤ 540 := fun t d ht w => by
    obtain ⟨q, w1, _⟩ := w
    have := (pi_v hc h6 h7 w1).2.2
    omega
  intro k
  induction k with
  | zero =>
    intro t ht ω1 l6 o8 o9 f N I
    obtain rfl : t = last + 1 := by omega
    have Q := pX7_least_14 53 i o last 9999 0 l6 ((last + 1 : Nat) : Int) o8 o9 ω1 (i_53 (h1.dc f.1))
    rw [if_pos (by omega)] at Q
    refine ⟨ω1, l6, Q, f, ?_⟩
    rcases I with ⟨rfl, z⟩ | ⟨f', rfl, z1, ⟨t', z2, z3⟩, z4⟩
    · rw [if_pos rfl]
      exact Or.inl ⟨rfl, fun t ht => z t (by omega)⟩
    · rw [if_neg (by omega)]
      exact Or.inr ⟨f', rfl, ⟨t', by omega, z3⟩, fun t ht => z4 t (by omega)⟩
  | succ k ih =>
    intro t ht ω1 l6 o8 o9 f N I
    obtain ⟨ω2, o8', r2, f2, N2⟩ := m_turn (h.kp f) (by omega) hl N (l4 := 9999) (l5 := 0) (l6 := l6) (o8 := o8) (o9 := o9)
    obtain ⟨v1, v2⟩ := v_at on.2 oT h5 N2
    have Q := pX7_least_69 53 i o last 9999 0 l6 t o8' (vAt ω2 T u t) o9 ω2
    have tw : ∀ _ : Unit, am_w ((t : Int) + 1) = ((t + 1 : Nat) : Int) := fun _ => (am_w_s (by omega) (by omega)).trans (by omega)
    rw [tw ()] at Q
    rcases v1 with v | ⟨d, v, w⟩
    · rw [if_neg (by omega)] at Q
      obtain ⟨ω3, r, q, rest⟩ := ih (t + 1) (by omega) ω2 l6 _ _ (f.tr f2) (Or.inr ⟨t, rfl, N2⟩) (by
        have none : ∀ d, ¬ MWF n T C K q0 b0 u t d := fun d w => by
          have a := v2 d w
          have b := b540 t d (by omega) w
          omega
        rcases I with ⟨z1, z⟩ | ⟨f', z0, z1, ⟨t', z2, z3⟩, z4⟩
        · refine Or.inl ⟨z1, fun t' ht' d => ?_⟩
          by_cases y : t' = t
          · rw [y]; exact none d
          · exact z t' (by omega) d
        · refine Or.inr ⟨f', z0, z1, ⟨t', by omega, z3⟩, fun t2 ht2 d w => ?_⟩
          by_cases y : t2 = t
          · rw [y] at w; exact absurd w (none d)
          · exact z4 t2 (by omega) d w)
      exact ⟨ω3, r, r2.trans (Q.trans q), rest⟩
    · have d5 := b540 t d (by omega) w
      rw [v] at Q r2
      rw [if_pos (by omega), bi_v j_min, if_neg (fun z => z rfl)] at Q
      obtain ⟨m1, m2, m3⟩ := mi2_l (a := l6) (b := (d : Int))
      obtain ⟨ω3, r, q, rest⟩ := ih (t + 1) (by omega) ω2 (mi2 l6 (d : Int)) _ _ (f.tr f2) (Or.inr ⟨t, rfl, N2⟩) (by
        right
        rcases I with ⟨z1, z⟩ | ⟨f', z0, z1, ⟨t', z2, z3⟩, z4⟩
        · refine ⟨d, by omega, by omega, ⟨t, by omega, w⟩, fun t2 ht2 d2 w2 => ?_⟩
          by_cases y : t2 = t
          · rw [y] at w2
            have := v2 d2 w2
            omega
          · exact absurd w2 (z t2 (by omega) d2)
        · by_cases lt : d < f'
          · refine ⟨d, by omega, by omega, ⟨t, by omega, w⟩, fun t2 ht2 d2 w2 => ?_⟩
            by_cases y : t2 = t
            · rw [y] at w2
              have := v2 d2 w2
              omega
            · have := z4 t2 (by omega) d2 w2
              omega
          · refine ⟨f', by omega, z1, ⟨t', by omega, z3⟩, fun t2 ht2 d2 w2 => ?_⟩
            by_cases y : t2 = t
            · rw [y] at w2
              have := v2 d2 w2
              omega
            · exact z4 t2 (by omega) d2 w2)
      exact ⟨ω3, r, r2.trans (Q.trans q), rest⟩
end LL
end K67
