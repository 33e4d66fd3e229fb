/-! ===== round: the model's least ===== -/
section K72
variable {n : Int} {T C : Nat → Int} {K : Int} {V : Nat → Nat → Int} {mem : Nat → Nat} {M q0 b0 : Nat} {ω : am_W} {i : Nat}
theorem m_238 (h : Bs ω) {set last : Int} {t M W : Nat} (hW : W < 8) (ht : t ≤ 60) {o9 o10 o11 o12 : Option am_V} : ∀ d j : Nat, j + d = 1320 → ∀ best : Int, ∃ best' : Int, am_run (211, 0) 238 ([some (.inr (.inr 53)), some (.inl ((i : Int))), some (.inl set), some (.inl last), some (.inl ((W : Int))), some (.inl best), some (.inl ((t : Int))), some (.inl ((M : Int))), some (.inl (((8 * j : Nat) : Int))), o9, o10, o11, o12], [], ω) = am_run (211, 0) 81 ([some (.inr (.inr 53)), some (.inl ((i : Int))), some (.inl set), some (.inl last), some (.inl ((W : Int))), some (.inl best'), some (.inl (((t + 1 : Nat) : Int))), some (.inl ((M : Int))), some (.inl 10560), o9, o10, o11, o12], [], ω) ∧ best' ≤ best ∧ (∀ j', j ≤ j' → j' < 1320 → best' ≤ am_get ω 68 (8 * j' + W)) ∧ (best' = best ∨ ∃ j', j' < 1320 ∧ best' = am_get ω 68 (8 * j' + W)) := by
  intro d
  induction d with
  | zero =>
    intro j hj best
    obtain rfl : j = 1320 := by omega
    have Q := pX7_round_238 53 i set last W best t M ((8 * 1320 : Nat) : Int) o9 o10 o11 o12 ω (i_53 h)
    simp only [am_bi_s, am_bl_s, am_ba_s, am_bv_s, Int.toNat_zero, Int.reduceToNat, Int.toNat_natCast, if_true, if_false, not_true, not_false_eq_true, Int.reduceEq, Int.reduceLT, Int.reduceLE, f_53_25 h, (ar_68 h).1, (ar_68 h).2] at Q
    rw [if_pos (by omega), am_w_s (by omega) (by omega), show (t : Int) + 1 = ((t + 1 : Nat) : Int) by omega] at Q
    exact ⟨best, Q, Int.le_refl _, fun j' h1 h2 => by omega, Or.inl rfl⟩
  | succ d ih =>
    intro j hj best
    have a1 : ¬ ((10560 : Nat) : Int) ≤ ((8 * j : Nat) : Int) := by omega
    have a2 : (0 : Int) ≤ ((8 * j + W : Nat) : Int) := by omega
    have a3 : ((8 * j + W : Nat) : Int) < 10560 := by omega
    have w1 : am_w (((8 * j : Nat) : Int) + (W : Int)) = ((8 * j + W : Nat) : Int) := (am_w_s (by omega) (by omega)).trans (by omega)
    have w2 : am_w (((8 * j : Nat) : Int) + 8) = ((8 * (j + 1) : Nat) : Int) := by
      clear w1
      exact (am_w_s (by omega) (by omega)).trans (by omega)
    have Q := pX7_round_238 53 i set last W best t M ((8 * j : Nat) : Int) o9 o10 o11 o12 ω (i_53 h)
    simp only [am_bi_s, am_bl_s, am_ba_s, am_bv_s, Int.toNat_zero, Int.reduceToNat, Int.toNat_natCast, if_true, if_false, not_true, not_false_eq_true, Int.reduceEq, Int.reduceLT, Int.reduceLE, f_53_25 h, (ar_68 h).1, (ar_68 h).2, if_neg a1, w1, w2, n_68 h a2 a3, j_min] at Q
    clear w1 w2
    obtain ⟨m1, m2, m3⟩ := mi2_l (a := best) (b := am_get ω 68 (8 * j + W))
    obtain ⟨b', r, x1, x2, x3⟩ := ih (j + 1) (by omega) (mi2 best (am_get ω 68 (8 * j + W)))
    refine ⟨b', Q.trans r, Int.le_trans x1 m1, fun j' h1 h2 => ?_, ?_⟩
    · by_cases z : j' = j
      · rw [z]; exact Int.le_trans x1 m2
      · exact x2 j' (by omega) h2
    · rcases x3 with y | y
      · rw [y]
        rcases m3 with z | z
        · exact Or.inl z
        · exact Or.inr ⟨j, by omega, z⟩
      · exact Or.inr y
/-- all of W are met, at rest or under way -/
def RW (n : Int) (T C : Nat → Int) (K : Int) (V : Nat → Nat → Int) (mem : Nat → Nat) (M q0 b0 W t d : Nat) : Prop := ∃ q b m', PhF n T C K V mem M q0 b0 t q b m' d ∧ mtk T V mem M t q b m' = W
theorem m_81 (h : Bs ω) (mp : MP ω i n T C K) (hv : cvd n T q0) (hb : b0 ≤ 10) (hM : M ≤ 3) {N : Nat} (hN : am_get ω 53 6 = (N : Int)) (N6 : N ≤ 6) (hV : ∀ s, s < N → E5 (V s) (mV ω s) ∧ O_ship n T (V s)) {B : Nat → Prop} {cnt : Nat → Nat} (cn : CN B cnt mem N M) {set : Int} (hB : ∀ s : Nat, s < N → ∀ ω', am_run (150, 0) 0 ([some (.inl set), some (.inl ((s : Int)))], [], ω') = some (some (.inl (b01 (B s))), ω')) {last W : Nat} (hl : last ≤ 60) (hW : W < 8) (hmW : ∀ t q b m d, PhF n T C K V mem M q0 b0 t q b m d → mtk T V mem M t q b m ≤ W) : ∀ k t : Nat, t + k = last + 1 → ∀ (ω1 : am_W) (best : Int) (o7 o8 o9 o10 o11 o12 : Option am_V), F89 ω ω1 → ((t = 0 ∧ RNS n T C K V mem M q0 b0 ω1 0 0 ∧ RNC n T C K V mem M q0 b0 ω1 0 0) ∨ ∃ t', t = t' + 1 ∧ RNS n T C K V mem M q0 b0 ω1 t' M ∧ RNC n T C K V mem M q0 b0 ω1 t' M) → ((best = 10000 ∧ ∀ t', t' < t → ∀ d, ¬ RW n T C K V mem M q0 b0 W t' d) ∨ ∃ f : Nat, best = (f : Int) ∧ f < 10000 ∧ (∃ t', t' < t ∧ RW n T C K V mem M q0 b0 W t' f) ∧ ∀ t', t' < t → ∀ d, RW n T C K V mem M q0 b0 W t' d → f ≤ d) → ∃ (ω2 : am_W) (r : Int), am_run (211, 0) 81 ([some (.inr (.inr 53)), some (.inl ((i : Int))), some (.inl set), some (.inl ((last : Int))), some (.inl ((W : Int))), some (.inl best), some (.inl ((t : Int))), o7, o8, o9, o10, o11, o12], [], ω1) = some (some (.inl r), ω2) ∧ F89 ω ω2 ∧ Lst (RW n T C K V mem M q0 b0 W) last r := by
  obtain ⟨on, oT, oC, oK, i6, e1, e2, e3, e4⟩ := id mp
  have hc := mp_c mp
  obtain ⟨c0, cN, cs⟩ := id cn
  have b540 : ∀ t d, t ≤ 60 → RW n T C K V mem M q0 b0 W t d → d ≤ 540 := fun t d ht w => by
    obtain ⟨q, b, m', w1, _⟩ := w
    have := (ph_v hc hv hb hM w1).2.2.1
    omega
  intro k
  induction k with
  | zero =>
    intro t ht ω1 best o7 o8 o9 o10 o11 o12 f N0 I
    obtain rfl : t = last + 1 := by omega
    have Q := pX7_round_81 53 i set last W best ((last + 1 : Nat) : Int) o7 o8 o9 o10 o11 o12 ω1 (i_53 (h.dc f.1))
    rw [if_pos (by omega)] at Q
    rcases I with ⟨rfl, z⟩ | ⟨f', rfl, z1, ⟨t', z2, z3⟩, z4⟩
    · rw [if_neg (fun z => z rfl)] at Q
      exact ⟨ω1, _, Q, f, Or.inl ⟨rfl, fun t ht => z t (by omega)⟩⟩
    · rw [if_pos (by omega)] at Q
      exact ⟨ω1, _, Q, f, Or.inr ⟨f', rfl, ⟨t', by omega, z3⟩, fun t ht => z4 t (by omega)⟩⟩
  | succ k ih =>
    intro t ht ω1 best o7 o8 o9 o10 o11 o12 f N0 I
    -- the numbers before the merges
    obtain ⟨ω2, r2, f2, S2, C2⟩ : ∃ ω2, am_run (211, 0) 81 ([some (.inr (.inr 53)), some (.inl ((i : Int))), some (.inl set), some (.inl ((last : Int))), some (.inl ((W : Int))), some (.inl best), some (.inl ((t : Int))), o7, o8, o9, o10, o11, o12], [], ω1) = am_run (211, 0) 103 ([some (.inr (.inr 53)), some (.inl ((i : Int))), some (.inl set), some (.inl ((last : Int))), some (.inl ((W : Int))), some (.inl best), some (.inl ((t : Int))), some (.inl 0), some (.inl 0), o9, o10, o11, o12], [], ω2) ∧ F89 ω ω2 ∧ RNS n T C K V mem M q0 b0 ω2 t 0 ∧ RNC n T C K V mem M q0 b0 ω2 t 0 := by
      have B1 := h.dc f.1
      have Q := pX7_round_81 53 i set last W best t o7 o8 o9 o10 o11 o12 ω1 (i_53 B1)
      rw [if_neg (by omega)] at Q
      rcases N0 with ⟨rfl, S, Cc⟩ | ⟨t', rfl, S, Cc⟩
      · rw [if_pos (by omega)] at Q
        exact ⟨ω1, Q, f, S, Cc⟩
      · rw [if_neg (by omega)] at Q
        obtain ⟨ω2, r2, f2, g2⟩ := m_goOn B1 (mp.kp (mk_kp f)) (rn_rg hc hv hb hM (by omega) S)
        rw [bv_v r2] at Q
        obtain ⟨S2, C2⟩ := rn_s hc hv hb hM (by omega) S Cc g2
        exact ⟨ω2, Q, f.tr f2, S2, C2⟩
    obtain ⟨ω3, a1, a2, a3, a4, r3, f3, S3, C3⟩ := m_103 h mp hc hv hb hM (t := t) (by omega) hN N6 hV cn hB (last := (last : Int)) (W := (W : Int)) (best := best) N 0 (by omega) ω2 o9 o10 o11 o12 f2 (by rw [c0]; exact S2) (by rw [c0]; exact C2)
    rw [c0] at r3
    obtain ⟨best', r4, x1, x2, x3⟩ := m_238 (i := i) (h.dc f3.1) (set := set) (last := (last : Int)) (t := t) (M := M) hW (by omega) (o9 := a1) (o10 := a2) (o11 := a3) (o12 := a4) 1320 0 (by omega) best
    -- what stands at W
    have lo : ∀ d, RW n T C K V mem M q0 b0 W t d → best' ≤ (d : Int) := fun d w => by
      obtain ⟨q, b, m', w1, w2⟩ := w
      obtain ⟨v1, v2, _⟩ := ph_v hc hv hb hM w1
      have A := C3 q b m' d w1
      rw [w2] at A
      have q120 := (hc q v1).1
      have := x2 (q * 11 + b) (by omega) (by omega)
      have e : 8 * (q * 11 + b) + W = stI q b W := by unfold stI; omega
      rw [e] at this
      exact Int.le_trans this A
    have hi : ∀ j', j' < 1320 → am_get ω3 68 (8 * j' + W) = 10000 ∨ ∃ d : Nat, am_get ω3 68 (8 * j' + W) = (d : Int) ∧ RW n T C K V mem M q0 b0 W t d := fun j' hj' => by
      have e : 8 * j' + W = stI (j' / 11) (j' % 11) W := by unfold stI; omega
      rw [e]
      rcases S3 (j' / 11) (j' % 11) W (by omega) (by omega) hW with z | ⟨d, m', z1, z2, z3⟩
      · exact Or.inl z
      · exact Or.inr ⟨d, z1, _, _, m', z2, sub_eq z3 (hmW _ _ _ _ _ z2)⟩
    have r4' : am_run (211, 0) 238 ([some (.inr (.inr 53)), some (.inl ((i : Int))), some (.inl set), some (.inl ((last : Int))), some (.inl ((W : Int))), some (.inl best), some (.inl ((t : Int))), some (.inl ((M : Int))), some (.inl 0), a1, a2, a3, a4], [], ω3) = am_run (211, 0) 81 ([some (.inr (.inr 53)), some (.inl ((i : Int))), some (.inl set), some (.inl ((last : Int))), some (.inl ((W : Int))), some (.inl best'), some (.inl (((t + 1 : Nat) : Int))), some (.inl ((M : Int))), some (.inl 10560), a1, a2, a3, a4], [], ω3) := r4
    obtain ⟨ω5, r, q5, rest⟩ := ih (t + 1) (by omega) ω3 best' _ _ a1 a2 a3 a4 f3 (Or.inr ⟨t, rfl, S3, C3⟩) (by
      have b10 : ∀ f : Nat, f < 10000 → best' = (f : Int) → (∃ t', t' < t + 1 ∧ RW n T C K V mem M q0 b0 W t' f) → (∀ t', t' < t → ∀ d, RW n T C K V mem M q0 b0 W t' d → f ≤ d) → (best' = 10000 ∧ ∀ t', t' < t + 1 → ∀ d, ¬ RW n T C K V mem M q0 b0 W t' d) ∨ ∃ f : Nat, best' = (f : Int) ∧ f < 10000 ∧ (∃ t', t' < t + 1 ∧ RW n T C K V mem M q0 b0 W t' f) ∧ ∀ t', t' < t + 1 → ∀ d, RW n T C K V mem M q0 b0 W t' d → f ≤ d := by
        intro f hf e w old
        refine Or.inr ⟨f, e, hf, w, fun t2 ht2 d w2 => ?_⟩
        by_cases y : t2 = t
        · rw [y] at w2
          have := lo d w2
          omega
        · exact old t2 (by omega) d w2
      rcases I with ⟨z1, z⟩ | ⟨f', z0, z1, ⟨t', z2, z3⟩, z4⟩
      · have none : best' = 10000 → (best' = 10000 ∧ ∀ t', t' < t + 1 → ∀ d, ¬ RW n T C K V mem M q0 b0 W t' d) := fun e => ⟨e, fun t2 ht2 d w2 => by
          by_cases y : t2 = t
          · rw [y] at w2
            have := lo d w2
            have := b540 t d (by omega) w2
            omega
          · exact z t2 (by omega) d w2⟩
        rcases x3 with y | ⟨j', y1, y2⟩
        · exact Or.inl (none (y.trans z1))
        · rcases hi j' y1 with v | ⟨d, v, w⟩
          · exact Or.inl (none (y2.trans v))
          · have := b540 t d (by omega) w
            exact b10 d (by omega) (y2.trans v) ⟨t, by omega, w⟩ (fun t2 ht2 d2 w2 => absurd w2 (z t2 ht2 d2))
      · rcases x3 with y | ⟨j', y1, y2⟩
        · exact b10 f' z1 (y.trans z0) ⟨t', by omega, z3⟩ z4
        · rcases hi j' y1 with v | ⟨d, v, w⟩
          · omega
          · have := b540 t d (by omega) w
            refine b10 d (by omega) (y2.trans v) ⟨t, by omega, w⟩ (fun t2 ht2 d2 w2 => ?_)
            have := z4 t2 ht2 d2 w2
            omega)
    exact ⟨ω5, r, r2.trans (r3.trans (r4'.trans q5)), rest⟩
end K72
