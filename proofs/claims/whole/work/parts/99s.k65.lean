/-! ===== the model goes on by a step: all of it ===== -/
section K65
variable {ω0 : am_W} {n : Int} {T C : Nat → Int} {K : Int} {i : Nat}
/-- what can stand there now -/
def Rg (n : Int) (T : Nat → Int) (ω : am_W) : Prop := ∀ q b m, cvd n T q → b ≤ 10 → m < 8 → am_get ω 68 (stI q b m) = 10000 ∨ ∃ d : Nat, d ≤ 1000 ∧ am_get ω 68 (stI q b m) = (d : Int)
theorem m_lm (h0 : Bs ω0) (mp : MP ω0 i n T C K) (hA : Rg n T ω0) {c r b : Nat} (hc : (c : Int) < n) (hr : (r : Int) < T c) (hb : b ≤ 10) : ∀ k m, m + k = 8 → ∀ ω1 (o7 o8 : Option am_V), F9 ω0 ω1 → GIm n T C K ω0 ω1 (stI (c * 20 + r) b m) → ∃ (ω2 : am_W) (o6' o7' o8' : Option am_V), am_run (203, 0) 99 ([some (.inr (.inr 53)), some (.inl ((i : Int))), some (.inl (stf K)), some (.inl ((c : Int))), some (.inl ((r : Int))), some (.inl ((b : Int))), some (.inl ((m : Int))), o7, o8], [], ω1) = am_run (203, 0) 89 ([some (.inr (.inr 53)), some (.inl ((i : Int))), some (.inl (stf K)), some (.inl ((c : Int))), some (.inl ((r : Int))), some (.inl (((b + 1 : Nat) : Int))), o6', o7', o8'], [], ω2) ∧ F9 ω0 ω2 ∧ GIm n T C K ω0 ω2 (stI (c * 20 + r) (b + 1) 0) := by
  obtain ⟨on, oT, oC, oK, i6, e1, e2, e3, e4⟩ := id mp
  have tc := oT c (by omega)
  have hq : cvd n T (c * 20 + r) := by unfold cvd; rw [show (c * 20 + r) / 20 = c by omega, show (c * 20 + r) % 20 = r by omega]; exact ⟨hc, hr⟩
  intro k
  induction k with
  | zero =>
    intro m hm ω1 o7 o8 f G
    obtain rfl : m = 8 := by omega
    have Q := pX7_goOn_99 53 i (stf K) c r b ((8 : Nat) : Int) o7 o8 ω1 (i_53 (h0.dc f.1))
    rw [if_pos (by omega), am_w_s (by omega) (by omega), show (b : Int) + 1 = ((b + 1 : Nat) : Int) by omega] at Q
    refine ⟨ω1, _, _, _, Q, f, ?_⟩
    rw [show stI (c * 20 + r) (b + 1) 0 = stI (c * 20 + r) b 8 by unfold stI; omega]
    exact G
  | succ k ih =>
    intro m hm ω1 o7 o8 f G
    obtain ⟨ω2, o7', o8', r2, f2, G2⟩ := m_body h0 mp f hc hr hb (by omega) (hA _ _ _ hq hb (by omega)) G o7 o8
    obtain ⟨ω3, a, b', c', r3, rest⟩ := ih (m + 1) (by omega) ω2 o7' o8' f2 G2
    exact ⟨ω3, a, b', c', r2.trans r3, rest⟩
theorem m_lb (h0 : Bs ω0) (mp : MP ω0 i n T C K) (hA : Rg n T ω0) {c r : Nat} (hc : (c : Int) < n) (hr : (r : Int) < T c) : ∀ k b, b + k = 11 → ∀ ω1 (o6 o7 o8 : Option am_V), F9 ω0 ω1 → GIm n T C K ω0 ω1 (stI (c * 20 + r) b 0) → ∃ (ω2 : am_W) (o5' o6' o7' o8' : Option am_V), am_run (203, 0) 89 ([some (.inr (.inr 53)), some (.inl ((i : Int))), some (.inl (stf K)), some (.inl ((c : Int))), some (.inl ((r : Int))), some (.inl ((b : Int))), o6, o7, o8], [], ω1) = am_run (203, 0) 75 ([some (.inr (.inr 53)), some (.inl ((i : Int))), some (.inl (stf K)), some (.inl ((c : Int))), some (.inl (((r + 1 : Nat) : Int))), o5', o6', o7', o8'], [], ω2) ∧ F9 ω0 ω2 ∧ GIm n T C K ω0 ω2 (stI (c * 20 + (r + 1)) 0 0) := by
  obtain ⟨on, oT, oC, oK, i6, e1, e2, e3, e4⟩ := id mp
  have tc := oT c (by omega)
  intro k
  induction k with
  | zero =>
    intro b hb ω1 o6 o7 o8 f G
    obtain rfl : b = 11 := by omega
    have Q := pX7_goOn_89 53 i (stf K) c r ((11 : Nat) : Int) o6 o7 o8 ω1
    rw [if_pos (by omega), am_w_s (by omega) (by omega), show (r : Int) + 1 = ((r + 1 : Nat) : Int) by omega] at Q
    refine ⟨ω1, _, _, _, _, Q, f, ?_⟩
    rw [show stI (c * 20 + (r + 1)) 0 0 = stI (c * 20 + r) 11 0 by unfold stI; omega]
    exact G
  | succ k ih =>
    intro b hb ω1 o6 o7 o8 f G
    have Q := pX7_goOn_89 53 i (stf K) c r b o6 o7 o8 ω1
    rw [if_neg (by omega)] at Q
    obtain ⟨ω2, o6', o7', o8', r2, f2, G2⟩ := m_lm h0 mp hA hc hr (by omega) 8 0 (by omega) ω1 o7 o8 f G
    obtain ⟨ω3, a, b', c', d', r3, rest⟩ := ih (b + 1) (by omega) ω2 o6' o7' o8' f2 G2
    exact ⟨ω3, a, b', c', d', Q.trans (r2.trans r3), rest⟩
theorem m_lr (h0 : Bs ω0) (mp : MP ω0 i n T C K) (hA : Rg n T ω0) {c : Nat} (hc : (c : Int) < n) : ∀ k r : Nat, ((r + k : Nat) : Int) = T c → ∀ ω1 (o5 o6 o7 o8 : Option am_V), F9 ω0 ω1 → GIm n T C K ω0 ω1 (stI (c * 20 + r) 0 0) → ∃ (ω2 : am_W) (o4' o5' o6' o7' o8' : Option am_V), am_run (203, 0) 75 ([some (.inr (.inr 53)), some (.inl ((i : Int))), some (.inl (stf K)), some (.inl ((c : Int))), some (.inl ((r : Int))), o5, o6, o7, o8], [], ω1) = am_run (203, 0) 64 ([some (.inr (.inr 53)), some (.inl ((i : Int))), some (.inl (stf K)), some (.inl (((c + 1 : Nat) : Int))), o4', o5', o6', o7', o8'], [], ω2) ∧ F9 ω0 ω2 ∧ GIm n T C K ω0 ω2 (stI ((c + 1) * 20) 0 0) := by
  obtain ⟨on, oT, oC, oK, i6, e1, e2, e3, e4⟩ := id mp
  have tc := oT c (by omega)
  intro k
  induction k with
  | zero =>
    intro r hr ω1 o5 o6 o7 o8 f G
    have er : (r : Int) = T c := hr
    have B1 := h0.dc f.1
    have t57 : am_get ω1 57 c = T c := (f.2 57 c (by omega)).trans (e2 c (by omega))
    have Q := pX7_goOn_75 53 i (stf K) c r o5 o6 o7 o8 ω1 (i_53 B1)
    simp only [am_bi_s, am_bl_s, am_ba_s, am_bv_s, Int.toNat_zero, Int.reduceToNat, Int.toNat_natCast, if_true, if_false, not_true, not_false_eq_true, Int.reduceEq, Int.reduceLT, Int.reduceLE, f_53_4 B1, n_57 B1 (i := (c : Int)) (by omega) (by omega), t57, er, Int.le_refl] at Q
    rw [am_w_s (by omega) (by omega), show (c : Int) + 1 = ((c + 1 : Nat) : Int) by omega, ← er] at Q
    refine ⟨ω1, _, _, _, _, _, Q, f, gi_sk G (fun q b m hq hb hm hE => ?_)⟩
    obtain ⟨z1, z2⟩ := hq
    unfold stI at hE ⊢
    by_cases y : q / 20 = c
    · rw [y] at z2; omega
    · omega
  | succ k ih =>
    intro r hr ω1 o5 o6 o7 o8 f G
    have B1 := h0.dc f.1
    have rT : (r : Int) < T c := by omega
    have nT : ¬ T c ≤ (r : Int) := by omega
    have t57 : am_get ω1 57 c = T c := (f.2 57 c (by omega)).trans (e2 c (by omega))
    have Q := pX7_goOn_75 53 i (stf K) c r o5 o6 o7 o8 ω1 (i_53 B1)
    simp only [am_bi_s, am_bl_s, am_ba_s, am_bv_s, Int.toNat_zero, Int.reduceToNat, Int.toNat_natCast, if_true, if_false, not_true, not_false_eq_true, Int.reduceEq, Int.reduceLT, Int.reduceLE, f_53_4 B1, n_57 B1 (i := (c : Int)) (by omega) (by omega), t57, if_neg nT] at Q
    obtain ⟨ω2, a, b', c', d', r2, f2, G2⟩ := m_lb h0 mp hA hc rT 11 0 (by omega) ω1 o6 o7 o8 f G
    obtain ⟨ω3, a1, a2, a3, a4, a5, r3, rest⟩ := ih (r + 1) (by omega) ω2 a b' c' d' f2 G2
    exact ⟨ω3, a1, a2, a3, a4, a5, Q.trans (r2.trans r3), rest⟩
theorem m_lc (h0 : Bs ω0) (mp : MP ω0 i n T C K) (hA : Rg n T ω0) : ∀ k c : Nat, ((c + k : Nat) : Int) = n → ∀ ω1 (o4 o5 o6 o7 o8 : Option am_V), F9 ω0 ω1 → GIm n T C K ω0 ω1 (stI (c * 20) 0 0) → ∃ (ω2 : am_W) (o4' o5' o6' o7' o8' : Option am_V), am_run (203, 0) 64 ([some (.inr (.inr 53)), some (.inl ((i : Int))), some (.inl (stf K)), some (.inl ((c : Int))), o4, o5, o6, o7, o8], [], ω1) = am_run (203, 0) 299 ([some (.inr (.inr 53)), some (.inl ((i : Int))), some (.inl (stf K)), some (.inl 0), o4', o5', o6', o7', o8'], [], ω2) ∧ F9 ω0 ω2 ∧ GIm n T C K ω0 ω2 10560 := by
  obtain ⟨on, oT, oC, oK, i6, e1, e2, e3, e4⟩ := id mp
  intro k
  induction k with
  | zero =>
    intro c hc ω1 o4 o5 o6 o7 o8 f G
    have ec : (c : Int) = n := hc
    have B1 := h0.dc f.1
    have n3 : am_get ω1 53 3 = n := (f.2 53 3 (by omega)).trans e1
    have Q := pX7_goOn_64 53 i (stf K) c o4 o5 o6 o7 o8 ω1 (i_53 B1)
    simp only [am_bi_s, am_bl_s, am_ba_s, am_bv_s, Int.toNat_zero, Int.reduceToNat, Int.toNat_natCast, if_true, if_false, not_true, not_false_eq_true, Int.reduceEq, Int.reduceLT, Int.reduceLE, n3, ec, Int.le_refl] at Q
    refine ⟨ω1, _, _, _, _, _, by rw [ec]; exact Q, f, gi_sk G (fun q b m hq hb hm hE => ?_)⟩
    obtain ⟨z1, z2⟩ := hq
    unfold stI
    omega
  | succ k ih =>
    intro c hc ω1 o4 o5 o6 o7 o8 f G
    have B1 := h0.dc f.1
    have cn1 : (c : Int) < n := by omega
    have nc : ¬ n ≤ (c : Int) := by omega
    have tc := oT c (by omega)
    have n3 : am_get ω1 53 3 = n := (f.2 53 3 (by omega)).trans e1
    have Q := pX7_goOn_64 53 i (stf K) c o4 o5 o6 o7 o8 ω1 (i_53 B1)
    simp only [am_bi_s, am_bl_s, am_ba_s, am_bv_s, Int.toNat_zero, Int.reduceToNat, Int.toNat_natCast, if_true, if_false, not_true, not_false_eq_true, Int.reduceEq, Int.reduceLT, Int.reduceLE, n3, if_neg nc] at Q
    obtain ⟨ω2, a1, a2, a3, a4, a5, r2, f2, G2⟩ := m_lr h0 mp hA cn1 (T c).toNat 0 (by omega) ω1 o5 o6 o7 o8 f G
    obtain ⟨ω3, b1, b2, b3, b4, b5, r3, rest⟩ := ih (c + 1) (by omega) ω2 a1 a2 a3 a4 a5 f2 G2
    exact ⟨ω3, b1, b2, b3, b4, b5, Q.trans (r2.trans r3), rest⟩
theorem ar_68 {ω : am_W} (h : Bs ω) : am_arl ω 68 = true ∧ am_len ω 68 = ((10560 : Nat) : Int) := by
  have e : am_ar ω 68 100 = true := bs_ar h (a := 68) (kd := 100) (n := 10560) rfl
  refine ⟨?_, bs_len h (a := 68) (kd := 100) (n := 10560) rfl⟩
  unfold am_arl
  rw [e]
  rfl
theorem ar_69 {ω : am_W} (h : Bs ω) : am_arl ω 69 = true ∧ am_len ω 69 = ((10560 : Nat) : Int) := by
  have e : am_ar ω 69 100 = true := bs_ar h (a := 69) (kd := 100) (n := 10560) rfl
  refine ⟨?_, bs_len h (a := 69) (kd := 100) (n := 10560) rfl⟩
  unfold am_arl
  rw [e]
  rfl
/-- the first k are brought over -/
def cpR (ω : am_W) (k : Nat) : am_W := (ω.1, fun a' k' => if a' = 68 ∧ k' < k then ω.2.1 69 k' else ω.2.1 a' k', ω.2.2)
theorem cpR_0 {ω : am_W} : cpR ω 0 = ω := by
  unfold cpR
  have : (fun a' k' => if a' = 68 ∧ k' < 0 then ω.2.1 69 k' else ω.2.1 a' k') = ω.2.1 := funext fun a' => funext fun k' => if_neg (by omega)
  rw [this]
theorem cpR_o {ω : am_W} {k a j : Nat} (h : a ≠ 68) : am_get (cpR ω k) a j = am_get ω a j := if_neg (fun z => h z.1)
theorem cpR_9 {ω : am_W} {k j : Nat} : am_get (cpR ω k) 69 j = am_get ω 69 j := cpR_o (by decide)
theorem cpR_8 {ω : am_W} {k j : Nat} (h : j < k) : am_get (cpR ω k) 68 j = am_get ω 69 j := if_pos ⟨rfl, h⟩
theorem cpR_s {ω : am_W} {k : Nat} : am_put (cpR ω k) 68 k (am_get ω 69 k) = cpR ω (k + 1) := by
  unfold cpR am_put
  refine Prod.ext rfl (Prod.ext ?_ rfl)
  funext a' k'
  show (if a' = 68 ∧ k' = k then am_get ω 69 k else if a' = 68 ∧ k' < k then ω.2.1 69 k' else ω.2.1 a' k') = if a' = 68 ∧ k' < k + 1 then ω.2.1 69 k' else ω.2.1 a' k'
  by_cases z : a' = 68 ∧ k' = k
  · rw [if_pos z, if_pos ⟨z.1, by omega⟩, z.2]; rfl
  · rw [if_neg z]
    by_cases y : a' = 68 ∧ k' < k
    · rw [if_pos y, if_pos ⟨y.1, by omega⟩]
    · rw [if_neg y, if_neg (by omega)]
theorem cpR_dc {ω : am_W} (h : Bs ω) {k : Nat} : Dc ω (cpR ω k) := ⟨rfl, rfl, fun a' k' q => by
  have : a' ≠ 68 := fun e => by
    rw [e, am_rp_at (bs_sh h (a := 68) rfl)] at q
    cases q
  exact cpR_o this⟩
theorem m_copy {ω : am_W} (h : Bs ω) {l1 l2 : Int} {o4 o5 o6 o7 o8 : Option am_V} : ∀ d k : Nat, k + d = 10560 → am_run (203, 0) 299 ([some (.inr (.inr 53)), some (.inl l1), some (.inl l2), some (.inl ((k : Int))), o4, o5, o6, o7, o8], [], (cpR ω k)) = some (none, cpR ω 10560) := by
  intro d
  induction d with
  | zero =>
    intro k hk
    obtain rfl : k = 10560 := by omega
    have B1 := h.dc (cpR_dc h (k := 10560))
    rw [pX7_goOn_299 _ _ _ _ _ _ _ _ _ _ (i_53 B1)]
    simp only [am_bi_s, am_bl_s, am_ba_s, am_bv_s, Int.toNat_zero, Int.reduceToNat, Int.toNat_natCast, if_true, if_false, not_true, not_false_eq_true, Int.reduceEq, Int.reduceLT, Int.reduceLE, f_53_25 B1]
    rw [if_pos (ar_68 B1).1, (ar_68 B1).2, if_pos (Int.le_refl _)]
  | succ d ih =>
    intro k hk
    have B1 := h.dc (cpR_dc h (k := k))
    have Q := pX7_goOn_299 53 l1 l2 k o4 o5 o6 o7 o8 (cpR ω k) (i_53 B1)
    have ln : am_len (cpR ω k) 68 = ((10560 : Nat) : Int) := bs_len B1 (a := 68) (kd := 100) (n := 10560) rfl
    simp only [am_bi_s, am_bl_s, am_ba_s, am_bv_s, Int.toNat_zero, Int.reduceToNat, Int.toNat_natCast, if_true, if_false, not_true, not_false_eq_true, Int.reduceEq, Int.reduceLT, Int.reduceLE, f_53_25 B1, f_53_26 B1, ln, n_68 B1 (i := (k : Int)) (by omega) (by omega), n_69 B1 (i := (k : Int)) (by omega) (by omega), cpR_9] at Q
    rw [if_pos (ar_68 B1).1, if_neg (by omega), am_w_s (by omega) (by omega), cpR_s, show (k : Int) + 1 = ((k + 1 : Nat) : Int) by omega] at Q
    exact Q.trans (ih (k + 1) (by omega))
theorem m_fill9 {ω : am_W} (h : Bs ω) {l1 l2 : Int} {o4 o5 o6 o7 o8 : Option am_V} : ∀ d k : Nat, k + d = 10560 → am_run (203, 0) 38 ([some (.inr (.inr 53)), some (.inl l1), some (.inl l2), some (.inl ((k : Int))), o4, o5, o6, o7, o8], [], (fillR ω 69 0 k 10000)) = am_run (203, 0) 64 ([some (.inr (.inr 53)), some (.inl l1), some (.inl l2), some (.inl 0), o4, o5, o6, o7, o8], [], (fillR ω 69 0 10560 10000)) := by
  intro d
  have bs : ∀ k, Bs (fillR ω 69 0 k 10000) := fun k => h.dc (fillR_dc (fun k => am_rp_at (bs_sh h (a := 69) rfl)))
  induction d with
  | zero =>
    intro k hk
    obtain rfl : k = 10560 := by omega
    have B1 := bs 10560
    rw [pX7_goOn_38 _ _ _ _ _ _ _ _ _ _ (i_53 B1)]
    simp only [am_bi_s, am_bl_s, am_ba_s, am_bv_s, Int.toNat_zero, Int.reduceToNat, Int.toNat_natCast, if_true, if_false, not_true, not_false_eq_true, Int.reduceEq, Int.reduceLT, Int.reduceLE, f_53_26 B1]
    rw [if_pos (ar_69 B1).1, (ar_69 B1).2, if_pos (Int.le_refl _)]
  | succ d ih =>
    intro k hk
    have B1 := bs k
    have Q := pX7_goOn_38 53 l1 l2 k o4 o5 o6 o7 o8 (fillR ω 69 0 k 10000) (i_53 B1)
    have ln : am_len (fillR ω 69 0 k 10000) 69 = ((10560 : Nat) : Int) := bs_len B1 (a := 69) (kd := 100) (n := 10560) rfl
    simp only [am_bi_s, am_bl_s, am_ba_s, am_bv_s, Int.toNat_zero, Int.reduceToNat, Int.toNat_natCast, if_true, if_false, not_true, not_false_eq_true, Int.reduceEq, Int.reduceLT, Int.reduceLE, f_53_26 B1, ln, n_69 B1 (i := (k : Int)) (by omega) (by omega)] at Q
    rw [if_pos (ar_69 B1).1, if_neg (by omega), am_w_s (by omega) (by omega), fillR_s (by omega), show (k : Int) + 1 = ((k + 1 : Nat) : Int) by omega] at Q
    exact Q.trans (ih (k + 1) (by omega))
def F89 (ω ω' : am_W) : Prop := Dc ω ω' ∧ ∀ a k, a ≠ 68 → a ≠ 69 → am_get ω' a k = am_get ω a k
theorem F89.rf {ω : am_W} : F89 ω ω := ⟨Dc.rf ω, fun _ _ _ _ => rfl⟩
theorem F89.tr {ω ω1 ω2 : am_W} (h : F89 ω ω1) (g : F89 ω1 ω2) : F89 ω ω2 := ⟨h.1.tr g.1, fun a k z y => (g.2 a k z y).trans (h.2 a k z y)⟩
/-- what now is, by what was -/
def NG (n : Int) (T C : Nat → Int) (K : Int) (ω0 ω1 : am_W) : Prop := (∀ q' b' m, q' < 120 → b' ≤ 10 → m < 8 → am_get ω1 68 (stI q' b' m) = 10000 ∨ ∃ q b e d : Nat, cvd n T q ∧ b ≤ 10 ∧ am_get ω0 68 (stI q b m) = (d : Int) ∧ d ≠ 10000 ∧ Sp1 (cok n C K) (ctg T) (cln T) (cpc n C K) q b q' b' e ∧ am_get ω1 68 (stI q' b' m) = ((d + e : Nat) : Int)) ∧ ∀ q b m, cvd n T q → b ≤ 10 → m < 8 → ∀ d : Nat, am_get ω0 68 (stI q b m) = (d : Int) → d ≠ 10000 → ∀ q' b' e, Sp1 (cok n C K) (ctg T) (cln T) (cpc n C K) q b q' b' e → am_get ω1 68 (stI q' b' m) ≤ ((d + e : Nat) : Int)
theorem m_goOn (h0 : Bs ω0) (mp : MP ω0 i n T C K) (hA : Rg n T ω0) : ∃ ω', am_run (203, 0) 0 ([some (.inr (.inr 53)), some (.inl ((i : Int))), none, none, none, none, none, none, none], [], ω0) = some (none, ω') ∧ F89 ω0 ω' ∧ NG n T C K ω0 ω' := by
  obtain ⟨on, oT, oC, oK, i6, e1, e2, e3, e4⟩ := id mp
  have ch := mp_c mp
  have e59 : am_get ω0 59 i = K := e4
  have st : am_run (203, 0) 0 ([some (.inr (.inr 53)), some (.inl ((i : Int))), none, none, none, none, none, none, none], [], ω0) = am_run (203, 0) 38 ([some (.inr (.inr 53)), some (.inl ((i : Int))), some (.inl (stf K)), some (.inl 0), none, none, none, none, none], [], ω0) := by
    rw [pX7_goOn_0 _ _ _ (i_53 h0)]
    simp only [am_bi_s, am_bl_s, am_ba_s, am_bv_s, Int.toNat_zero, Int.reduceToNat, Int.toNat_natCast, if_true, if_false, not_true, not_false_eq_true, Int.reduceEq, Int.reduceLT, Int.reduceLE, f_53_7 h0, n_59 h0 (i := (i : Int)) (by omega) (by omega), e59]
    unfold stf
    by_cases g : K = 0 ∨ K = 1 ∨ K = 5
    · rw [b01_pos g, if_neg (by omega), if_neg (by omega), if_neg (by omega)]
    · rw [b01_neg g]
      by_cases g2 : K = 2
      · rw [if_pos g2]
      · rw [if_neg g2]
        by_cases g3 : K = 3
        · rw [if_pos g3]
        · rw [if_neg g3, if_pos (by omega)]
  have fl := m_fill9 h0 (l1 := (i : Int)) (l2 := stf K) (o4 := none) (o5 := none) (o6 := none) (o7 := none) (o8 := none) 10560 0 (by omega)
  rw [fillR_0] at fl
  have f1 : F9 ω0 (fillR ω0 69 0 10560 10000) := ⟨fillR_dc (fun k => am_rp_at (bs_sh h0 (a := 69) rfl)), fun a k z => fillR_g (fun y => z y.1)⟩
  obtain ⟨ω2, a1, a2, a3, a4, a5, r2, f2, G2⟩ := m_lc h0 mp hA n.toNat 0 (by omega) _ none none none none none f1 ⟨fun q' b' m h1 h2 h3 => Or.inl (fillR_v ⟨by omega, stI_lt h1 h2 h3⟩), fun q b m _ _ _ hD => by unfold stI at hD; omega⟩
  have B2 := h0.dc f2.1
  have cp := m_copy B2 (l1 := (i : Int)) (l2 := stf K) (o4 := a1) (o5 := a2) (o6 := a3) (o7 := a4) (o8 := a5) 10560 0 (by omega)
  rw [cpR_0] at cp
  refine ⟨_, st.trans (fl.trans (r2.trans cp)), ⟨f2.1.tr (cpR_dc B2), fun a k z1 z2 => (cpR_o z1).trans (f2.2 a k z2)⟩, fun q' b' m h1 h2 h3 => ?_, fun q b m hq hb hm d hd hd' q' b' e s => ?_⟩
  · rw [cpR_8 (stI_lt h1 h2 h3)]
    exact G2.1 q' b' m h1 h2 h3
  · obtain ⟨v1, v2, v3⟩ := Sp1_b ch hq hb s
    rw [cpR_8 (stI_lt (ch _ v1).1 v2 hm)]
    exact G2.2 q b m hq hb hm (stI_lt (ch _ hq).1 hb hm) d hd hd' q' b' e s
end K65
