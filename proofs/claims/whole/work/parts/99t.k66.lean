/-! ===== the model's ways ===== -/
section K66
section PU
variable {vd : Nat → Prop} {ok : Nat → Nat → Prop} {tg ln pc : Nat → Nat → Nat} {hr : Nat → Nat → Nat → Nat} {q0 b0 : Nat}
/-- a way, whom ever it meets -/
def Pid (ok : Nat → Nat → Prop) (tg ln pc : Nat → Nat → Nat) (q0 b0 t q b d : Nat) : Prop := Pth ok tg ln pc (fun _ _ m => m) q0 b0 t q b 0 d
theorem Pid_s {t q' b' d' : Nat} : Pid ok tg ln pc q0 b0 (t + 1) q' b' d' ↔ ∃ q b d e, Pid ok tg ln pc q0 b0 t q b d ∧ Sp1 ok tg ln pc q b q' b' e ∧ d' = d + e := by
  unfold Pid
  rw [P_s]
  constructor
  · rintro ⟨q, b, m, d, h1, ⟨g1, g2, g3, g4, g5⟩ | ⟨g1, x, g2, g3, g4, g5, g6, g7⟩⟩
    · subst g4
      exact ⟨q, b, d, 0, h1, Or.inl ⟨g1, g2, g3, rfl⟩, g5⟩
    · subst g6
      exact ⟨q, b, d, pc x q, h1, Or.inr ⟨g1, x, g2, g3, g4, g5, rfl⟩, g7⟩
  · rintro ⟨q, b, d, e, h1, ⟨g1, g2, g3, g4⟩ | ⟨g1, x, g2, g3, g4, g5, g6⟩, g7⟩
    · exact ⟨q, b, 0, d, h1, Or.inl ⟨g1, g2, g3, rfl, by rw [g7, g4]; rfl⟩⟩
    · exact ⟨q, b, 0, d, h1, Or.inr ⟨g1, x, g2, g3, g4, g5, rfl, by rw [g7, g6]⟩⟩
theorem Pid_of : ∀ t q b m d, Pth ok tg ln pc hr q0 b0 t q b m d → Pid ok tg ln pc q0 b0 t q b d := by
  intro t
  induction t with
  | zero => rintro q b m d ⟨h1, h2, h3, h4⟩; exact ⟨h1, h2, rfl, h4⟩
  | succ t ih =>
    intro q' b' m' d' h
    obtain ⟨q, b, m, d, h1, h2⟩ := P_s.mp h
    rcases h2 with ⟨g1, g2, g3, g4, g5⟩ | ⟨g1, x, g2, g3, g4, g5, g6, g7⟩
    · exact Pid_s.mpr ⟨q, b, d, 0, ih _ _ _ _ h1, Or.inl ⟨g1, g2, g3, rfl⟩, g5⟩
    · exact Pid_s.mpr ⟨q, b, d, pc x q, ih _ _ _ _ h1, Or.inr ⟨g1, x, g2, g3, g4, g5, rfl⟩, g7⟩
theorem Pid_to : ∀ t q b d, Pid ok tg ln pc q0 b0 t q b d → ∃ m, Pth ok tg ln pc hr q0 b0 t q b m d := by
  intro t
  induction t with
  | zero => rintro q b d ⟨h1, h2, h3, h4⟩; exact ⟨0, h1, h2, rfl, h4⟩
  | succ t ih =>
    intro q' b' d' h
    obtain ⟨q, b, d, e, h1, h2, h3⟩ := Pid_s.mp h
    obtain ⟨m, hm⟩ := ih _ _ _ h1
    rcases h2 with ⟨g1, g2, g3, g4⟩ | ⟨g1, x, g2, g3, g4, g5, g6⟩
    · exact ⟨m, P_s.mpr ⟨q, b, m, d, hm, Or.inl ⟨g1, g2, g3, rfl, by rw [h3, g4]; rfl⟩⟩⟩
    · exact ⟨_, P_s.mpr ⟨q, b, m, d, hm, Or.inr ⟨g1, x, g2, g3, g4, g5, rfl, by rw [h3, g6]⟩⟩⟩
/-- it meets one whose spot is S -/
def MW (ok : Nat → Nat → Prop) (tg ln pc : Nat → Nat → Nat) (q0 b0 : Nat) (S : Nat → Int) (t d : Nat) : Prop := ∃ q : Nat, Pid ok tg ln pc q0 b0 t q 0 d ∧ S t = (q : Int)
theorem mw_of {S : Nat → Int} (e : ∀ t q m, hr t q m = orN (fun _ => S t = (q : Int)) 1 m) : ∀ t d, Win ok tg ln pc hr q0 b0 1 t d → ∃ t' d', t' ≤ t ∧ d' ≤ d ∧ MW ok tg ln pc q0 b0 S t' d' := by
  have hW : ∀ t q m, m ≤ 1 → hr t q m ≤ 1 := fun t q m hm => by rw [e]; exact orN_w (M := 1) hm
  have key : ∀ N t d, t ≤ N → Win ok tg ln pc hr q0 b0 1 t d → ∃ t' d', t' ≤ t ∧ d' ≤ d ∧ MW ok tg ln pc q0 b0 S t' d' := by
    intro N
    induction N with
    | zero =>
      rintro t d ht ⟨q, m, h1, h2⟩
      obtain rfl : t = 0 := by omega
      obtain ⟨g1, g2, g3, g4⟩ := id h1
      subst g3
      rw [e] at h2
      by_cases z : S 0 = (q : Int)
      · exact ⟨0, d, by omega, by omega, q, Pid_of _ _ _ _ _ h1, z⟩
      · rw [orN_n z] at h2
        have : (0 : Nat) = 1 := h2
        omega
    | succ N ih =>
      rintro t d ht ⟨q, m, h1, h2⟩
      have m1 := P_m hW _ _ _ _ _ h1
      by_cases g : m = 1
      · obtain ⟨t', d', x1, x2, x3⟩ := P_won (by omega) _ _ _ _ _ h1 g
        obtain ⟨t2, d2, y1, y2, y3⟩ := ih t' d' (by omega) x3
        exact ⟨t2, d2, by omega, by omega, y3⟩
      · obtain rfl : m = 0 := by omega
        rw [e] at h2
        by_cases z : S t = (q : Int)
        · exact ⟨t, d, by omega, by omega, q, Pid_of _ _ _ _ _ h1, z⟩
        · rw [orN_n z] at h2
          have : (0 : Nat) = 1 := h2
          omega
  exact fun t d => key t t d (by omega)
theorem mw_to {S : Nat → Int} (e : ∀ t q m, hr t q m = orN (fun _ => S t = (q : Int)) 1 m) {t d : Nat} (h : MW ok tg ln pc q0 b0 S t d) : Win ok tg ln pc hr q0 b0 1 t d := by
  have hW : ∀ t q m, m ≤ 1 → hr t q m ≤ 1 := fun t q m hm => by rw [e]; exact orN_w (M := 1) hm
  obtain ⟨q, h1, h2⟩ := h
  obtain ⟨m, hm⟩ := Pid_to (hr := hr) _ _ _ _ h1
  refine ⟨q, m, hm, ?_⟩
  have m1 := P_m hW _ _ _ _ _ hm
  rw [e, orN_y h2]
  show m ||| 2 ^ 0 = 1
  rcases (show m = 0 ∨ m = 1 by omega) with rfl | rfl <;> decide
theorem Lst_u {W W' : Nat → Nat → Prop} {last : Nat} {r r' : Int} (h1 : ∀ t d, W t d → ∃ t' d', t' ≤ t ∧ d' ≤ d ∧ W' t' d') (h2 : ∀ t d, W' t d → W t d) (h : Lst W last r) (h' : Lst W' last r') : r = r' := by
  rcases h with ⟨rfl, n⟩ | ⟨f, rfl, ⟨t, x1, x2⟩, x3⟩
  · rcases h' with ⟨rfl, _⟩ | ⟨f', rfl, ⟨t', y1, y2⟩, _⟩
    · rfl
    · exact absurd (h2 _ _ y2) (n t' y1 _)
  · obtain ⟨t2, d2, z1, z2, z3⟩ := h1 _ _ x2
    rcases h' with ⟨rfl, n⟩ | ⟨f', rfl, ⟨t', y1, y2⟩, y3⟩
    · exact absurd z3 (n t2 (by omega) _)
    · have a := y3 t2 (by omega) _ z3
      have b := x3 t' y1 _ (h2 _ _ y2)
      omega
theorem Fst_u {W W' : Nat → Nat → Prop} {D : Int} {r r' : Int} (h1 : ∀ t d, W t d → ∃ t' d', t' ≤ t ∧ d' ≤ d ∧ W' t' d') (h2 : ∀ t d, W' t d → W t d) (h : Fst W D r) (h' : Fst W' D r') : r = r' := by
  rcases h with ⟨rfl, n⟩ | ⟨g, rfl, g60, ⟨d, x1, x2⟩, x3⟩
  · rcases h' with ⟨rfl, _⟩ | ⟨g', rfl, g60', ⟨d', y1, y2⟩, _⟩
    · rfl
    · exact (n g' g60' _ (h2 _ _ y2) y1).elim
  · obtain ⟨t2, d2, z1, z2, z3⟩ := h1 _ _ x2
    rcases h' with ⟨rfl, n⟩ | ⟨g', rfl, g60', ⟨d', y1, y2⟩, y3⟩
    · exact (n t2 (by omega) _ z3 (by omega)).elim
    · by_cases a : g < g'
      · exact (y3 t2 (by omega) _ z3 (by omega)).elim
      · by_cases b : g' < g
        · exact (x3 g' b _ (h2 _ _ y2) y1).elim
        · omega
end PU
section NN
variable {n : Int} {T C : Nat → Int} {K : Int} {q0 b0 : Nat}
abbrev PiF (n : Int) (T C : Nat → Int) (K : Int) (q0 b0 t q b d : Nat) : Prop := Pid (cok n C K) (ctg T) (cln T) (cpc n C K) q0 b0 t q b d
/-- what stands there behind t steps -/
def NI (ω : am_W) (n : Int) (T C : Nat → Int) (K : Int) (q0 b0 t : Nat) : Prop := (∀ q b m, q < 120 → b ≤ 10 → m < 8 → am_get ω 68 (stI q b m) = 10000 ∨ ∃ d : Nat, am_get ω 68 (stI q b m) = (d : Int) ∧ m = 0 ∧ PiF n T C K q0 b0 t q b d) ∧ ∀ q b d, PiF n T C K q0 b0 t q b d → am_get ω 68 (stI q b 0) ≤ (d : Int)
theorem pi_v (hc : Cht (cvd n T) (cok n C K) (ctg T) (cln T) (cpc n C K)) (hv : cvd n T q0) (hb : b0 ≤ 10) {t q b d : Nat} (h : PiF n T C K q0 b0 t q b d) : cvd n T q ∧ b ≤ 10 ∧ d ≤ 9 * t := P_v hc hv hb _ _ _ _ _ h
theorem NI.rg {ω : am_W} (hc : Cht (cvd n T) (cok n C K) (ctg T) (cln T) (cpc n C K)) (hv : cvd n T q0) (hb : b0 ≤ 10) {t : Nat} (ht : t ≤ 60) (h : NI ω n T C K q0 b0 t) : Rg n T ω := by
  intro q b m hq hb' hm
  rcases h.1 q b m (hc q hq).1 hb' hm with z | ⟨d, z1, z2, z3⟩
  · exact Or.inl z
  · exact Or.inr ⟨d, by have := (pi_v hc hv hb z3).2.2; omega, z1⟩
theorem NI.step {ω ω' : am_W} (hc : Cht (cvd n T) (cok n C K) (ctg T) (cln T) (cpc n C K)) (hv : cvd n T q0) (hb : b0 ≤ 10) {t : Nat} (ht : t ≤ 60) (h : NI ω n T C K q0 b0 t) (g : NG n T C K ω ω') : NI ω' n T C K q0 b0 (t + 1) := by
  refine ⟨fun q' b' m hq' hb' hm => ?_, fun q' b' d' hp => ?_⟩
  · rcases g.1 q' b' m hq' hb' hm with z | ⟨q, b, e, d, y1, y2, y3, y4, y5, y6⟩
    · exact Or.inl z
    · rcases h.1 q b m (hc q y1).1 y2 hm with z | ⟨d2, z1, z2, z3⟩
      · rw [z] at y3; omega
      · have : d2 = d := by omega
        subst this
        exact Or.inr ⟨d2 + e, y6, z2, Pid_s.mpr ⟨q, b, d2, e, z3, y5, rfl⟩⟩
  · obtain ⟨q, b, d, e, x1, x2, x3⟩ := Pid_s.mp hp
    obtain ⟨v1, v2, v3⟩ := pi_v hc hv hb x1
    have A := h.2 q b d x1
    rcases h.1 q b 0 (hc q v1).1 v2 (by omega) with z | ⟨d2, z1, z2, z3⟩
    · rw [z] at A; omega
    · rw [z1] at A
      have := g.2 q b 0 v1 v2 (by omega) d2 z1 (by omega) q' b' e x2
      omega
theorem m_fill8 {ω : am_W} (h : Bs ω) {l1 l2 : Int} : ∀ d k : Nat, k + d = 10560 → am_run (201, 0) 2 ([some (.inr (.inr 53)), some (.inl l1), some (.inl l2), some (.inl ((k : Int)))], [], (fillR ω 68 0 k 10000)) = am_run (201, 0) 2 ([some (.inr (.inr 53)), some (.inl l1), some (.inl l2), some (.inl 10560)], [], (fillR ω 68 0 10560 10000)) := by
  intro d
  have bs : ∀ k, Bs (fillR ω 68 0 k 10000) := fun k => h.dc (fillR_dc (fun k => am_rp_at (bs_sh h (a := 68) rfl)))
  induction d with
  | zero =>
    intro k hk
    obtain rfl : k = 10560 := by omega
    rfl
  | succ d ih =>
    intro k hk
    have B1 := bs k
    have Q := pX7_begin_2 53 l1 l2 k (fillR ω 68 0 k 10000) (i_53 B1)
    simp only [am_bi_s, am_bl_s, am_ba_s, am_bv_s, Int.toNat_zero, Int.reduceToNat, Int.toNat_natCast, if_true, if_false, not_true, not_false_eq_true, Int.reduceEq, Int.reduceLT, Int.reduceLE, f_53_25 B1, (ar_68 B1).2, (ar_68 B1).1, n_68 B1 (i := (k : Int)) (by omega) (by omega)] at Q
    rw [if_neg (by omega), am_w_s (by omega) (by omega), fillR_s (by omega), show (k : Int) + 1 = ((k + 1 : Nat) : Int) by omega] at Q
    exact Q.trans (ih (k + 1) (by omega))
theorem m_begin {ω : am_W} (h : Bs ω) {i c r : Nat} (hi : i < 6) (e1 : mV ω i 1 = (c : Int)) (e2 : mV ω i 2 = (r : Int)) (e4 : mV ω i 4 = (b0 : Int)) (hc : c < 6) (hr : r < 20) (hb : b0 ≤ 10) : ∃ ω', am_run (201, 0) 0 ([some (.inr (.inr 53)), some (.inl ((i : Int))), some (.inl 0), none], [], ω) = some (none, ω') ∧ F89 ω ω' ∧ NI ω' n T C K (c * 20 + r) b0 0 := by
  have fl := m_fill8 h (l1 := (i : Int)) (l2 := 0) 10560 0 (by omega)
  rw [fillR_0] at fl
  obtain ⟨ω1, w1⟩ : ∃ w, w = fillR ω 68 0 10560 10000 := ⟨_, rfl⟩
  have d1 : Dc ω ω1 := by rw [w1]; exact fillR_dc (fun k => am_rp_at (bs_sh h (a := 68) rfl))
  have o1 : ∀ a k, a ≠ 68 → am_get ω1 a k = am_get ω a k := fun a k z => by rw [w1]; exact fillR_g (fun y => z y.1)
  rw [← w1] at fl
  have B1 := h.dc d1
  have Q := pX7_begin_2 53 i 0 10560 ω1 (i_53 B1)
  have x1 : am_get ω1 60 i = (c : Int) := (o1 _ _ (by omega)).trans e1
  have x2 : am_get ω1 61 i = (r : Int) := (o1 _ _ (by omega)).trans e2
  have x4 : am_get ω1 63 i = (b0 : Int) := (o1 _ _ (by omega)).trans e4
  have i0 : (0 : Int) ≤ (i : Int) := by omega
  have i6 : (i : Int) < 6 := by omega
  have lt : ((stI (c * 20 + r) b0 0 : Nat) : Int) < 10560 := Int.ofNat_lt.mpr (stI_lt (by omega) hb (by omega))
  have ms : am_run (200, 0) 0 ([some (.inl ((c : Int))), some (.inl ((r : Int))), some (.inl ((b0 : Int))), some (.inl 0)], [], ω1) = some (some (.inl (stI (c * 20 + r) b0 0 : Int)), ω1) := m_state (m := 0) hc hr hb (by omega)
  have le : ((10560 : Nat) : Int) ≤ 10560 := by omega
  simp only [am_bi_s, am_bl_s, am_ba_s, am_bv_s, Int.toNat_zero, Int.reduceToNat, Int.toNat_natCast, if_true, if_false, not_true, not_false_eq_true, Int.reduceEq, Int.reduceLT, Int.reduceLE, f_53_25 B1, (ar_68 B1).2, (ar_68 B1).1, if_pos le, f_53_8 B1, f_53_9 B1, f_53_11 B1, n_60 B1 i0 i6, n_61 B1 i0 i6, n_63 B1 i0 i6, x1, x2, x4, ms, n_68 B1 (Int.natCast_nonneg _) lt] at Q
  refine ⟨_, (pX7_begin_0 53 (i : Int) 0 ω).trans (fl.trans Q), ⟨d1.tr (Dc.put (am_rp_at (bs_sh B1 (a := 68) rfl))), fun a k z1 z2 => (gp_cell z1).trans (o1 a k z1)⟩, fun q b m hq hb' hm => ?_, fun q b d hp => ?_⟩
  · by_cases z : stI q b m = stI (c * 20 + r) b0 0
    · obtain ⟨rfl, rfl, rfl⟩ := stI_inj hb' hm hb (by omega) z
      exact Or.inr ⟨0, gp_same, rfl, rfl, rfl, rfl, rfl⟩
    · rw [gp_place z, w1]
      exact Or.inl (fillR_v ⟨by omega, stI_lt hq hb' hm⟩)
  · obtain ⟨rfl, rfl, _, rfl⟩ := hp
    exact Int.le_of_eq gp_same
end NN
end K66
