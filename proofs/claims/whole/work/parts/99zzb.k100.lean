/-! ===== a step is visited, from any set of states (by wip/tools/mk_gen.py) ===== -/
section K100
def RIg (vd : Nat → Prop) (P : Nat → Nat → Nat → Nat → Prop) (W step : Nat) (R : Nat → Nat → Int) (L : Int) : Prop := (∀ m, m < W → ∀ b, b ≤ 10 → ∀ q, vd q → R m ((step + b) % 11 * 120 + q) = 1000000 ∨ ∃ d : Nat, R m ((step + b) % 11 * 120 + q) = (d : Int) ∧ P q b m d) ∧ ∀ q b m d, P q b m d → (d : Int) ≤ L → m < W ∧ R m ((step + b) % 11 * 120 + q) ≤ (d : Int)
def RJg (vd : Nat → Prop) (ok : Nat → Nat → Prop) (tg ln pc : Nat → Nat → Nat) (hr : Nat → Nat → Nat → Nat) (PB : Nat → Nat → Nat → Nat → Prop) (W step : Nat) (R0 : Nat → Nat → Int) (L0 : Int) (pr : Nat → Nat → Prop) (R : Nat → Nat → Int) (L : Int) : Prop := L ≤ L0 ∧ (∀ m, m < W → ∀ q, vd q → (pr m q → R m (step % 11 * 120 + q) = 1000000) ∧ (¬ pr m q → R m (step % 11 * 120 + q) = R0 m (step % 11 * 120 + q))) ∧ (∀ m, m < W → ∀ b, b < 10 → ∀ q, vd q → R m ((step + 1 + b) % 11 * 120 + q) = 1000000 ∨ ∃ d : Nat, R m ((step + 1 + b) % 11 * 120 + q) = (d : Int) ∧ PB q b m d) ∧ (∀ m, m < W → ∀ b, b < 10 → ∀ q, vd q → R m ((step + 1 + b) % 11 * 120 + q) ≤ R0 m ((step + 1 + b) % 11 * 120 + q)) ∧ (∀ m, m < W → ∀ q, vd q → pr m q → ∀ d : Nat, R0 m (step % 11 * 120 + q) = (d : Int) → (d : Int) ≤ L → hr step q m < W ∧ ∀ x, x < 3 → ok x q → ((d + pc x q : Nat) : Int) ≤ L → R (hr step q m) ((step + ln x q) % 11 * 120 + tg x q) ≤ ((d + pc x q : Nat) : Int))
/-- what can be behind one more step -/
def StS (ok : Nat → Nat → Prop) (tg ln pc : Nat → Nat → Nat) (hr : Nat → Nat → Nat → Nat) (PA PB : Nat → Nat → Nat → Nat → Prop) (step : Nat) : Prop := ∀ q' b' m' d', PB q' b' m' d' ↔ ∃ q b m d, PA q b m d ∧ ((0 < b ∧ q' = q ∧ b' + 1 = b ∧ m' = m ∧ d' = d) ∨ (b = 0 ∧ ∃ x, x < 3 ∧ ok x q ∧ q' = tg x q ∧ b' + 1 = ln x q ∧ m' = hr step q m ∧ d' = d + pc x q))
def StV (vd : Nat → Prop) (PA : Nat → Nat → Nat → Nat → Prop) : Prop := ∀ q b m d, PA q b m d → vd q ∧ b ≤ 10 ∧ d ≤ 900
def Wing (hr : Nat → Nat → Nat → Nat) (PA : Nat → Nat → Nat → Nat → Prop) (W step d : Nat) : Prop := ∃ q m, PA q 0 m d ∧ hr step q m = W
def LFg (hr : Nat → Nat → Nat → Nat) (PA : Nat → Nat → Nat → Nat → Prop) (W p step : Nat) (L0 f0 g0 : Int) (ω : am_W) : Prop := (am_get ω p 12 = L0 ∧ am_get ω p 13 = f0 ∧ am_get ω p 14 = g0) ∨ ∃ f : Nat, am_get ω p 13 = (f : Int) ∧ am_get ω p 12 = (f : Int) - 1 ∧ (f : Int) ≤ L0 ∧ Wing hr PA W step f ∧ am_get ω p 14 = if g0 = -1 then (step : Int) else g0
section STEPg
variable {vd : Nat → Prop} {ok : Nat → Nat → Prop} {tg ln pc : Nat → Nat → Nat} {hr : Nat → Nat → Nat → Nat} {PA PB : Nat → Nat → Nat → Nat → Prop} {W step : Nat} {R0 R : Nat → Nat → Int} {L0 L : Int}
/-- at first nothing is done -/
theorem rg_0 (hS : StS ok tg ln pc hr PA PB step) (hb : ∀ q b m d, PA q b m d → b ≤ 10) (h : RIg vd PA W step R0 L0) : RJg vd ok tg ln pc hr PB W step R0 L0 (fun _ _ => False) R0 L0 := by
  refine ⟨Int.le_refl _, fun m hm q hq => ⟨fun z => z.elim, fun _ => rfl⟩, fun m hm b hb' q hq => ?_, fun m hm b hb' q hq => Int.le_refl _, fun m hm q hq z => z.elim⟩
  have := h.1 m hm (b + 1) (by omega) q hq
  rw [show step + 1 + b = step + (b + 1) by omega]
  rcases this with z | ⟨d, z1, z2⟩
  · exact Or.inl z
  · exact Or.inr ⟨d, z1, (hS _ _ _ _).mpr ⟨q, b + 1, m, d, z2, Or.inl ⟨by omega, rfl, rfl, rfl, rfl⟩⟩⟩
/-- in the end all is done, and the next step's ring is there -/
theorem rg_end (hc : Cht vd ok tg ln pc) (hS : StS ok tg ln pc hr PA PB step) (hV : StV vd PA) (h : RIg vd PA W step R0 L0) (hW : ∀ t q m, m ≤ W → hr t q m ≤ W) (j : RJg vd ok tg ln pc hr PB W step R0 L0 (fun _ _ => True) R L) (hL : L < 1000000) : RIg vd PB W (step + 1) R L := by
  obtain ⟨j0, j1, j2, j3, j4⟩ := j
  constructor
  · intro m hm b hb q hq
    by_cases g : b < 10
    · exact j2 m hm b g q hq
    · obtain rfl : b = 10 := by omega
      left
      rw [show (step + 1 + 10) % 11 = step % 11 by omega]
      exact (j1 m hm q hq).1 trivial
  · intro q' b' m' d' hp hd
    obtain ⟨q, b, m, d, h1, h2⟩ := (hS _ _ _ _).mp hp
    obtain ⟨v1, v2, v3⟩ := hV _ _ _ _ h1
    rcases h2 with ⟨g1, rfl, g3, rfl, rfl⟩ | ⟨rfl, x, g2, g3, rfl, g5, rfl, rfl⟩
    · obtain ⟨k1, k2⟩ := h.2 _ _ _ _ h1 (by omega)
      refine ⟨k1, Int.le_trans (j3 m' k1 b' (by omega) q' v1) ?_⟩
      rw [show step + 1 + b' = step + b by omega]
      exact k2
    · have hdL : ((d : Nat) : Int) ≤ L := by omega
      obtain ⟨k1, k2⟩ := h.2 _ _ _ _ h1 (by omega)
      rw [Nat.add_zero] at k2
      obtain ⟨c1, c2, c3⟩ := hc q v1
      obtain ⟨y1, y2, y3, y4⟩ := c3 x g2 g3
      have s0 := h.1 m k1 0 (by omega) q v1
      rw [Nat.add_zero] at s0
      rcases s0 with z | ⟨d0, z1, z2⟩
      · rw [z] at k2; omega
      · rw [z1] at k2
        obtain ⟨w1, w2⟩ := j4 m k1 q v1 trivial d0 z1 (by omega)
        refine ⟨w1, ?_⟩
        have := w2 x g2 g3 (by omega)
        rw [show step + 1 + b' = step + ln x q by omega]
        omega
/-- nothing is found there -/
theorem rg_far {pr : Nat → Nat → Prop} {m q : Nat} (j : RJg vd ok tg ln pc hr PB W step R0 L0 pr R L) (hm : m < W) (hq : vd q) (hL : L < 1000000) (hR : R m (step % 11 * 120 + q) = 1000000) : RJg vd ok tg ln pc hr PB W step R0 L0 (fun m' q' => pr m' q' ∨ (m' = m ∧ q' = q)) R L := by
  obtain ⟨j0, j1, j2, j3, j4⟩ := j
  refine ⟨j0, fun m' hm' q' hq' => ⟨fun z => ?_, fun z => (j1 m' hm' q' hq').2 (fun y => z (Or.inl y))⟩, j2, j3, fun m' hm' q' hq' z => ?_⟩
  · rcases z with z | ⟨rfl, rfl⟩
    · exact (j1 m' hm' q' hq').1 z
    · exact hR
  · by_cases y : pr m' q'
    · exact j4 m' hm' q' hq' y
    · rcases z with z | ⟨rfl, rfl⟩
      · exact absurd z y
      · intro d hd
        have := (j1 m' hm' q' hq').2 y
        rw [hR] at this
        rw [← this] at hd
        intro hdL
        omega
/-- one is taken away and comes to nothing: too dear, or all are met -/
theorem rg_clear {pr : Nat → Nat → Prop} {m q d : Nat} {R' : Nat → Nat → Int} {L' : Int} (j : RJg vd ok tg ln pc hr PB W step R0 L0 pr R L) (hm : m < W) (hq : vd q) (hpr : ¬ pr m q) (hR : R m (step % 11 * 120 + q) = (d : Int)) (hL : L' ≤ L) (hd : L' < (d : Int)) (e1 : R' m (step % 11 * 120 + q) = 1000000) (e2 : ∀ m' k, ¬ (m' = m ∧ k = step % 11 * 120 + q) → R' m' k = R m' k) (hc : Cht vd ok tg ln pc) : RJg vd ok tg ln pc hr PB W step R0 L0 (fun m' q' => pr m' q' ∨ (m' = m ∧ q' = q)) R' L' := by
  obtain ⟨j0, j1, j2, j3, j4⟩ := j
  have q120 := (hc q hq).1
  have fut : ∀ m' b q', b < 10 → vd q' → R' m' ((step + 1 + b) % 11 * 120 + q') = R m' ((step + 1 + b) % 11 * 120 + q') := fun m' b q' hb hq' => e2 _ _ (by have := (hc q' hq').1; omega)
  refine ⟨by omega, fun m' hm' q' hq' => ⟨fun z => ?_, fun z => ?_⟩, fun m' hm' b hb q' hq' => ?_, fun m' hm' b hb q' hq' => ?_, fun m' hm' q' hq' z d' hd' hdL => ?_⟩
  · by_cases y : m' = m ∧ q' = q
    · rw [y.1, y.2]; exact e1
    · rw [e2 _ _ (by have := (hc q' hq').1; omega)]
      exact (j1 m' hm' q' hq').1 (z.resolve_right y)
  · rw [e2 _ _ (by have := (hc q' hq').1; have : ¬ (m' = m ∧ q' = q) := fun y => z (Or.inr y); omega)]
    exact (j1 m' hm' q' hq').2 (fun y => z (Or.inl y))
  · rw [fut m' b q' hb hq']; exact j2 m' hm' b hb q' hq'
  · rw [fut m' b q' hb hq']; exact j3 m' hm' b hb q' hq'
  · by_cases y : m' = m ∧ q' = q
    · obtain ⟨rfl, rfl⟩ := y
      have := (j1 m' hm' q' hq').2 hpr
      rw [hR] at this
      omega
    · obtain ⟨w1, w2⟩ := j4 m' hm' q' hq' (z.resolve_right y) d' hd' (by omega)
      refine ⟨w1, fun x hx hok hx2 => ?_⟩
      obtain ⟨c1, c2, c3⟩ := hc q' hq'
      obtain ⟨y1, y2, y3, y4⟩ := c3 x hx hok
      have := fut (hr step q' m') (ln x q' - 1) (tg x q') (by omega) y1
      rw [show step + 1 + (ln x q' - 1) = step + ln x q' by omega] at this
      rw [this]
      exact w2 x hx hok (by omega)
/-- one is taken away and goes on -/
theorem rg_go (hS : StS ok tg ln pc hr PA PB step) {pr : Nat → Nat → Prop} {m q d : Nat} {R' : Nat → Nat → Int} (j : RJg vd ok tg ln pc hr PB W step R0 L0 pr R L) (hm : m < W) (hq : vd q) (hpr : ¬ pr m q) (hR : R m (step % 11 * 120 + q) = (d : Int)) (hP : PA q 0 m d) (hn : hr step q m < W) (e1 : R' m (step % 11 * 120 + q) = 1000000) (e2 : ∀ m' q', vd q' → ¬ (m' = m ∧ q' = q) → R' m' (step % 11 * 120 + q') = R m' (step % 11 * 120 + q')) (e3 : ∀ m' b q', b < 10 → vd q' → R' m' ((step + 1 + b) % 11 * 120 + q') ≤ R m' ((step + 1 + b) % 11 * 120 + q')) (e4 : ∀ m' b q', b < 10 → vd q' → R' m' ((step + 1 + b) % 11 * 120 + q') = R m' ((step + 1 + b) % 11 * 120 + q') ∨ (m' = hr step q m ∧ ∃ x, x < 3 ∧ ok x q ∧ b + 1 = ln x q ∧ q' = tg x q ∧ R' m' ((step + 1 + b) % 11 * 120 + q') = ((d + pc x q : Nat) : Int))) (e5 : ∀ x, x < 3 → ok x q → ((d + pc x q : Nat) : Int) ≤ L → R' (hr step q m) ((step + ln x q) % 11 * 120 + tg x q) ≤ ((d + pc x q : Nat) : Int)) (hc : Cht vd ok tg ln pc) : RJg vd ok tg ln pc hr PB W step R0 L0 (fun m' q' => pr m' q' ∨ (m' = m ∧ q' = q)) R' L := by
  obtain ⟨j0, j1, j2, j3, j4⟩ := j
  refine ⟨j0, fun m' hm' q' hq' => ⟨fun z => ?_, fun z => ?_⟩, fun m' hm' b hb q' hq' => ?_, fun m' hm' b hb q' hq' => ?_, fun m' hm' q' hq' z d' hd' hdL => ?_⟩
  · by_cases y : m' = m ∧ q' = q
    · rw [y.1, y.2]; exact e1
    · rw [e2 _ _ hq' y]
      exact (j1 m' hm' q' hq').1 (z.resolve_right y)
  · rw [e2 _ _ hq' (fun y => z (Or.inr y))]
    exact (j1 m' hm' q' hq').2 (fun y => z (Or.inl y))
  · rcases e4 m' b q' hb hq' with z | ⟨rfl, x, x1, x2, x3, rfl, x5⟩
    · rw [z]; exact j2 m' hm' b hb q' hq'
    · right
      exact ⟨_, x5, (hS _ _ _ _).mpr ⟨q, 0, m, d, hP, Or.inr ⟨rfl, x, x1, x2, rfl, x3, rfl, rfl⟩⟩⟩
  · exact Int.le_trans (e3 m' b q' hb hq') (j3 m' hm' b hb q' hq')
  · by_cases y : m' = m ∧ q' = q
    · obtain ⟨rfl, rfl⟩ := y
      have := (j1 m' hm' q' hq').2 hpr
      rw [hR, hd'] at this
      obtain rfl : d = d' := by omega
      exact ⟨hn, fun x hx hok hx2 => e5 x hx hok hx2⟩
    · obtain ⟨w1, w2⟩ := j4 m' hm' q' hq' (z.resolve_right y) d' hd' hdL
      refine ⟨w1, fun x hx hok hx2 => ?_⟩
      obtain ⟨c1, c2, c3⟩ := hc q' hq'
      obtain ⟨y1, y2, y3, y4⟩ := c3 x hx hok
      have := e3 (hr step q' m') (ln x q' - 1) (tg x q') (by omega) y1
      rw [show step + 1 + (ln x q' - 1) = step + ln x q' by omega] at this
      exact Int.le_trans this (w2 x hx hok hx2)
end STEPg
section PRg
variable {vd : Nat → Prop} {ok : Nat → Nat → Prop} {tg ln pc : Nat → Nat → Nat} {hr : Nat → Nat → Nat → Nat} {PA PB : Nat → Nat → Nat → Nat → Prop} {W step : Nat} {L : Int}
theorem rg_pr {R0 R : Nat → Nat → Int} {L0 : Int} {pr pr' : Nat → Nat → Prop} (e : ∀ m q, m < W → vd q → (pr m q ↔ pr' m q)) (j : RJg vd ok tg ln pc hr PB W step R0 L0 pr R L) : RJg vd ok tg ln pc hr PB W step R0 L0 pr' R L := by
  obtain ⟨j0, j1, j2, j3, j4⟩ := j
  refine ⟨j0, fun m hm q hq => ?_, j2, j3, fun m hm q hq z => j4 m hm q hq ((e m q hm hq).mpr z)⟩
  rw [← e m q hm hq]
  exact j1 m hm q hq
end PRg
section VIg
variable {ω : am_W} {vd : Nat → Prop} {ok : Nat → Nat → Prop} {tg ln pc : Nat → Nat → Nat} {hr : Nat → Nat → Nat → Nat} {PA PB : Nat → Nat → Nat → Nat → Prop} {p step M W : Nat}
theorem g_visit_in (hP0 : Pls ω p) (hw0 : Chw ω p vd ok tg ln pc) (hc : Cht vd ok tg ln pc) (hS : StS ok tg ln pc hr PA PB step) (hV : StV vd PA) (hs : step ≤ 60) (h10 : am_get ω p 10 = (M : Int)) (hM : M ≤ 3) (h11 : am_get ω p 11 = (W : Int)) (hW7 : W ≤ 7) (msp : Nat → Int) (hms : ∀ k, k < M → am_get ω (p + 24) k = msp k) (hhr : ∀ q m, hr step q m = orN (fun k => msp k = (q : Int)) M m) (hW : ∀ t q m, m ≤ W → hr t q m ≤ W) {L0 f0 g0 : Int} (hL0 : L0 < 1000000) (ri : RIg vd PA W step (fun m k => am_get ω (p + 15 + m) k) L0) : ∀ n m i : Nat, m < W → (∃ S : Nat, am_get ω p 2 = (S : Int) ∧ i + n = S ∧ S ≤ 120) → ∀ ω1 (o5 o6 : Option am_V), FrP p ω ω1 → RJg vd ok tg ln pc hr PB W step (fun m k => am_get ω (p + 15 + m) k) L0 (fun m' q' => m' < m ∨ (m' = m ∧ ∃ i', i' < i ∧ am_get ω (p + 1) i' = (q' : Int))) (fun m k => am_get ω1 (p + 15 + m) k) (am_get ω1 p 12) → LFg hr PA W p step L0 f0 g0 ω1 → ∃ (ω2 : am_W) (o4 o5' o6' : Option am_V), am_run (13, 0) 68 ([some (.inr (.inr ((p : Int)))), some (.inl ((step : Int))), some (.inl (((step % 11 * 120 : Nat) : Int))), some (.inl ((m : Int))), some (.inl ((i : Int))), o5, o6], [], ω1) = am_run (13, 0) 51 ([some (.inr (.inr ((p : Int)))), some (.inl ((step : Int))), some (.inl (((step % 11 * 120 : Nat) : Int))), some (.inl (((m + 1 : Nat) : Int))), o4, o5', o6'], [], ω2) ∧ FrP p ω ω2 ∧ RJg vd ok tg ln pc hr PB W step (fun m k => am_get ω (p + 15 + m) k) L0 (fun m' _ => m' < m + 1) (fun m k => am_get ω2 (p + 15 + m) k) (am_get ω2 p 12) ∧ LFg hr PA W p step L0 f0 g0 ω2 := by
  intro n
  induction n with
  | zero =>
    rintro m i hm ⟨S, s1, s2, s3⟩ ω1 o5 o6 F J lf
    have P1 := hP0.dc F.1
    have e2 : am_get ω1 p 2 = (S : Int) := (F.2 _ _ (by omega) (by omega)).trans s1
    refine ⟨ω1, some (.inl (i : Int)), o5, o6, ?_, F, ?_, lf⟩
    · rw [pX1_visit_68 _ _ _ _ _ _ _ _ (pl_is P1)]
      simp only [am_bi_s, am_bl_s, am_ba_s, am_bv_s, Int.toNat_zero, Int.reduceToNat, Int.toNat_natCast, if_true, if_false, not_true, not_false_eq_true, Int.reduceEq, Int.reduceLT, Int.reduceLE, e2]
      rw [if_pos (by omega), am_w_s (by omega) (by omega), show (m : Int) + 1 = ((m + 1 : Nat) : Int) by omega]
    · refine rg_pr (fun m' q' hm' hq' => ⟨fun z => by rcases z with z | z <;> omega, fun z => ?_⟩) J
      by_cases e : m' = m
      · right
        refine ⟨e, ?_⟩
        obtain ⟨⟨S', t1, t2, t3, t4⟩, _⟩ := hw0
        obtain ⟨i', z1, z2⟩ := t4 q' hq'
        have : S' = S := by rw [s1] at t2; omega
        exact ⟨i', by omega, z2⟩
      · left; omega
  | succ n ih =>
    rintro m i hm ⟨S, s1, s2, s3⟩ ω1 o5 o6 F J lf
    have iS : i < S := by omega
    have i120 : (i : Int) < 120 := by omega
    have i1 : am_w ((i : Int) + 1) = ((i + 1 : Nat) : Int) := (am_w_s (by omega) (by omega)).trans (by omega)
    have m7 : m < 7 := by omega
    have m7i : (m : Int) < 7 := by omega
    have nS : ¬ (S : Int) ≤ (i : Int) := by omega
    have sn : ∃ S' : Nat, am_get ω p 2 = (S' : Int) ∧ i + 1 + n = S' ∧ S' ≤ 120 := ⟨S, s1, by omega, s3⟩
    have P1 := hP0.dc F.1
    have e2 : am_get ω1 p 2 = (S : Int) := (F.2 _ _ (by omega) (by omega)).trans s1
    obtain ⟨q, hq, eq⟩ : ∃ q : Nat, vd q ∧ am_get ω (p + 1) i = (q : Int) := by
      obtain ⟨⟨S', t1, t2, t3, t4⟩, _⟩ := hw0
      exact t3 i (v_ms s1 t2 ▸ iS)
    have q120 := (hc q hq).1
    have e3 : am_get ω1 (p + 1) i = (q : Int) := (F.2 _ _ (by omega) (by omega)).trans eq
    have ix : am_w (((step % 11 * 120 : Nat) : Int) + (q : Int)) = ((step % 11 * 120 + q : Nat) : Int) := (am_w_s (by omega) (by omega)).trans (by omega)
    have Q := pX1_visit_68 (p : Int) step ((step % 11 * 120 : Nat) : Int) m i o5 o6 ω1 (pl_is P1)
    simp only [am_bi_s, am_bl_s, am_ba_s, am_bv_s, Int.toNat_zero, Int.reduceToNat, Int.toNat_natCast, if_true, if_false, not_true, not_false_eq_true, Int.reduceEq, Int.reduceLT, Int.reduceLE, e2, if_neg nS, pl_1 P1, pl_s120 P1 (i := (i : Int)) (Int.natCast_nonneg _) i120, e3, ix, pl_6 P1, pl_ina7 P1 (i := (m : Int)) (Int.natCast_nonneg _) m7i, pl_r P1 m7, pl_ring P1 m7 (i := ((step % 11 * 120 + q : Nat) : Int)) (Int.natCast_nonneg _) (Int.ofNat_lt.mpr (ix_lt q120)), i1] at Q
    have pr' : ∀ m' q', m' < W → vd q' → (((m' < m ∨ (m' = m ∧ ∃ i', i' < i ∧ am_get ω (p + 1) i' = (q' : Int))) ∨ (m' = m ∧ q' = q)) ↔ (m' < m ∨ (m' = m ∧ ∃ i', i' < i + 1 ∧ am_get ω (p + 1) i' = (q' : Int)))) := fun m' q' _ _ => v_pr eq
    have L1 : am_get ω1 p 12 < 1000000 := by have := J.1; omega
    by_cases gF : am_get ω1 (p + 15 + m) (step % 11 * 120 + q) = 1000000
    · rw [if_pos gF] at Q
      obtain ⟨ω2, o4, o5', o6', r, rest⟩ := ih m (i + 1) hm sn ω1 _ _ F (rg_pr pr' (rg_far J hm hq L1 gF)) lf
      exact ⟨ω2, o4, o5', o6', Q.trans r, rest⟩
    · have npr : ¬ (m < m ∨ (m = m ∧ ∃ i', i' < i ∧ am_get ω (p + 1) i' = (q : Int))) := fun z => gF ((J.2.1 m hm q hq).1 z)
      have eR : am_get ω1 (p + 15 + m) (step % 11 * 120 + q) = am_get ω (p + 15 + m) (step % 11 * 120 + q) := (J.2.1 m hm q hq).2 npr
      have s0 : am_get ω (p + 15 + m) (step % 11 * 120 + q) = 1000000 ∨ ∃ d : Nat, am_get ω (p + 15 + m) (step % 11 * 120 + q) = (d : Int) ∧ PA q 0 m d := ri.1 m hm 0 (Nat.zero_le _) q hq
      obtain ⟨d, ed, hd⟩ := s0.resolve_left (fun z => gF (eR.trans z))
      have ed1 : am_get ω1 (p + 15 + m) (step % 11 * 120 + q) = (d : Int) := eR.trans ed
      obtain ⟨_, _, d9⟩ := hV _ _ _ _ hd
      have d1000 : d ≤ 1000 := by omega
      rw [if_neg gF, ed1] at Q
      have F2 : FrP p ω1 (am_put ω1 (p + 15 + m) (step % 11 * 120 + q) 1000000) := by
        have := FrP.ring (p := p) (r := 15 + m) (k := step % 11 * 120 + q) (v := 1000000) P1 (by omega)
        rw [← Nat.add_assoc] at this
        exact this
      obtain ⟨ω2, hω2⟩ : ∃ w, w = am_put ω1 (p + 15 + m) (step % 11 * 120 + q) 1000000 := ⟨_, rfl⟩
      rw [← hω2] at Q F2
      have F02 := F.tr F2
      have P2 := hP0.dc F02.1
      have clr : ∀ m' k, ¬ (m' = m ∧ k = step % 11 * 120 + q) → am_get ω2 (p + 15 + m') k = am_get ω1 (p + 15 + m') k := fun m' k z => by rw [hω2]; exact if_neg (fun y => z ⟨by omega, y.2⟩)
      have clr0 : am_get ω2 (p + 15 + m) (step % 11 * 120 + q) = 1000000 := by rw [hω2]; exact gp_same
      have w2 := hw0.kp (ω' := ω2) (fun a k z => F02.2 a k (by omega) (by omega))
      have L2 : am_get ω2 p 12 = am_get ω1 p 12 := by rw [hω2]; exact gp_cell (by omega)
      have L3 : am_get ω2 p 13 = am_get ω1 p 13 := by rw [hω2]; exact gp_cell (by omega)
      have L4 : am_get ω2 p 14 = am_get ω1 p 14 := by rw [hω2]; exact gp_cell (by omega)
      have hor : orN (fun k => msp k = (q : Int)) M m ≤ W := by rw [← hhr]; exact hW _ _ _ (by omega)
      obtain ⟨ω3, r3, cs⟩ := c_arrive (Q := fun k => msp k = (q : Int)) (m := m) (d := d) (step := step) P2 w2 hc hq m7 d1000 (by omega) L2 ((F02.2 _ _ (by omega) (by omega)).trans h10) hM ((F02.2 _ _ (by omega) (by omega)).trans h11) hW7 (fun k hk => by rw [F02.2 _ _ (by omega) (by omega), hms k hk]) hor
      rw [bv_v r3] at Q
      rw [← hhr] at cs
      have go : ∀ (F3 : FrP p ω ω3), RJg vd ok tg ln pc hr PB W step (fun m k => am_get ω (p + 15 + m) k) L0 (fun m' q' => (m' < m ∨ (m' = m ∧ ∃ i', i' < i ∧ am_get ω (p + 1) i' = (q' : Int))) ∨ (m' = m ∧ q' = q)) (fun m k => am_get ω3 (p + 15 + m) k) (am_get ω3 p 12) → LFg hr PA W p step L0 f0 g0 ω3 → _ := fun F3 J3 lf3 => ih m (i + 1) hm sn ω3 (some (.inl (q : Int))) (some (.inl (d : Int))) F3 (rg_pr pr' J3) lf3
      have fin : ∃ (ω2 : am_W) (o4 o5' o6' : Option am_V), am_run (13, 0) 68 ([some (.inr (.inr ((p : Int)))), some (.inl ((step : Int))), some (.inl (((step % 11 * 120 : Nat) : Int))), some (.inl ((m : Int))), some (.inl (((i + 1 : Nat) : Int))), some (.inl ((q : Int))), some (.inl ((d : Int)))], [], ω3) = am_run (13, 0) 51 ([some (.inr (.inr ((p : Int)))), some (.inl ((step : Int))), some (.inl (((step % 11 * 120 : Nat) : Int))), some (.inl (((m + 1 : Nat) : Int))), o4, o5', o6'], [], ω2) ∧ FrP p ω ω2 ∧ RJg vd ok tg ln pc hr PB W step (fun m k => am_get ω (p + 15 + m) k) L0 (fun m' _ => m' < m + 1) (fun m k => am_get ω2 (p + 15 + m) k) (am_get ω2 p 12) ∧ LFg hr PA W p step L0 f0 g0 ω2 := by
        rcases cs with ⟨c1, rfl⟩ | ⟨c1, c2, rfl⟩ | ⟨c1, c2, c3⟩
        · refine go F02 ?_ ?_
          · exact rg_clear (R := fun m k => am_get ω1 (p + 15 + m) k) J hm hq npr ed1 (by rw [L2]; exact Int.le_refl _) (by rw [L2]; exact c1) clr0 clr hc
          · unfold LFg
            rw [L2, L3, L4]
            exact lf
        · have FF := FrP.fin (step := step) (d := d) P2
          obtain ⟨f12, f13, f14⟩ := fin_12 (ω := ω2) (p := p) (step := step) (d := d)
          have J0 := J.1
          refine go (F02.tr FF) ?_ ?_
          · refine rg_clear (R := fun m k => am_get ω1 (p + 15 + m) k) J hm hq npr ed1 (by rw [f12]; omega) (by rw [f12]; omega) ?_ (fun m' k z => ?_) hc
            · exact (fin_o (by omega)).trans clr0
            · exact (fin_o (by omega)).trans (clr m' k z)
          · refine Or.inr ⟨d, f13, f12, by omega, ⟨q, m, hd, c2⟩, ?_⟩
            rw [f14, L4]
            rcases lf with ⟨_, _, l3⟩ | ⟨_, _, _, _, _, l3⟩
            · rw [l3]
            · rw [l3]
              by_cases z : g0 = -1
              · rw [if_pos z, if_neg (by omega)]
              · rw [if_neg z, if_neg z]
        · obtain ⟨t0, t1, t2, t3, t4⟩ := c3
          have FS : FrP p ω2 ω3 := ⟨t0, fun a k _ z => t1 a k (by omega)⟩
          have k12 : am_get ω3 p 12 = am_get ω1 p 12 := (t1 _ _ (by omega)).trans L2
          have row : ∀ m' k, m' ≠ hr step q m → am_get ω3 (p + 15 + m') k = am_get ω2 (p + 15 + m') k := fun m' k z => t1 _ _ (by omega)
          have rle : ∀ m' k, am_get ω3 (p + 15 + m') k ≤ am_get ω2 (p + 15 + m') k := fun m' k => by
            by_cases z : m' = hr step q m
            · rw [z]; exact t2 k
            · rw [row m' k z]; exact Int.le_refl _
          have cur : ∀ m' q', vd q' → am_get ω3 (p + 15 + m') (step % 11 * 120 + q') = am_get ω2 (p + 15 + m') (step % 11 * 120 + q') := fun m' q' hq' => by
            by_cases z : m' = hr step q m
            · rw [z]
              rcases t3 (step % 11 * 120 + q') with y | ⟨x, x1, x2, x3, x4, x5⟩
              · exact y
              · have a1 := (hc q' hq').1
                obtain ⟨_, _, c3'⟩ := hc q hq
                obtain ⟨y1, y2, y3, y4⟩ := c3' x x1 x2
                have a2 := (hc _ y1).1
                exfalso
                clear t3 t4 rle row J ri
                omega
            · exact row m' _ z
          refine go (F02.tr FS) ?_ ?_
          · rw [k12]
            refine rg_go hS (R := fun m k => am_get ω1 (p + 15 + m) k) J hm hq npr ed1 hd c2 ((cur m q hq).trans clr0) (fun m' q' hq' z => (cur m' q' hq').trans (clr m' _ (fun y => z ⟨y.1, Classical.byContradiction (fun x => v_s0 x y.2)⟩))) (fun m' b q' hb hq' => ?_) (fun m' b q' hb hq' => ?_) (fun x hx hok hxL => t4 x hx hok hxL) hc
            · refine Int.le_trans (rle m' _) ?_
              rw [clr m' _ (fun y => v_sl q120 (hc q' hq').1 hb y.2)]
              exact Int.le_refl _
            · have e : am_get ω2 (p + 15 + m') ((step + 1 + b) % 11 * 120 + q') = am_get ω1 (p + 15 + m') ((step + 1 + b) % 11 * 120 + q') := clr m' _ (fun y => v_sl q120 (hc q' hq').1 hb y.2)
              by_cases z : m' = hr step q m
              · subst z
                rcases t3 ((step + 1 + b) % 11 * 120 + q') with y | ⟨x, x1, x2, x3, x4, x5⟩
                · exact Or.inl (y.trans e)
                · right
                  have a1 := (hc q' hq').1
                  obtain ⟨_, _, c3'⟩ := hc q hq
                  obtain ⟨y1, y2, y3, y4⟩ := c3' x x1 x2
                  have a2 := (hc _ y1).1
                  refine ⟨rfl, x, x1, x2, ?_, ?_, x5⟩
                  · clear t3 t4 rle row J ri x5 x3; omega
                  · clear t3 t4 rle row J ri x5 x3; omega
              · exact Or.inl ((row m' _ z).trans e)
          · unfold LFg
            rw [k12, t1 p 13 (by omega), t1 p 14 (by omega), L3, L4]
            exact lf
      obtain ⟨ω4, o4, o5', o6', r, rest⟩ := fin
      exact ⟨ω4, o4, o5', o6', Q.trans r, rest⟩
theorem g_visit_out (hP0 : Pls ω p) (hw0 : Chw ω p vd ok tg ln pc) (hc : Cht vd ok tg ln pc) (hS : StS ok tg ln pc hr PA PB step) (hV : StV vd PA) (hs : step ≤ 60) (h10 : am_get ω p 10 = (M : Int)) (hM : M ≤ 3) (h11 : am_get ω p 11 = (W : Int)) (hW7 : W ≤ 7) (msp : Nat → Int) (hms : ∀ k, k < M → am_get ω (p + 24) k = msp k) (hhr : ∀ q m, hr step q m = orN (fun k => msp k = (q : Int)) M m) (hW : ∀ t q m, m ≤ W → hr t q m ≤ W) {L0 f0 g0 : Int} (hL0 : L0 < 1000000) (ri : RIg vd PA W step (fun m k => am_get ω (p + 15 + m) k) L0) : ∀ n m : Nat, m + n = W → ∀ ω1 (o4 o5 o6 : Option am_V), FrP p ω ω1 → RJg vd ok tg ln pc hr PB W step (fun m k => am_get ω (p + 15 + m) k) L0 (fun m' _ => m' < m) (fun m k => am_get ω1 (p + 15 + m) k) (am_get ω1 p 12) → LFg hr PA W p step L0 f0 g0 ω1 → ∃ ω2 : am_W, am_run (13, 0) 51 ([some (.inr (.inr ((p : Int)))), some (.inl ((step : Int))), some (.inl (((step % 11 * 120 : Nat) : Int))), some (.inl ((m : Int))), o4, o5, o6], [], ω1) = some (none, ω2) ∧ FrP p ω ω2 ∧ RJg vd ok tg ln pc hr PB W step (fun m k => am_get ω (p + 15 + m) k) L0 (fun _ _ => True) (fun m k => am_get ω2 (p + 15 + m) k) (am_get ω2 p 12) ∧ LFg hr PA W p step L0 f0 g0 ω2 := by
  obtain ⟨S, s1, s2⟩ : ∃ S : Nat, S ≤ 120 ∧ am_get ω p 2 = (S : Int) := by
    obtain ⟨⟨S, s1, s2, _⟩, _⟩ := hw0
    exact ⟨S, s1, s2⟩
  intro n
  induction n with
  | zero =>
    intro m hm ω1 o4 o5 o6 F J lf
    obtain rfl : m = W := by omega
    have P1 := hP0.dc F.1
    have e11 : am_get ω1 p 11 = (m : Int) := (F.2 _ _ (by omega) (by omega)).trans h11
    refine ⟨ω1, ?_, F, rg_pr (fun m' q' hm' hq' => ⟨fun _ => trivial, fun _ => hm'⟩) J, lf⟩
    rw [pX1_visit_51 _ _ _ _ _ _ _ _ (pl_is P1), Int.toNat_natCast, e11, if_pos (Int.le_refl _)]
  | succ n ih =>
    intro m hm ω1 o4 o5 o6 F J lf
    have mW : m < W := by omega
    have a1 : ¬ (W : Int) ≤ (m : Int) := by omega
    have a2 : ¬ (7 : Int) ≤ (m : Int) := by omega
    have m1 : m + 1 + n = W := by omega
    have P1 := hP0.dc F.1
    have e11 : am_get ω1 p 11 = (W : Int) := (F.2 _ _ (by omega) (by omega)).trans h11
    have Q := pX1_visit_51 (p : Int) step ((step % 11 * 120 : Nat) : Int) m o4 o5 o6 ω1 (pl_is P1)
    rw [Int.toNat_natCast, e11, if_neg a1, if_neg a2] at Q
    obtain ⟨ω2, o4', o5', o6', r, F2, J2, lf2⟩ := g_visit_in hP0 hw0 hc hS hV hs h10 hM h11 hW7 msp hms hhr hW hL0 ri S m 0 mW ⟨S, s2, Nat.zero_add S, s1⟩ ω1 o5 o6 F (rg_pr (fun m' q' hm' hq' => ⟨fun z => Or.inl z, fun z => z.elim id (fun ⟨_, i', y, _⟩ => absurd y (Nat.not_lt_zero _))⟩) J) lf
    obtain ⟨ω3, r3, rest⟩ := ih (m + 1) m1 ω2 o4' o5' o6' F2 J2 lf2
    exact ⟨ω3, Q.trans (r.trans r3), rest⟩
theorem g_visit (h : Inv ω) (hP0 : Pls ω p) (hw0 : Chw ω p vd ok tg ln pc) (hc : Cht vd ok tg ln pc) (hS : StS ok tg ln pc hr PA PB step) (hV : StV vd PA) (hs : step ≤ 60) (h10 : am_get ω p 10 = (M : Int)) (hM : M ≤ 3) (h11 : am_get ω p 11 = (W : Int)) (hW7 : W ≤ 7) (mem : Nat → Nat) (hmem : ∀ k, k < M → am_get ω (p + 23) k = (mem k : Int) ∧ (mem k : Int) < am_get ω 1 3) (hhr : ∀ q m, hr step q m = orN (fun k => mS ω mem step k = (q : Int)) M m) (hW : ∀ t q m, m ≤ W → hr t q m ≤ W) (hL0 : am_get ω p 12 < 1000000) (ri : RIg vd PA W step (fun m k => am_get ω (p + 15 + m) k) (am_get ω p 12)) : ∃ ω2 : am_W, am_run (13, 0) 0 ([some (.inr (.inr ((p : Int)))), some (.inl ((step : Int))), none, none, none, none, none], [], ω) = some (none, ω2) ∧ FrW p ω ω2 ∧ RIg vd PB W (step + 1) (fun m k => am_get ω2 (p + 15 + m) k) (am_get ω2 p 12) ∧ LFg hr PA W p step (am_get ω p 12) (am_get ω p 13) (am_get ω p 14) ω2 ∧ am_get ω2 p 12 ≤ am_get ω p 12 ∧ ∀ d : Nat, Wing hr PA W step d → (d : Int) ≤ am_get ω2 p 12 → False := by
  obtain ⟨ω1, r1, d1, o1, m1⟩ := c_members h hP0 (step := step) (by omega) h10 hM mem hmem
  have P1 := hP0.dc d1
  have er : (fun m k => am_get ω1 (p + 15 + m) k : Nat → Nat → Int) = fun m k => if m = 9 then am_get ω1 (p + 24) k else am_get ω (p + 15 + m) k := by
    funext m k
    by_cases z : m = 9
    · rw [if_pos z, z]
    · rw [if_neg z]; exact o1 _ _ (by omega)
  have e12 := o1 p 12 (by omega)
  have W9 : ∀ m, m < W → m ≠ 9 := fun m hm => by omega
  have ri1 : RIg vd PA W step (fun m k => am_get ω1 (p + 15 + m) k) (am_get ω1 p 12) := by
    rw [e12]
    have o2 : ∀ m k, m < W → am_get ω1 (p + 15 + m) k = am_get ω (p + 15 + m) k := fun m k hm => o1 _ _ (by have := W9 m hm; clear ri; omega)
    refine ⟨fun m hm b hb q hq => ?_, fun q b m d hp hd => ?_⟩
    · show am_get ω1 (p + 15 + m) _ = _ ∨ ∃ d : Nat, am_get ω1 (p + 15 + m) _ = _ ∧ _
      rw [o2 m _ hm]; exact ri.1 m hm b hb q hq
    · obtain ⟨x1, x2⟩ := ri.2 q b m d hp hd
      refine ⟨x1, ?_⟩
      show am_get ω1 (p + 15 + m) _ ≤ _
      rw [o2 m _ x1]; exact x2
  have j1 := rg_0 hS (fun q b m d z => (hV _ _ _ _ z).2.1) ri1
  obtain ⟨ω2, r2, F2, J2, lf2⟩ := g_visit_out (ω := ω1) P1 (hw0.kp (fun a k z => o1 a k (by omega))) hc hS hV hs ((o1 _ _ (by omega)).trans h10) hM ((o1 _ _ (by omega)).trans h11) hW7 (mS ω mem step) m1 hhr hW (f0 := am_get ω1 p 13) (g0 := am_get ω1 p 14) (by rw [e12]; exact hL0) ri1 W 0 (by omega) ω1 none none none FrP.rf (rg_pr (fun m' q' _ _ => ⟨fun z => z.elim, fun z => absurd z (Nat.not_lt_zero _)⟩) j1) (Or.inl ⟨rfl, rfl, rfl⟩)
  have J0 := J2.1
  rw [e12] at J0
  have L2 : am_get ω2 p 12 < 1000000 := Int.lt_of_le_of_lt J0 hL0
  refine ⟨ω2, r1.trans r2, ⟨d1.tr F2.1, fun a k y1 y2 y3 => (F2.2 a k y1 y2).trans (o1 a k y3)⟩, rg_end hc hS hV ri1 hW J2 L2, ?_, J0, ?_⟩
  · have e13 := o1 p 13 (by omega)
    have e14 := o1 p 14 (by omega)
    rw [e12, e13, e14] at lf2
    exact lf2
  · rintro d ⟨q, m, w1, w2⟩ hd
    have vq := (hV _ _ _ _ w1).1
    obtain ⟨k1, k2⟩ := ri1.2 q 0 m d w1 (by rw [e12]; exact Int.le_trans hd J0)
    have k2' : am_get ω1 (p + 15 + m) (step % 11 * 120 + q) ≤ (d : Int) := k2
    have s0 : am_get ω1 (p + 15 + m) (step % 11 * 120 + q) = 1000000 ∨ ∃ d : Nat, am_get ω1 (p + 15 + m) (step % 11 * 120 + q) = (d : Int) ∧ PA q 0 m d := ri1.1 m k1 0 (Nat.zero_le _) q vq
    rcases s0 with z | ⟨d0, z1, z2⟩
    · rw [z] at k2'
      exact absurd (Int.lt_of_le_of_lt (Int.le_trans k2' hd) L2) (Int.lt_irrefl _)
    · rw [z1] at k2'
      have := (J2.2.2.2.2 m k1 q vq trivial d0 z1 (Int.le_trans k2' hd)).1
      rw [w2] at this
      exact absurd this (Nat.lt_irrefl _)
end VIg
end K100
