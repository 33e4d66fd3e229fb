/-! ===== ways in thought: what can be reached ===== -/
section K50
/-- a chart of spots: ok x q: code x can be at spot q; it leads to tg x q, lasts ln x q, costs pc x q -/
def Cht (vd : Nat → Prop) (ok : Nat → Nat → Prop) (tg ln pc : Nat → Nat → Nat) : Prop := ∀ q, vd q → q < 120 ∧ ok 0 q ∧ ∀ x, x < 3 → ok x q → vd (tg x q) ∧ 1 ≤ ln x q ∧ ln x q ≤ 10 ∧ pc x q ≤ 9
/-- behind t steps: at spot q, still busy for b steps, those of m met before, for d drops -/
def Pth (ok : Nat → Nat → Prop) (tg ln pc : Nat → Nat → Nat) (hr : Nat → Nat → Nat → Nat) (q0 b0 : Nat) : Nat → Nat → Nat → Nat → Nat → Prop
  | 0, q, b, m, d => q = q0 ∧ b = b0 ∧ m = 0 ∧ d = 0
  | t + 1, q', b', m', d' => ∃ q b m d, Pth ok tg ln pc hr q0 b0 t q b m d ∧ ((0 < b ∧ q' = q ∧ b' + 1 = b ∧ m' = m ∧ d' = d) ∨ (b = 0 ∧ ∃ x, x < 3 ∧ ok x q ∧ q' = tg x q ∧ b' + 1 = ln x q ∧ m' = hr t q m ∧ d' = d + pc x q))
def Win (ok : Nat → Nat → Prop) (tg ln pc : Nat → Nat → Nat) (hr : Nat → Nat → Nat → Nat) (q0 b0 W t d : Nat) : Prop := ∃ q m, Pth ok tg ln pc hr q0 b0 t q 0 m d ∧ hr t q m = W
section PURE
variable {vd : Nat → Prop} {ok : Nat → Nat → Prop} {tg ln pc : Nat → Nat → Nat} {hr : Nat → Nat → Nat → Nat} {q0 b0 W : Nat}
theorem P_s {t q' b' m' d' : Nat} : Pth ok tg ln pc hr q0 b0 (t + 1) q' b' m' d' ↔ ∃ q b m d, Pth ok tg ln pc hr q0 b0 t q b m d ∧ ((0 < b ∧ q' = q ∧ b' + 1 = b ∧ m' = m ∧ d' = d) ∨ (b = 0 ∧ ∃ x, x < 3 ∧ ok x q ∧ q' = tg x q ∧ b' + 1 = ln x q ∧ m' = hr t q m ∧ d' = d + pc x q)) := Iff.rfl
theorem P_v (hc : Cht vd ok tg ln pc) (hv : vd q0) (hb : b0 ≤ 10) : ∀ t q b m d, Pth ok tg ln pc hr q0 b0 t q b m d → vd q ∧ b ≤ 10 ∧ d ≤ 9 * t := by
  intro t
  induction t with
  | zero => rintro q b m d ⟨rfl, rfl, rfl, rfl⟩; exact ⟨hv, hb, Nat.le_refl 0⟩
  | succ t ih =>
    intro q b m d h
    obtain ⟨q1, b1, m1, d1, h1, h2⟩ := P_s.mp h
    obtain ⟨i1, i2, i3⟩ := ih _ _ _ _ h1
    rcases h2 with ⟨g1, rfl, g3, rfl, rfl⟩ | ⟨g1, x, g2, g3, rfl, g5, rfl, rfl⟩
    · exact ⟨i1, by omega, by omega⟩
    · obtain ⟨c1, c2, c3⟩ := hc q1 i1
      obtain ⟨k1, k2, k3, k4⟩ := c3 x g2 g3
      exact ⟨k1, by omega, by omega⟩
theorem P_m (hW : ∀ t q m, m ≤ W → hr t q m ≤ W) : ∀ t q b m d, Pth ok tg ln pc hr q0 b0 t q b m d → m ≤ W := by
  intro t
  induction t with
  | zero => rintro q b m d ⟨_, _, rfl, _⟩; omega
  | succ t ih =>
    intro q b m d h
    obtain ⟨q1, b1, m1, d1, h1, h2⟩ := P_s.mp h
    have := ih _ _ _ _ h1
    rcases h2 with ⟨_, _, _, rfl, _⟩ | ⟨_, x, _, _, _, _, rfl, _⟩
    · exact this
    · exact hW _ _ _ this
/-- as long as it is busy at first there is one way -/
theorem P_busy : ∀ t, t ≤ b0 → ∀ q b m d, Pth ok tg ln pc hr q0 b0 t q b m d ↔ (q = q0 ∧ b + t = b0 ∧ m = 0 ∧ d = 0) := by
  intro t
  induction t with
  | zero => intro _ q b m d; exact Iff.rfl
  | succ t ih =>
    intro ht q b m d
    rw [P_s]
    constructor
    · rintro ⟨q1, b1, m1, d1, h1, h2⟩
      obtain ⟨rfl, hb, rfl, rfl⟩ := (ih (by omega) _ _ _ _).mp h1
      rcases h2 with ⟨g1, rfl, g3, rfl, rfl⟩ | ⟨g1, _⟩
      · exact ⟨rfl, by omega, rfl, rfl⟩
      · omega
    · rintro ⟨rfl, hb, rfl, rfl⟩
      exact ⟨q, b + 1, 0, 0, (ih (by omega) _ _ _ _).mpr ⟨rfl, by omega, rfl, rfl⟩, Or.inl ⟨by omega, rfl, rfl, rfl, rfl⟩⟩
theorem win_busy {t d : Nat} (ht : t < b0) (h : Win ok tg ln pc hr q0 b0 W t d) : False := by
  obtain ⟨q, m, h1, _⟩ := h
  have := (P_busy t (by omega) _ _ _ _).mp h1
  omega
/-- one that has met all before had won before, for no more -/
theorem P_won (h0 : 0 < W) : ∀ t q b m d, Pth ok tg ln pc hr q0 b0 t q b m d → m = W → ∃ t' d', t' < t ∧ d' ≤ d ∧ Win ok tg ln pc hr q0 b0 W t' d' := by
  intro t
  induction t with
  | zero => rintro q b m d ⟨_, _, rfl, _⟩ h; omega
  | succ t ih =>
    intro q b m d h hm
    obtain ⟨q1, b1, m1, d1, h1, h2⟩ := P_s.mp h
    rcases h2 with ⟨_, rfl, _, rfl, rfl⟩ | ⟨rfl, x, g2, g3, rfl, g5, rfl, rfl⟩
    · obtain ⟨t', d', z1, z2, z3⟩ := ih _ _ _ _ h1 hm
      exact ⟨t', d', by omega, z2, z3⟩
    · exact ⟨t, d1, by omega, by omega, q1, m1, h1, hm⟩
end PURE
/-- what a ring holds at a step: those that are found are ways, and all ways up to the limit are found -/
def RI (vd : Nat → Prop) (ok : Nat → Nat → Prop) (tg ln pc : Nat → Nat → Nat) (hr : Nat → Nat → Nat → Nat) (q0 b0 W step : Nat) (R : Nat → Nat → Int) (L : Int) : Prop := (∀ m, m < W → ∀ b, b ≤ 10 → ∀ q, vd q → R m ((step + b) % 11 * 120 + q) = 1000000 ∨ ∃ d : Nat, R m ((step + b) % 11 * 120 + q) = (d : Int) ∧ Pth ok tg ln pc hr q0 b0 step q b m d) ∧ ∀ q b m d, Pth ok tg ln pc hr q0 b0 step q b m d → (d : Int) ≤ L → m < W ∧ R m ((step + b) % 11 * 120 + q) ≤ (d : Int)
/-- while a step is visited: pr m q: that one is done -/
def RJ (vd : Nat → Prop) (ok : Nat → Nat → Prop) (tg ln pc : Nat → Nat → Nat) (hr : Nat → Nat → Nat → Nat) (q0 b0 W step : Nat) (R0 : Nat → Nat → Int) (L0 : Int) (pr : Nat → Nat → Prop) (R : Nat → Nat → Int) (L : Int) : Prop := L ≤ L0 ∧ (∀ m, m < W → ∀ q, vd q → (pr m q → R m (step % 11 * 120 + q) = 1000000) ∧ (¬ pr m q → R m (step % 11 * 120 + q) = R0 m (step % 11 * 120 + q))) ∧ (∀ m, m < W → ∀ b, b < 10 → ∀ q, vd q → R m ((step + 1 + b) % 11 * 120 + q) = 1000000 ∨ ∃ d : Nat, R m ((step + 1 + b) % 11 * 120 + q) = (d : Int) ∧ Pth ok tg ln pc hr q0 b0 (step + 1) q b m d) ∧ (∀ m, m < W → ∀ b, b < 10 → ∀ q, vd q → R m ((step + 1 + b) % 11 * 120 + q) ≤ R0 m ((step + 1 + b) % 11 * 120 + q)) ∧ (∀ m, m < W → ∀ q, vd q → pr m q → ∀ d : Nat, R0 m (step % 11 * 120 + q) = (d : Int) → (d : Int) ≤ L → hr step q m < W ∧ ∀ x, x < 3 → ok x q → ((d + pc x q : Nat) : Int) ≤ L → R (hr step q m) ((step + ln x q) % 11 * 120 + tg x q) ≤ ((d + pc x q : Nat) : Int))
section STEP
variable {vd : Nat → Prop} {ok : Nat → Nat → Prop} {tg ln pc : Nat → Nat → Nat} {hr : Nat → Nat → Nat → Nat} {q0 b0 W step : Nat} {R0 R : Nat → Nat → Int} {L0 L : Int}
/-- at first nothing is done -/
theorem rj_0 (hb : ∀ q b m d, Pth ok tg ln pc hr q0 b0 step q b m d → b ≤ 10) (h : RI vd ok tg ln pc hr q0 b0 W step R0 L0) : RJ vd ok tg ln pc hr q0 b0 W step R0 L0 (fun _ _ => False) R0 L0 := by
  refine ⟨Int.le_refl _, fun m hm q hq => ⟨fun z => z.elim, fun _ => rfl⟩, fun m hm b hb' q hq => ?_, fun m hm b hb' q hq => Int.le_refl _, fun m hm q hq z => z.elim⟩
  have := h.1 m hm (b + 1) (by omega) q hq
  rw [show step + 1 + b = step + (b + 1) by omega]
  rcases this with z | ⟨d, z1, z2⟩
  · exact Or.inl z
  · exact Or.inr ⟨d, z1, P_s.mpr ⟨q, b + 1, m, d, z2, Or.inl ⟨by omega, rfl, rfl, rfl, rfl⟩⟩⟩
/-- in the end all is done, and the next step's ring is there -/
theorem rj_end (hc : Cht vd ok tg ln pc) (hv : vd q0) (hb0 : b0 ≤ 10) (h : RI vd ok tg ln pc hr q0 b0 W step R0 L0) (hW : ∀ t q m, m ≤ W → hr t q m ≤ W) (j : RJ vd ok tg ln pc hr q0 b0 W step R0 L0 (fun _ _ => True) R L) (hL : L < 1000000) : RI vd ok tg ln pc hr q0 b0 W (step + 1) R L := by
  obtain ⟨j0, j1, j2, j3, j4⟩ := j
  constructor
  · intro m hm b hb q hq
    by_cases g : b < 10
    · exact j2 m hm b g q hq
    · obtain rfl : b = 10 := by omega
      left
      rw [show (step + 1 + 10) % 11 = step % 11 by omega]
      exact (j1 m hm q hq).1 trivial
  · intro q' b' m' d' hp hd
    obtain ⟨q, b, m, d, h1, h2⟩ := P_s.mp hp
    obtain ⟨v1, v2, v3⟩ := P_v hc hv hb0 _ _ _ _ _ h1
    rcases h2 with ⟨g1, rfl, g3, rfl, rfl⟩ | ⟨rfl, x, g2, g3, rfl, g5, rfl, rfl⟩
    · obtain ⟨k1, k2⟩ := h.2 _ _ _ _ h1 (by omega)
      refine ⟨k1, Int.le_trans (j3 m' k1 b' (by omega) q' v1) ?_⟩
      rw [show step + 1 + b' = step + b by omega]
      exact k2
    · have hdL : ((d : Nat) : Int) ≤ L := by omega
      obtain ⟨k1, k2⟩ := h.2 _ _ _ _ h1 (by omega)
      rw [Nat.add_zero] at k2
      obtain ⟨c1, c2, c3⟩ := hc q v1
      obtain ⟨y1, y2, y3, y4⟩ := c3 x g2 g3
      have s0 := h.1 m k1 0 (by omega) q v1
      rw [Nat.add_zero] at s0
      rcases s0 with z | ⟨d0, z1, z2⟩
      · rw [z] at k2; omega
      · rw [z1] at k2
        obtain ⟨w1, w2⟩ := j4 m k1 q v1 trivial d0 z1 (by omega)
        refine ⟨w1, ?_⟩
        have := w2 x g2 g3 (by omega)
        rw [show step + 1 + b' = step + ln x q by omega]
        omega
/-- nothing is found there -/
theorem rj_far {pr : Nat → Nat → Prop} {m q : Nat} (j : RJ vd ok tg ln pc hr q0 b0 W step R0 L0 pr R L) (hm : m < W) (hq : vd q) (hL : L < 1000000) (hR : R m (step % 11 * 120 + q) = 1000000) : RJ vd ok tg ln pc hr q0 b0 W step R0 L0 (fun m' q' => pr m' q' ∨ (m' = m ∧ q' = q)) R L := by
  obtain ⟨j0, j1, j2, j3, j4⟩ := j
  refine ⟨j0, fun m' hm' q' hq' => ⟨fun z => ?_, fun z => (j1 m' hm' q' hq').2 (fun y => z (Or.inl y))⟩, j2, j3, fun m' hm' q' hq' z => ?_⟩
  · rcases z with z | ⟨rfl, rfl⟩
    · exact (j1 m' hm' q' hq').1 z
    · exact hR
  · by_cases y : pr m' q'
    · exact j4 m' hm' q' hq' y
    · rcases z with z | ⟨rfl, rfl⟩
      · exact absurd z y
      · intro d hd
        have := (j1 m' hm' q' hq').2 y
        rw [hR] at this
        rw [← this] at hd
        intro hdL
        omega
/-- one is taken away and comes to nothing: too dear, or all are met -/
theorem rj_clear {pr : Nat → Nat → Prop} {m q d : Nat} {R' : Nat → Nat → Int} {L' : Int} (j : RJ vd ok tg ln pc hr q0 b0 W step R0 L0 pr R L) (hm : m < W) (hq : vd q) (hpr : ¬ pr m q) (hR : R m (step % 11 * 120 + q) = (d : Int)) (hL : L' ≤ L) (hd : L' < (d : Int)) (e1 : R' m (step % 11 * 120 + q) = 1000000) (e2 : ∀ m' k, ¬ (m' = m ∧ k = step % 11 * 120 + q) → R' m' k = R m' k) (hc : Cht vd ok tg ln pc) : RJ vd ok tg ln pc hr q0 b0 W step R0 L0 (fun m' q' => pr m' q' ∨ (m' = m ∧ q' = q)) R' L' := by
  obtain ⟨j0, j1, j2, j3, j4⟩ := j
  have q120 := (hc q hq).1
  have fut : ∀ m' b q', b < 10 → vd q' → R' m' ((step + 1 + b) % 11 * 120 + q') = R m' ((step + 1 + b) % 11 * 120 + q') := fun m' b q' hb hq' => e2 _ _ (by have := (hc q' hq').1; omega)
  refine ⟨by omega, fun m' hm' q' hq' => ⟨fun z => ?_, fun z => ?_⟩, fun m' hm' b hb q' hq' => ?_, fun m' hm' b hb q' hq' => ?_, fun m' hm' q' hq' z d' hd' hdL => ?_⟩
  · by_cases y : m' = m ∧ q' = q
    · rw [y.1, y.2]; exact e1
    · rw [e2 _ _ (by have := (hc q' hq').1; omega)]
      exact (j1 m' hm' q' hq').1 (z.resolve_right y)
  · rw [e2 _ _ (by have := (hc q' hq').1; have : ¬ (m' = m ∧ q' = q) := fun y => z (Or.inr y); omega)]
    exact (j1 m' hm' q' hq').2 (fun y => z (Or.inl y))
  · rw [fut m' b q' hb hq']; exact j2 m' hm' b hb q' hq'
  · rw [fut m' b q' hb hq']; exact j3 m' hm' b hb q' hq'
  · by_cases y : m' = m ∧ q' = q
    · obtain ⟨rfl, rfl⟩ := y
      have := (j1 m' hm' q' hq').2 hpr
      rw [hR] at this
      omega
    · obtain ⟨w1, w2⟩ := j4 m' hm' q' hq' (z.resolve_right y) d' hd' (by omega)
      refine ⟨w1, fun x hx hok hx2 => ?_⟩
      obtain ⟨c1, c2, c3⟩ := hc q' hq'
      obtain ⟨y1, y2, y3, y4⟩ := c3 x hx hok
      have := fut (hr step q' m') (ln x q' - 1) (tg x q') (by omega) y1
      rw [show step + 1 + (ln x q' - 1) = step + ln x q' by omega] at this
      rw [this]
      exact w2 x hx hok (by omega)
/-- one is taken away and goes on -/
theorem rj_go {pr : Nat → Nat → Prop} {m q d : Nat} {R' : Nat → Nat → Int} (j : RJ vd ok tg ln pc hr q0 b0 W step R0 L0 pr R L) (hm : m < W) (hq : vd q) (hpr : ¬ pr m q) (hR : R m (step % 11 * 120 + q) = (d : Int)) (hP : Pth ok tg ln pc hr q0 b0 step q 0 m d) (hn : hr step q m < W) (e1 : R' m (step % 11 * 120 + q) = 1000000) (e2 : ∀ m' q', vd q' → ¬ (m' = m ∧ q' = q) → R' m' (step % 11 * 120 + q') = R m' (step % 11 * 120 + q')) (e3 : ∀ m' b q', b < 10 → vd q' → R' m' ((step + 1 + b) % 11 * 120 + q') ≤ R m' ((step + 1 + b) % 11 * 120 + q')) (e4 : ∀ m' b q', b < 10 → vd q' → R' m' ((step + 1 + b) % 11 * 120 + q') = R m' ((step + 1 + b) % 11 * 120 + q') ∨ (m' = hr step q m ∧ ∃ x, x < 3 ∧ ok x q ∧ b + 1 = ln x q ∧ q' = tg x q ∧ R' m' ((step + 1 + b) % 11 * 120 + q') = ((d + pc x q : Nat) : Int))) (e5 : ∀ x, x < 3 → ok x q → ((d + pc x q : Nat) : Int) ≤ L → R' (hr step q m) ((step + ln x q) % 11 * 120 + tg x q) ≤ ((d + pc x q : Nat) : Int)) (hc : Cht vd ok tg ln pc) : RJ vd ok tg ln pc hr q0 b0 W step R0 L0 (fun m' q' => pr m' q' ∨ (m' = m ∧ q' = q)) R' L := by
  obtain ⟨j0, j1, j2, j3, j4⟩ := j
  refine ⟨j0, fun m' hm' q' hq' => ⟨fun z => ?_, fun z => ?_⟩, fun m' hm' b hb q' hq' => ?_, fun m' hm' b hb q' hq' => ?_, fun m' hm' q' hq' z d' hd' hdL => ?_⟩
  · by_cases y : m' = m ∧ q' = q
    · rw [y.1, y.2]; exact e1
    · rw [e2 _ _ hq' y]
      exact (j1 m' hm' q' hq').1 (z.resolve_right y)
  · rw [e2 _ _ hq' (fun y => z (Or.inr y))]
    exact (j1 m' hm' q' hq').2 (fun y => z (Or.inl y))
  · rcases e4 m' b q' hb hq' with z | ⟨rfl, x, x1, x2, x3, rfl, x5⟩
    · rw [z]; exact j2 m' hm' b hb q' hq'
    · right
      exact ⟨_, x5, P_s.mpr ⟨q, 0, m, d, hP, Or.inr ⟨rfl, x, x1, x2, rfl, x3, rfl, rfl⟩⟩⟩
  · exact Int.le_trans (e3 m' b q' hb hq') (j3 m' hm' b hb q' hq')
  · by_cases y : m' = m ∧ q' = q
    · obtain ⟨rfl, rfl⟩ := y
      have := (j1 m' hm' q' hq').2 hpr
      rw [hR, hd'] at this
      obtain rfl : d = d' := by omega
      exact ⟨hn, fun x hx hok hx2 => e5 x hx hok hx2⟩
    · obtain ⟨w1, w2⟩ := j4 m' hm' q' hq' (z.resolve_right y) d' hd' hdL
      refine ⟨w1, fun x hx hok hx2 => ?_⟩
      obtain ⟨c1, c2, c3⟩ := hc q' hq'
      obtain ⟨y1, y2, y3, y4⟩ := c3 x hx hok
      have := e3 (hr step q' m') (ln x q' - 1) (tg x q') (by omega) y1
      rw [show step + 1 + (ln x q' - 1) = step + ln x q' by omega] at this
      exact Int.le_trans this (w2 x hx hok hx2)
end STEP
end K50
