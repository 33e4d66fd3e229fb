/-! ===== the fewest drops, the first step ===== -/
section K60
variable {ω : am_W} {p : Nat}
/-- those that are met at a step and a spot -/
noncomputable def hrF (T : Nat → Int) (V : Nat → Nat → Int) (mem : Nat → Nat) (M : Nat) (t q m : Nat) : Nat := orN (fun k => spF T (V (mem k)) (t : Int) = (q : Int)) M m
theorem hrF_w {T : Nat → Int} {V : Nat → Nat → Int} {mem : Nat → Nat} {M : Nat} : ∀ t q m, m ≤ wh M → hrF T V mem M t q m ≤ wh M := fun _ _ _ h => orN_w h
/-- the planner is ready -/
def Rd (ω : am_W) (p i : Nat) (n : Int) (T C : Nat → Int) (K : Int) (V : Nat → Nat → Int) (M : Nat) (mem : Nat → Nat) : Prop := Inv ω ∧ Pls ω p ∧ i < 6 ∧ Par ω i n T C K ∧ (∀ j, j < 6 → cV ω 1 j = V j) ∧ Chw ω p (cvd n T) (cok n C K) (ctg T) (cln T) (cpc n C K) ∧ am_get ω p 10 = (M : Int) ∧ M ≤ 3 ∧ am_get ω p 11 = (wh M : Int) ∧ ∀ k, k < M → am_get ω (p + 23) k = (mem k : Int) ∧ (mem k : Int) < am_get ω 1 3
section BB
variable {i : Nat} {n : Int} {T C : Nat → Int} {K : Int} {V : Nat → Nat → Int} {M : Nat} {mem : Nat → Nat} {q0 b0 s : Nat} {L : Int}
theorem Rd.cht (h : Rd ω p i n T C K V M mem) : Cht (cvd n T) (cok n C K) (ctg T) (cln T) (cpc n C K) := by
  obtain ⟨o1, o2, o3⟩ := osk h.1
  obtain ⟨e1, e2, e3, _⟩ := h.2.2.2.1
  rw [e1] at o1
  rw [e2] at o2
  rw [e3] at o3
  exact cht_ok o1.2 o2 o3
theorem Rd.fw {ω' : am_W} (h : Rd ω p i n T C K V M mem) (f : FrW p ω ω') : Rd ω' p i n T C K V M mem := by
  obtain ⟨r1, r2, r3, r4, r5, r6, r7, r8, r9, r10⟩ := h
  have p72 := r2.1
  have lo := (f.f72 p72).2
  refine ⟨f.inv r1 p72, r2.dc f.1, r3, r4.kp r3 lo, fun j hj => (funext fun k => lo _ _ (by omega)).trans (r5 j hj), r6.kp (fun a k z => f.2 a k (by omega) (by omega) (by omega)), (f.2 _ _ (by omega) (by omega) (by omega)).trans r7, r8, (f.2 _ _ (by omega) (by omega) (by omega)).trans r9, fun k hk => ⟨(f.2 _ _ (by omega) (by omega) (by omega)).trans (r10 k hk).1, ?_⟩⟩
  rw [lo 1 3 (by omega)]
  exact (r10 k hk).2
abbrev WinF (n : Int) (T C : Nat → Int) (K : Int) (V : Nat → Nat → Int) (mem : Nat → Nat) (M q0 b0 t d : Nat) : Prop := Win (cok n C K) (ctg T) (cln T) (cpc n C K) (hrF T V mem M) q0 b0 (wh M) t d
/-- what has been found before step s, of what costs no more than L -/
def BI (ω : am_W) (p : Nat) (n : Int) (T C : Nat → Int) (K : Int) (V : Nat → Nat → Int) (mem : Nat → Nat) (M q0 b0 : Nat) (L : Int) (s : Nat) : Prop := am_get ω p 12 ≤ L ∧ (∀ t, t < s → ∀ d : Nat, WinF n T C K V mem M q0 b0 t d → (d : Int) ≤ am_get ω p 12 → False) ∧ ((am_get ω p 12 = L ∧ am_get ω p 13 = -1 ∧ am_get ω p 14 = -1) ∨ ∃ f g : Nat, am_get ω p 13 = (f : Int) ∧ am_get ω p 12 = (f : Int) - 1 ∧ (f : Int) ≤ L ∧ (∃ t, t < s ∧ WinF n T C K V mem M q0 b0 t f) ∧ am_get ω p 14 = (g : Int) ∧ g < s ∧ (∃ d : Nat, (d : Int) ≤ L ∧ WinF n T C K V mem M q0 b0 g d) ∧ ∀ t, t < g → ∀ d : Nat, WinF n T C K V mem M q0 b0 t d → (d : Int) ≤ L → False)
theorem c_vis (R : Rd ω p i n T C K V M mem) (hv : cvd n T q0) (hb0 : b0 ≤ 10) (hs : s ≤ 60) (hL : L < 1000000) (ri : RI (cvd n T) (cok n C K) (ctg T) (cln T) (cpc n C K) (hrF T V mem M) q0 b0 (wh M) s (fun m k => am_get ω (p + 15 + m) k) (am_get ω p 12)) (B : BI ω p n T C K V mem M q0 b0 L s) : ∃ ω2, am_run (13, 0) 0 ([some (.inr (.inr ((p : Int)))), some (.inl ((s : Int))), none, none, none, none, none], [], ω) = some (none, ω2) ∧ F72 ω ω2 ∧ Rd ω2 p i n T C K V M mem ∧ RI (cvd n T) (cok n C K) (ctg T) (cln T) (cpc n C K) (hrF T V mem M) q0 b0 (wh M) (s + 1) (fun m k => am_get ω2 (p + 15 + m) k) (am_get ω2 p 12) ∧ BI ω2 p n T C K V mem M q0 b0 L (s + 1) := by
  have hc := R.cht
  obtain ⟨r1, r2, r3, r4, r5, r6, r7, r8, r9, r10⟩ := id R
  obtain ⟨b1, b2, b3⟩ := B
  have m6 : ∀ k, k < M → mem k < 6 := fun k hk => by
    have := (r10 k hk).2
    have := r1.2.2.1.2.1.2
    have e : ω.2.1 1 3 = am_get ω 1 3 := rfl
    omega
  have hhr : ∀ q m, hrF T V mem M s q m = orN (fun k => mS ω mem s k = (q : Int)) M m := by
    intro q m
    have : ∀ k, k ≤ M → orN (fun k => spF T (V (mem k)) (s : Int) = (q : Int)) k m = orN (fun k => mS ω mem s k = (q : Int)) k m := by
      intro k
      induction k with
      | zero => intro _; rfl
      | succ k ih =>
        intro hk
        have e := ih (by omega)
        have e2 : mS ω mem s k = spF T (V (mem k)) (s : Int) := by
          unfold mS
          rw [r4.2.1, r5 _ (m6 k (by omega))]
        by_cases g : spF T (V (mem k)) (s : Int) = (q : Int)
        · rw [orN_y g, orN_y (Q := fun k => mS ω mem s k = (q : Int)) (e2.trans g), e]
        · rw [orN_n g, orN_n (Q := fun k => mS ω mem s k = (q : Int)) (fun z => g (e2.symm.trans z)), e]
    exact this M (Nat.le_refl _)
  obtain ⟨ω2, v1, v2, v3, v4, v5, v6⟩ := c_visit r1 r2 r6 hc hv hb0 hs r7 r8 r9 (wh_7 r8).2 mem r10 hhr hrF_w (Int.lt_of_le_of_lt b1 hL) ri
  refine ⟨ω2, v1, v2.f72 r2.1, R.fw v2, v3, Int.le_trans v5 b1, fun t ht d w hd => ?_, ?_⟩
  · by_cases z : t = s
    · subst z; exact v6 d w hd
    · exact b2 t (by omega) d w (Int.le_trans hd v5)
  · rcases v4 with ⟨x1, x2, x3⟩ | ⟨f, x1, x2, x3, x4, x5⟩
    · rw [x1, x2, x3]
      rcases b3 with y | ⟨f, g, y1, y2, y3, ⟨t, y4, y5⟩, y6, y7, y8, y9⟩
      · exact Or.inl y
      · exact Or.inr ⟨f, g, y1, y2, y3, ⟨t, Nat.lt_succ_of_lt y4, y5⟩, y6, Nat.lt_succ_of_lt y7, y8, y9⟩
    · right
      rcases b3 with ⟨y1, y2, y3⟩ | ⟨f', g, y1, y2, y3, _, y6, y7, y8, y9⟩
      · rw [if_pos y3] at x5
        rw [y1] at x3
        exact ⟨f, s, x1, x2, x3, ⟨s, Nat.lt_succ_self s, x4⟩, x5, Nat.lt_succ_self s, ⟨f, x3, x4⟩, fun t ht d w hd => b2 t ht d w (by rw [y1]; exact hd)⟩
      · rw [if_neg (by rw [y6]; omega)] at x5
        exact ⟨f, g, x1, x2, Int.le_trans x3 b1, ⟨s, Nat.lt_succ_self s, x4⟩, x5.trans y6, Nat.lt_succ_of_lt y7, y8, y9⟩
/-- at first -/
theorem ri_first (hv : cvd n T q0) (hq : q0 < 120) (hM : M ≤ 3) {R : Nat → Nat → Int} (hR : ∀ m, m < wh M → ∀ k, k < 1320 → R m k = if m = 0 ∧ k = b0 % 11 * 120 + q0 then 0 else 1000000) (hv2 : ∀ q, cvd n T q → q < 120) : RI (cvd n T) (cok n C K) (ctg T) (cln T) (cpc n C K) (hrF T V mem M) q0 b0 (wh M) b0 R L := by
  obtain ⟨w1, w7⟩ := wh_7 hM
  constructor
  · intro m hm b hb q hq'
    have q120 := hv2 q hq'
    rw [hR m hm _ (ix_lt q120)]
    by_cases z : m = 0 ∧ (b0 + b) % 11 * 120 + q = b0 % 11 * 120 + q0
    · rw [if_pos z]
      right
      refine ⟨0, rfl, (P_busy b0 (Nat.le_refl _) _ _ _ _).mpr ⟨by omega, by omega, z.1, rfl⟩⟩
    · rw [if_neg z]; exact Or.inl rfl
  · intro q b m d hp hd
    obtain ⟨e1, e2, e3, e4⟩ := (P_busy b0 (Nat.le_refl _) _ _ _ _).mp hp
    have eb : b = 0 := by omega
    subst e1 eb e3 e4
    refine ⟨by omega, ?_⟩
    rw [hR 0 (by omega) _ (ix_lt hq), if_pos ⟨rfl, rfl⟩]
    exact Int.le_refl _
theorem bi_first (e12 : am_get ω p 12 = L) (e13 : am_get ω p 13 = -1) (e14 : am_get ω p 14 = -1) : BI ω p n T C K V mem M q0 b0 L b0 := by
  refine ⟨by rw [e12]; exact Int.le_refl _, fun t ht d w _ => win_busy ht w, Or.inl ⟨e12, e13, e14⟩⟩
end BB
end K60
