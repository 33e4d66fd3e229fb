/-! ===== the model goes on by a step ===== -/
section K62
variable {ω : am_W}
def stI (q b m : Nat) : Nat := (q * 11 + b) * 8 + m
theorem stI_lt {q b m : Nat} (hq : q < 120) (hb : b ≤ 10) (hm : m < 8) : stI q b m < 10560 := by unfold stI; omega
theorem stI_inj {q b m q' b' m' : Nat} (hb : b ≤ 10) (hm : m < 8) (hb' : b' ≤ 10) (hm' : m' < 8) (e : stI q b m = stI q' b' m') : q = q' ∧ b = b' ∧ m = m' := by unfold stI at e; omega
theorem m_state {c r b m : Nat} (hc : c < 6) (hr : r < 20) (hb : b ≤ 10) (hm : m < 8) : am_run (200, 0) 0 ([some (.inl ((c : Int))), some (.inl ((r : Int))), some (.inl ((b : Int))), some (.inl ((m : Int)))], [], ω) = some (some (.inl (stI (c * 20 + r) b m : Int)), ω) := by
  rw [pX7_state_0, am_w_s (z := (c : Int) * 20) (by omega) (by omega), am_w_s (z := (c : Int) * 20 + (r : Int)) (by omega) (by omega), am_w_s (z := ((c : Int) * 20 + (r : Int)) * 11) (by omega) (by omega), am_w_s (z := ((c : Int) * 20 + (r : Int)) * 11 + (b : Int)) (by omega) (by omega), am_w_s (z := (((c : Int) * 20 + (r : Int)) * 11 + (b : Int)) * 8) (by omega) (by omega), am_w_s (by omega) (by omega)]
  unfold stI
  congr 3
/-- the better of two is kept -/
def btS (ω : am_W) (k : Nat) (v : Int) : am_W := if am_get ω 69 k ≤ v then ω else am_put ω 69 k v
theorem bt_o {k : Nat} {v : Int} {a k' : Nat} (h : ¬ (a = 69 ∧ k' = k)) : am_get (btS ω k v) a k' = am_get ω a k' := by
  unfold btS
  by_cases g : am_get ω 69 k ≤ v
  · rw [if_pos g]
  · rw [if_neg g]; exact if_neg h
theorem bt_v {k : Nat} {v : Int} : am_get (btS ω k v) 69 k ≤ v ∧ am_get (btS ω k v) 69 k ≤ am_get ω 69 k ∧ (am_get (btS ω k v) 69 k = v ∨ am_get (btS ω k v) 69 k = am_get ω 69 k) := by
  unfold btS
  by_cases g : am_get ω 69 k ≤ v
  · rw [if_pos g]; exact ⟨g, Int.le_refl _, Or.inr rfl⟩
  · rw [if_neg g, gp_same]; exact ⟨Int.le_refl _, by omega, Or.inl rfl⟩
def F9 (ω ω' : am_W) : Prop := Dc ω ω' ∧ ∀ a k, a ≠ 69 → am_get ω' a k = am_get ω a k
theorem F9.rf : F9 ω ω := ⟨Dc.rf ω, fun _ _ _ => rfl⟩
theorem F9.tr {ω1 ω2 : am_W} (h : F9 ω ω1) (g : F9 ω1 ω2) : F9 ω ω2 := ⟨h.1.tr g.1, fun a k z => (g.2 a k z).trans (h.2 a k z)⟩
theorem bt_9 (h : Bs ω) {k : Nat} {v : Int} : F9 ω (btS ω k v) := by
  refine ⟨?_, fun a k' z => bt_o (fun y => z y.1)⟩
  unfold btS
  by_cases g : am_get ω 69 k ≤ v
  · rw [if_pos g]; exact Dc.rf ω
  · rw [if_neg g]; exact Dc.put (am_rp_at (bs_sh h (a := 69) rfl))
theorem m_better (h : Bs ω) {c r b m : Nat} {v : Int} (hc : c < 6) (hr : r < 20) (hb : b ≤ 10) (hm : m < 8) : am_run (202, 0) 0 ([some (.inr (.inr 53)), some (.inl ((c : Int))), some (.inl ((r : Int))), some (.inl ((b : Int))), some (.inl ((m : Int))), some (.inl v), none], [], ω) = some (none, btS ω (stI (c * 20 + r) b m) v) := by
  have lt : ((stI (c * 20 + r) b m : Nat) : Int) < 10560 := Int.ofNat_lt.mpr (stI_lt (by omega) hb hm)
  have Q := pX7_better_0 53 c r b m v ω
  rw [bi_v (m_state hc hr hb hm)] at Q
  simp only [am_bi_s, am_bl_s, am_ba_s, am_bv_s, Int.toNat_zero, Int.reduceToNat, Int.toNat_natCast, if_true, if_false, not_true, not_false_eq_true, Int.reduceEq, Int.reduceLT, Int.reduceLE, i_53 h, f_53_26 h, n_69 h (Int.natCast_nonneg _) lt] at Q
  rw [Q]
  unfold btS
  by_cases g : am_get ω 69 (stI (c * 20 + r) b m) ≤ v
  · rw [if_pos g, if_pos g]
  · rw [if_neg g, if_neg g]
/-- a step of a ship -/
def Sp1 (ok : Nat → Nat → Prop) (tg ln pc : Nat → Nat → Nat) (q b q' b' e : Nat) : Prop := (0 < b ∧ q' = q ∧ b' + 1 = b ∧ e = 0) ∨ (b = 0 ∧ ∃ x, x < 3 ∧ ok x q ∧ q' = tg x q ∧ b' + 1 = ln x q ∧ e = pc x q)
section GG
variable (vd : Nat → Prop) (ok : Nat → Nat → Prop) (tg ln pc : Nat → Nat → Nat)
/-- what is next: sound, and complete for those below D -/
def GI (ω0 ω1 : am_W) (D : Nat) : Prop := (∀ q' b' m, q' < 120 → b' ≤ 10 → m < 8 → am_get ω1 69 (stI q' b' m) = 10000 ∨ ∃ q b e d : Nat, vd q ∧ b ≤ 10 ∧ am_get ω0 68 (stI q b m) = (d : Int) ∧ d ≠ 10000 ∧ Sp1 ok tg ln pc q b q' b' e ∧ am_get ω1 69 (stI q' b' m) = ((d + e : Nat) : Int)) ∧ ∀ q b m, vd q → b ≤ 10 → m < 8 → stI q b m < D → ∀ d : Nat, am_get ω0 68 (stI q b m) = (d : Int) → d ≠ 10000 → ∀ q' b' e, Sp1 ok tg ln pc q b q' b' e → am_get ω1 69 (stI q' b' m) ≤ ((d + e : Nat) : Int)
end GG
section GB
variable {vd : Nat → Prop} {ok : Nat → Nat → Prop} {tg ln pc : Nat → Nat → Nat} {ω0 ω1 : am_W} {D : Nat}
theorem Sp1_b (hc : Cht vd ok tg ln pc) {q b q' b' e : Nat} (hq : vd q) (hb : b ≤ 10) (s : Sp1 ok tg ln pc q b q' b' e) : vd q' ∧ b' ≤ 10 ∧ e ≤ 9 := by
  rcases s with ⟨s1, rfl, s3, rfl⟩ | ⟨_, x, x1, x2, rfl, x4, rfl⟩
  · exact ⟨hq, by omega, by omega⟩
  · obtain ⟨y1, y2, y3, y4⟩ := (hc q hq).2.2 x x1 x2
    exact ⟨y1, by omega, y4⟩
/-- one more is put there -/
theorem gi_bt (hc : Cht vd ok tg ln pc) (h : GI vd ok tg ln pc ω0 ω1 D) {q b m d q' b' e : Nat} (hq : vd q) (hb : b ≤ 10) (hm : m < 8) (hd : am_get ω0 68 (stI q b m) = (d : Int)) (hd' : d ≠ 10000) (s : Sp1 ok tg ln pc q b q' b' e) : GI vd ok tg ln pc ω0 (btS ω1 (stI q' b' m) ((d + e : Nat) : Int)) D ∧ am_get (btS ω1 (stI q' b' m) ((d + e : Nat) : Int)) 69 (stI q' b' m) ≤ ((d + e : Nat) : Int) ∧ ∀ k, am_get (btS ω1 (stI q' b' m) ((d + e : Nat) : Int)) 69 k ≤ am_get ω1 69 k := by
  obtain ⟨v1, v2, v3⟩ := Sp1_b hc hq hb s
  obtain ⟨t1, t2, t3⟩ := bt_v (ω := ω1) (k := stI q' b' m) (v := ((d + e : Nat) : Int))
  have le : ∀ k, am_get (btS ω1 (stI q' b' m) ((d + e : Nat) : Int)) 69 k ≤ am_get ω1 69 k := fun k => by
    by_cases z : k = stI q' b' m
    · rw [z]; exact t2
    · rw [bt_o (fun y => z y.2)]; exact Int.le_refl _
  refine ⟨⟨fun q2 b2 m2 hq2 hb2 hm2 => ?_, fun q2 b2 m2 hq2 hb2 hm2 hD d2 hd2 hd2' q3 b3 e3 s3 => Int.le_trans (le _) (h.2 q2 b2 m2 hq2 hb2 hm2 hD d2 hd2 hd2' q3 b3 e3 s3)⟩, t1, le⟩
  by_cases z : stI q2 b2 m2 = stI q' b' m
  · obtain ⟨rfl, rfl, rfl⟩ := stI_inj hb2 hm2 v2 hm z
    rcases t3 with y | y
    · exact Or.inr ⟨q, b, e, d, hq, hb, hd, hd', s, y⟩
    · rw [y]; exact h.1 _ _ _ hq2 hb2 hm2
  · rw [bt_o (fun y => z y.2)]
    exact h.1 _ _ _ hq2 hb2 hm2
theorem gi_up (h : GI vd ok tg ln pc ω0 ω1 D) {q b m : Nat} (hb : b ≤ 10) (hm : m < 8) (e : D = stI q b m) (n : ∀ d : Nat, am_get ω0 68 (stI q b m) = (d : Int) → d ≠ 10000 → ∀ q' b' e, Sp1 ok tg ln pc q b q' b' e → am_get ω1 69 (stI q' b' m) ≤ ((d + e : Nat) : Int)) : GI vd ok tg ln pc ω0 ω1 (D + 1) := by
  refine ⟨h.1, fun q2 b2 m2 hq2 hb2 hm2 hD => ?_⟩
  by_cases z : stI q2 b2 m2 = D
  · obtain ⟨rfl, rfl, rfl⟩ := stI_inj hb2 hm2 hb hm (z.trans e)
    exact n
  · exact h.2 q2 b2 m2 hq2 hb2 hm2 (by omega)
/-- the next ones: none of them is there -/
theorem gi_sk {E : Nat} (h : GI vd ok tg ln pc ω0 ω1 D) (n : ∀ q b m, vd q → b ≤ 10 → m < 8 → stI q b m < E → stI q b m < D) : GI vd ok tg ln pc ω0 ω1 E := ⟨h.1, fun q2 b2 m2 hq2 hb2 hm2 hD => h.2 q2 b2 m2 hq2 hb2 hm2 (n _ _ _ hq2 hb2 hm2 hD)⟩
end GB
/-- the model's sky -/
def MP (ω : am_W) (i : Nat) (n : Int) (T C : Nat → Int) (K : Int) : Prop := (2 ≤ n ∧ n ≤ 6) ∧ Tok T ∧ (∀ j, j < 5 → 1 ≤ C j ∧ C j ≤ 9) ∧ (0 ≤ K ∧ K ≤ 5) ∧ i < 6 ∧ mn ω = n ∧ (∀ j, j < 6 → mT ω j = T j) ∧ (∀ j, j < 5 → mC ω j = C j) ∧ mV ω i 0 = K
theorem MP.kp {ω' : am_W} {i : Nat} {n : Int} {T C : Nat → Int} {K : Int} (h : MP ω i n T C K) (e : ∀ a k, a < 67 → am_get ω' a k = am_get ω a k) : MP ω' i n T C K := by
  obtain ⟨h1, h2, h3, h4, h5, h6, h7, h8, h9⟩ := h
  exact ⟨h1, h2, h3, h4, h5, (e _ _ (by omega)).trans h6, fun j hj => (e _ _ (by omega)).trans (h7 j hj), fun j hj => (e _ _ (by omega)).trans (h8 j hj), (e _ _ (by omega)).trans h9⟩
end K62
