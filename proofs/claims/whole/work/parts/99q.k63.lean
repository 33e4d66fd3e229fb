/-! ===== the model goes on by a step: one state ===== -/
section K63
section MV
variable {n : Int} {T C : Nat → Int} {K : Int} {c r : Nat}
theorem fP_b {x : Int} (h : 1 ≤ x ∧ x ≤ 9) : 1 ≤ fP K x ∧ fP K x ≤ 9 := by
  unfold fP
  by_cases z : K = 1 ∨ K = 5
  · rw [if_pos z]; omega
  · rw [if_neg z]; omega
theorem mv_0 (hT : Tok T) (hc : c < 6) (hr : (r : Int) < T c) : ctg T 0 (c * 20 + r) = c * 20 + (((r : Int) + 1) % T c).toNat ∧ cln T 0 (c * 20 + r) = 1 ∧ cpc n C K 0 (c * 20 + r) = 0 := by
  have tc := hT c hc
  have q1 : (c * 20 + r) / 20 = c := by omega
  have q2 : (c * 20 + r) % 20 = r := by omega
  have m0 := Int.emod_nonneg ((r : Int) + 1) (show T c ≠ 0 by omega)
  refine ⟨?_, rfl, rfl⟩
  unfold ctg ctI
  rw [if_pos rfl, q1, q2]
  omega
theorem mv_1 (hn : n ≤ 6) (hT : Tok T) (hC : ∀ j, j < 5 → 1 ≤ C j ∧ C j ≤ 9) (hc : (c : Int) < n - 1) (hr : (r : Int) < T c) : ctg T 1 (c * 20 + r) = (c + 1) * 20 + (fL r (T c) (T (c + 1))).toNat ∧ cln T 1 (c * 20 + r) = (T c / 2).toNat ∧ cpc n C K 1 (c * 20 + r) = (fP K (C c)).toNat := by
  have tc := hT c (by omega)
  have tn := hT (c + 1) (by omega)
  have q1 : (c * 20 + r) / 20 = c := by omega
  have q2 : (c * 20 + r) % 20 = r := by omega
  have nx : nxt (c : Int) ((1 : Nat) : Int) = ((c + 1 : Nat) : Int) := by unfold nxt; rw [if_pos (show ((1 : Nat) : Int) = 1 from rfl)]; omega
  have lo : low (c : Int) ((1 : Nat) : Int) = (c : Int) := by unfold low; rw [if_pos (show ((1 : Nat) : Int) = 1 from rfl)]
  have f := fL_ok (p := (r : Int)) (a := T c) tn.1
  refine ⟨?_, ?_, ?_⟩
  · unfold ctg ctI
    rw [if_neg (by omega), q1, q2, nx, Int.toNat_natCast]
    omega
  · unfold cln clI
    rw [if_neg (by omega), q1]
  · unfold cpc cpI prF
    rw [if_neg (by omega), q1, lo, if_pos (by omega), Int.toNat_natCast]
theorem mv_2 (hn : n ≤ 6) (hT : Tok T) (hC : ∀ j, j < 5 → 1 ≤ C j ∧ C j ≤ 9) (h0 : 0 < c) (hc : (c : Int) < n) (hr : (r : Int) < T c) : ctg T 2 (c * 20 + r) = (c - 1) * 20 + (fL r (T c) (T (c - 1))).toNat ∧ cln T 2 (c * 20 + r) = (T c / 2).toNat ∧ cpc n C K 2 (c * 20 + r) = (fP K (C (c - 1))).toNat := by
  have tc := hT c (by omega)
  have tn := hT (c - 1) (by omega)
  have q1 : (c * 20 + r) / 20 = c := by omega
  have q2 : (c * 20 + r) % 20 = r := by omega
  have nx : nxt (c : Int) ((2 : Nat) : Int) = ((c - 1 : Nat) : Int) := by unfold nxt; rw [if_neg (by omega)]; omega
  have lo : low (c : Int) ((2 : Nat) : Int) = ((c - 1 : Nat) : Int) := by unfold low; rw [if_neg (by omega)]; omega
  have f := fL_ok (p := (r : Int)) (a := T c) tn.1
  refine ⟨?_, ?_, ?_⟩
  · unfold ctg ctI
    rw [if_neg (by omega), q1, q2, nx, Int.toNat_natCast]
    omega
  · unfold cln clI
    rw [if_neg (by omega), q1]
  · unfold cpc cpI prF
    rw [if_neg (by omega), q1, lo, if_pos (by omega), Int.toNat_natCast]
theorem ok_1 (hn : n ≤ 6) (hC : ∀ j, j < 5 → 1 ≤ C j ∧ C j ≤ 9) (hr : r < 20) : cok n C K 1 (c * 20 + r) ↔ (K = 0 ∨ K = 1 ∨ K = 5) ∧ (c : Int) < n - 1 := by
  have q1 : (c * 20 + r) / 20 = c := by omega
  have lo : low (c : Int) ((1 : Nat) : Int) = (c : Int) := by unfold low; rw [if_pos (show ((1 : Nat) : Int) = 1 from rfl)]
  unfold cok
  rw [q1, lo]
  constructor
  · rintro (z | ⟨_, z1, z2⟩)
    · omega
    · exact ⟨z1, (prF_b hn hC z2).1.2⟩
  · rintro ⟨z1, z2⟩
    refine Or.inr ⟨Or.inl rfl, z1, ?_⟩
    unfold prF
    rw [if_pos (by omega), Int.toNat_natCast]
    have := fP_b (K := K) (hC c (by omega))
    omega
theorem ok_2 (hn : n ≤ 6) (hC : ∀ j, j < 5 → 1 ≤ C j ∧ C j ≤ 9) (hr : r < 20) (hc : (c : Int) < n) : cok n C K 2 (c * 20 + r) ↔ (K = 0 ∨ K = 1 ∨ K = 5) ∧ 0 < c := by
  have q1 : (c * 20 + r) / 20 = c := by omega
  have lo : low (c : Int) ((2 : Nat) : Int) = (c : Int) - 1 := by unfold low; rw [if_neg (by omega)]
  unfold cok
  rw [q1, lo]
  constructor
  · rintro (z | ⟨_, z1, z2⟩)
    · omega
    · exact ⟨z1, by have := (prF_b hn hC z2).1; omega⟩
  · rintro ⟨z1, z2⟩
    refine Or.inr ⟨Or.inr rfl, z1, ?_⟩
    unfold prF
    rw [if_pos (by omega)]
    have := fP_b (K := K) (hC ((c : Int) - 1).toNat (by omega))
    omega
end MV
section BD
variable {ω0 : am_W} {n : Int} {T C : Nat → Int} {K : Int} {i : Nat}
/-- one of the codes is tried -/
def Tri (ω1 : am_W) (n : Int) (T C : Nat → Int) (K : Int) (x q m d : Nat) : Prop := cok n C K x q → am_get ω1 69 (stI (ctg T x q) (cln T x q - 1) m) ≤ ((d + cpc n C K x q : Nat) : Int)
theorem Tri.le {ω1 ω2 : am_W} {x q m d : Nat} (h : Tri ω1 n T C K x q m d) (e : ∀ k, am_get ω2 69 k ≤ am_get ω1 69 k) : Tri ω2 n T C K x q m d := fun z => Int.le_trans (e _) (h z)
theorem mp_c (h : MP ω0 i n T C K) : Cht (cvd n T) (cok n C K) (ctg T) (cln T) (cpc n C K) := cht_ok h.1.2 h.2.1 h.2.2.1
/-- one code goes to be kept -/
theorem m_try (h0 : Bs ω0) (mp : MP ω0 i n T C K) {ω1 : am_W} (f : F9 ω0 ω1) {q m d D x c' r' b' : Nat} (hq : cvd n T q) (hx : x < 3) (hok : cok n C K x q) (hm : m < 8) (hA : am_get ω0 68 (stI q 0 m) = (d : Int)) (hd : d ≤ 1000) (G : GI (cvd n T) (cok n C K) (ctg T) (cln T) (cpc n C K) ω0 ω1 D) (e1 : ctg T x q = c' * 20 + r') (hr' : r' < 20) (e2 : cln T x q = b' + 1) : ∃ ω2, am_run (202, 0) 0 ([some (.inr (.inr 53)), some (.inl ((c' : Int))), some (.inl ((r' : Int))), some (.inl ((b' : Int))), some (.inl ((m : Int))), some (.inl (((d + cpc n C K x q : Nat) : Int))), none], [], ω1) = some (none, ω2) ∧ F9 ω0 ω2 ∧ GI (cvd n T) (cok n C K) (ctg T) (cln T) (cpc n C K) ω0 ω2 D ∧ Tri ω2 n T C K x q m d ∧ ∀ k, am_get ω2 69 k ≤ am_get ω1 69 k := by
  have hc := mp_c mp
  obtain ⟨y1, y2, y3, y4⟩ := (hc q hq).2.2 x hx hok
  have q1 := (hc _ y1).1
  have B1 := h0.dc f.1
  have sp : Sp1 (cok n C K) (ctg T) (cln T) (cpc n C K) q 0 (c' * 20 + r') b' (cpc n C K x q) := Or.inr ⟨rfl, x, hx, hok, e1.symm, e2.symm, rfl⟩
  obtain ⟨g1, g2, g3⟩ := gi_bt hc G hq (by omega) hm hA (by omega) sp
  refine ⟨_, m_better B1 (by omega) hr' (by omega) hm, f.tr (bt_9 B1), g1, fun _ => ?_, g3⟩
  rw [e1, e2, Nat.add_sub_cancel]
  exact g2
end BD
end K63
