/-! ===== the fewest drops, the first step: the class ===== -/
section K61
variable {ω : am_W} {p : Nat}
/-- the members of a set -/
noncomputable def gN (set : Int) (N : Nat) : Nat := (gM (bitI set) N).length
noncomputable def gE (set : Int) (N k : Nat) : Nat := (gM (bitI set) N).getD k 0
def sQ (u : Nat → Int) : Nat := (u 1 * 20 + u 2).toNat
def sB (u : Nat → Int) : Nat := (u 4).toNat
/-- the wins of ship i of a sky -/
abbrev WinS (ω : am_W) (i : Nat) (mem : Nat → Nat) (M t d : Nat) : Prop := WinF (cn ω 1) (cT ω 1) (cC ω 1) (cV ω 1 i 0) (cV ω 1) mem M (sQ (cV ω 1 i)) (sB (cV ω 1 i)) t d
theorem ship_q (h : Inv ω) {i N : Nat} (hN : am_get ω 1 3 = (N : Int)) (hi : i < N) : i < 6 ∧ cvd (cn ω 1) (cT ω 1) (sQ (cV ω 1 i)) ∧ sQ (cV ω 1 i) < 120 ∧ sB (cV ω 1 i) ≤ 10 ∧ cV ω 1 i 4 = (sB (cV ω 1 i) : Int) ∧ cV ω 1 i 1 * 20 + cV ω 1 i 2 = (sQ (cV ω 1 i) : Int) ∧ (0 ≤ cV ω 1 i 1 ∧ cV ω 1 i 1 ≤ 6) ∧ (0 ≤ cV ω 1 i 3 ∧ cV ω 1 i 3 ≤ 99) := by
  have O := h.2.2.1
  have e : ω.2.1 1 3 = (N : Int) := hN
  have Oi := O.2.2.2.2.1 i (by rw [e]; omega)
  have ev : ω.2.1 (1 + 4 + i) = cV ω 1 i := by
    unfold cV
    rw [show ((1 : Int) + 4 + (i : Int)).toNat = 1 + 4 + i by omega]
    rfl
  rw [ev] at Oi
  obtain ⟨o0, o1, o2, o3, o4⟩ := Oi
  have eT : ω.2.1 (1 + 1) = cT ω 1 := rfl
  have en : ω.2.1 1 0 = cn ω 1 := rfl
  rw [eT] at o2
  rw [en] at o1
  obtain ⟨on, oT, oC⟩ := osk h
  have tt := oT (cV ω 1 i 1).toNat (by omega)
  have N6 := O.2.1.2
  unfold sQ sB
  have q1 : (cV ω 1 i 1 * 20 + cV ω 1 i 2).toNat / 20 = (cV ω 1 i 1).toNat := by omega
  have q2 : (cV ω 1 i 1 * 20 + cV ω 1 i 2).toNat % 20 = (cV ω 1 i 2).toNat := by omega
  refine ⟨by omega, ?_, by omega, by omega, by omega, by omega, by omega, o3⟩
  unfold cvd
  rw [q1, q2]
  exact ⟨by omega, by omega⟩
theorem c_ready (h : Inv ω) (hP : Pls ω p) {i N : Nat} (hN : am_get ω 1 3 = (N : Int)) (hi : i < N) (set most : Int) : ∃ ω', am_run (9, 0) 0 ([some (.inr (.inr ((p : Int)))), some (.inr (.inr (1 + 4 + (i : Int)))), some (.inl set), some (.inl most), none], [], ω) = some (none, ω') ∧ F72 ω ω' ∧ Rd ω' p i (cn ω 1) (cT ω 1) (cC ω 1) (cV ω 1 i 0) (cV ω 1) (gN set N) (gE set N) ∧ RI (cvd (cn ω 1) (cT ω 1)) (cok (cn ω 1) (cC ω 1) (cV ω 1 i 0)) (ctg (cT ω 1)) (cln (cT ω 1)) (cpc (cn ω 1) (cC ω 1) (cV ω 1 i 0)) (hrF (cT ω 1) (cV ω 1) (gE set N) (gN set N)) (sQ (cV ω 1 i)) (sB (cV ω 1 i)) (wh (gN set N)) (sB (cV ω 1 i)) (fun m k => am_get ω' (p + 15 + m) k) (am_get ω' p 12) ∧ BI ω' p (cn ω 1) (cT ω 1) (cC ω 1) (cV ω 1 i 0) (cV ω 1) (gE set N) (gN set N) (sQ (cV ω 1 i)) (sB (cV ω 1 i)) most (sB (cV ω 1 i)) := by
  obtain ⟨i6, s1, s2, s3, s4, s5, s6, s7⟩ := ship_q h hN hi
  have pa : Par ω i (cn ω 1) (cT ω 1) (cC ω 1) (cV ω 1 i 0) := ⟨rfl, rfl, rfl, rfl⟩
  obtain ⟨ω', r, f, cw, e10, e11, em, e12, e13, e14, er⟩ := c_prepare h hP i6 pa set most hN (b0 := sB (cV ω 1 i)) (q0 := sQ (cV ω 1 i)) s4 s3 s5 s2 s6
  have M3 : gN set N ≤ 3 := (gM_3 (bit := bitI set) N).1
  obtain ⟨on, oT, oC⟩ := osk h
  refine ⟨ω', r, f, ⟨f.inv h, hP.f72 f, i6, pa.kp i6 f.2, fun j hj => funext fun k => f.2 _ _ (by omega), cw, e10, M3, e11, fun k hk => ⟨em k hk, ?_⟩⟩, ri_first s1 s2 M3 er (fun q hq => by obtain ⟨z1, z2⟩ := hq; omega), bi_first e12 e13 e14⟩
  have : gE set N k ∈ gM (bitI set) N := by
    unfold gE
    rw [List.getD_eq_getElem?_getD, List.getElem?_eq_getElem hk]
    exact List.getElem_mem hk
  have := ((gM_3 (bit := bitI set) N).2 _ this).1
  rw [f.2 1 3 (by omega), hN]
  omega
/-- the least of the wins up to a step -/
def Lst (W : Nat → Nat → Prop) (last : Nat) (r : Int) : Prop := (r = -1 ∧ ∀ t, t ≤ last → ∀ d, ¬ W t d) ∨ ∃ f : Nat, r = (f : Int) ∧ (∃ t, t ≤ last ∧ W t f) ∧ ∀ t, t ≤ last → ∀ d, W t d → f ≤ d
theorem c_fewest (h : Inv ω) (hP : Pls ω p) {i N : Nat} (hN : am_get ω 1 3 = (N : Int)) (hi : i < N) (set : Int) {last : Nat} (hl : last ≤ 60) : ∃ (ω' : am_W) (r : Int), am_run (5, 0) 0 ([some (.inr (.inr ((p : Int)))), some (.inr (.inr (1 + 4 + (i : Int)))), some (.inl set), some (.inl ((last : Int))), none], [], ω) = some (some (.inl r), ω') ∧ F72 ω ω' ∧ Lst (WinS ω i (gE set N) (gN set N)) last r := by
  obtain ⟨i6, s1, s2, s3, s4, s5, s6, s7⟩ := ship_q h hN hi
  obtain ⟨ω1, r1, f1, R1, ri1, B1⟩ := c_ready h hP hN hi set 999999
  have hc := R1.cht
  have key : ∀ k s : Nat, s + k = last + 1 → ∀ ω2, F72 ω ω2 → Rd ω2 p i (cn ω 1) (cT ω 1) (cC ω 1) (cV ω 1 i 0) (cV ω 1) (gN set N) (gE set N) → RI (cvd (cn ω 1) (cT ω 1)) (cok (cn ω 1) (cC ω 1) (cV ω 1 i 0)) (ctg (cT ω 1)) (cln (cT ω 1)) (cpc (cn ω 1) (cC ω 1) (cV ω 1 i 0)) (hrF (cT ω 1) (cV ω 1) (gE set N) (gN set N)) (sQ (cV ω 1 i)) (sB (cV ω 1 i)) (wh (gN set N)) s (fun m k => am_get ω2 (p + 15 + m) k) (am_get ω2 p 12) → BI ω2 p (cn ω 1) (cT ω 1) (cC ω 1) (cV ω 1 i 0) (cV ω 1) (gE set N) (gN set N) (sQ (cV ω 1 i)) (sB (cV ω 1 i)) 999999 s → ∃ (ω' : am_W) (r : Int), am_run (5, 0) 14 ([some (.inr (.inr ((p : Int)))), some (.inr (.inr (1 + 4 + (i : Int)))), some (.inl set), some (.inl ((last : Int))), some (.inl ((s : Int)))], [], ω2) = some (some (.inl r), ω') ∧ F72 ω ω' ∧ Lst (WinS ω i (gE set N) (gN set N)) last r := by
    intro k
    induction k with
    | zero =>
      intro s hs ω2 f R ri B
      obtain rfl : s = last + 1 := by omega
      refine ⟨ω2, am_get ω2 p 13, ?_, f, ?_⟩
      · rw [pX1_fewestDrops_14 _ _ _ _ _ _ (pl_is R.2.1), Int.toNat_natCast, if_pos (by omega)]
      · obtain ⟨b1, b2, b3⟩ := B
        rcases b3 with ⟨y1, y2, y3⟩ | ⟨f', g, y1, y2, y3, ⟨t, y4, y5⟩, _⟩
        · refine Or.inl ⟨y2, fun t ht d w => b2 t (by omega) d w ?_⟩
          obtain ⟨q, m, w1, _⟩ := id w
          have := (P_v hc s1 s3 _ _ _ _ _ w1).2.2
          rw [y1]
          omega
        · refine Or.inr ⟨f', y1, ⟨t, by omega, y5⟩, fun t ht d w => ?_⟩
          have : ¬ (d : Int) ≤ am_get ω2 p 12 := b2 t (by omega) d w
          rw [y2] at this
          omega
    | succ k ih =>
      intro s hs ω2 f R ri B
      have Q := pX1_fewestDrops_14 (p : Int) (1 + 4 + (i : Int)) set last s ω2 (pl_is R.2.1)
      rw [if_neg (by omega), Int.toNat_natCast] at Q
      by_cases g : am_get ω2 p 12 < 0
      · rw [if_pos g] at Q
        refine ⟨ω2, _, Q, f, ?_⟩
        obtain ⟨b1, b2, b3⟩ := B
        rcases b3 with ⟨y1, y2, y3⟩ | ⟨f', g', y1, y2, y3, ⟨t, y4, y5⟩, _⟩
        · omega
        · exact Or.inr ⟨f', y1, ⟨t, by omega, y5⟩, fun t ht d w => by omega⟩
      · rw [if_neg g] at Q
        obtain ⟨ω3, r3, f3, R3, ri3, B3⟩ := c_vis R s1 s3 (by omega) (by omega) ri B
        rw [bv_v r3, am_w_s (by omega) (by omega), show (s : Int) + 1 = ((s + 1 : Nat) : Int) by omega] at Q
        obtain ⟨ω', r, q, rest⟩ := ih (s + 1) (by omega) ω3 (f.tr f3) R3 ri3 B3
        exact ⟨ω', r, Q.trans q, rest⟩
  have I1 := R1.1
  have Q := pX1_fewestDrops_0 (p : Int) (1 + 4 + (i : Int)) set last ω (pl_is hP)
  have e4 : am_get ω1 (1 + 4 + (i : Int)).toNat 4 = (sB (cV ω 1 i) : Int) := (f1.2 _ _ (by omega)).trans s4
  rw [bv_v r1, if_pos (is_V I1.1 (W := 1) (Or.inl rfl) i6), e4] at Q
  by_cases g : sB (cV ω 1 i) ≤ last + 1
  · obtain ⟨ω', r, q, rest⟩ := key (last + 1 - sB (cV ω 1 i)) (sB (cV ω 1 i)) (by omega) ω1 f1 R1 ri1 B1
    exact ⟨ω', r, Q.trans q, rest⟩
  · have Q2 := pX1_fewestDrops_14 (p : Int) (1 + 4 + (i : Int)) set last (sB (cV ω 1 i) : Int) ω1 (pl_is R1.2.1)
    rw [if_pos (by omega), Int.toNat_natCast] at Q2
    refine ⟨ω1, _, Q.trans Q2, f1, ?_⟩
    obtain ⟨b1, b2, b3⟩ := B1
    rcases b3 with ⟨y1, y2, y3⟩ | ⟨f', g, y1, y2, y3, ⟨t, y4, y5⟩, _⟩
    · exact Or.inl ⟨y2, fun t ht d w => win_busy (by omega) w⟩
    · exact (win_busy y4 y5).elim
/-- the first step of a win that costs no more than D -/
def Fst (W : Nat → Nat → Prop) (D : Int) (r : Int) : Prop := (r = -1 ∧ ∀ t, t ≤ 60 → ∀ d : Nat, W t d → (d : Int) ≤ D → False) ∨ ∃ g : Nat, r = (g : Int) ∧ g ≤ 60 ∧ (∃ d : Nat, (d : Int) ≤ D ∧ W g d) ∧ ∀ t, t < g → ∀ d : Nat, W t d → (d : Int) ≤ D → False
theorem c_first (h : Inv ω) (hP : Pls ω p) {i N : Nat} (hN : am_get ω 1 3 = (N : Int)) (hi : i < N) (set : Int) : ∃ (ω' : am_W) (r : Int), am_run (6, 0) 0 ([some (.inr (.inr ((p : Int)))), some (.inr (.inr (1 + 4 + (i : Int)))), some (.inl set), none], [], ω) = some (some (.inl r), ω') ∧ F72 ω ω' ∧ Rd ω' p i (cn ω 1) (cT ω 1) (cC ω 1) (cV ω 1 i 0) (cV ω 1) (gN set N) (gE set N) ∧ Fst (WinS ω i (gE set N) (gN set N)) (cV ω 1 i 3) r := by
  obtain ⟨i6, s1, s2, s3, s4, s5, s6, s7⟩ := ship_q h hN hi
  obtain ⟨ω1, r1, f1, R1, ri1, B1⟩ := c_ready h hP hN hi set (cV ω 1 i 3)
  have key : ∀ k s : Nat, s + k = 61 → ∀ ω2, F72 ω ω2 → Rd ω2 p i (cn ω 1) (cT ω 1) (cC ω 1) (cV ω 1 i 0) (cV ω 1) (gN set N) (gE set N) → RI (cvd (cn ω 1) (cT ω 1)) (cok (cn ω 1) (cC ω 1) (cV ω 1 i 0)) (ctg (cT ω 1)) (cln (cT ω 1)) (cpc (cn ω 1) (cC ω 1) (cV ω 1 i 0)) (hrF (cT ω 1) (cV ω 1) (gE set N) (gN set N)) (sQ (cV ω 1 i)) (sB (cV ω 1 i)) (wh (gN set N)) s (fun m k => am_get ω2 (p + 15 + m) k) (am_get ω2 p 12) → BI ω2 p (cn ω 1) (cT ω 1) (cC ω 1) (cV ω 1 i 0) (cV ω 1) (gE set N) (gN set N) (sQ (cV ω 1 i)) (sB (cV ω 1 i)) (cV ω 1 i 3) s → ∃ (ω' : am_W) (r : Int), am_run (6, 0) 15 ([some (.inr (.inr ((p : Int)))), some (.inr (.inr (1 + 4 + (i : Int)))), some (.inl set), some (.inl ((s : Int)))], [], ω2) = some (some (.inl r), ω') ∧ F72 ω ω' ∧ Rd ω' p i (cn ω 1) (cT ω 1) (cC ω 1) (cV ω 1 i 0) (cV ω 1) (gN set N) (gE set N) ∧ Fst (WinS ω i (gE set N) (gN set N)) (cV ω 1 i 3) r := by
    intro k
    induction k with
    | zero =>
      intro s hs ω2 f R ri B
      obtain rfl : s = 61 := by omega
      refine ⟨ω2, am_get ω2 p 14, ?_, f, R, ?_⟩
      · rw [pX1_firstStep_15 _ _ _ _ _ (pl_is R.2.1), Int.toNat_natCast, if_pos (by omega)]
      · obtain ⟨b1, b2, b3⟩ := B
        rcases b3 with ⟨y1, y2, y3⟩ | ⟨f', g, y1, y2, y3, _, y6, y7, y8, y9⟩
        · exact Or.inl ⟨y3, fun t ht d w hd => b2 t (by omega) d w (by rw [y1]; exact hd)⟩
        · exact Or.inr ⟨g, y6, by omega, y8, y9⟩
    | succ k ih =>
      intro s hs ω2 f R ri B
      have Q := pX1_firstStep_15 (p : Int) (1 + 4 + (i : Int)) set s ω2 (pl_is R.2.1)
      rw [if_neg (by omega), Int.toNat_natCast] at Q
      by_cases g : am_get ω2 p 14 = -1
      · rw [if_neg (fun z => z g)] at Q
        obtain ⟨ω3, r3, f3, R3, ri3, B3⟩ := c_vis R s1 s3 (by omega) (by omega) ri B
        rw [bv_v r3, am_w_s (by omega) (by omega), show (s : Int) + 1 = ((s + 1 : Nat) : Int) by omega] at Q
        obtain ⟨ω', r, q, rest⟩ := ih (s + 1) (by omega) ω3 (f.tr f3) R3 ri3 B3
        exact ⟨ω', r, Q.trans q, rest⟩
      · rw [if_pos g] at Q
        refine ⟨ω2, _, Q, f, R, ?_⟩
        obtain ⟨b1, b2, b3⟩ := B
        rcases b3 with ⟨y1, y2, y3⟩ | ⟨f', g', y1, y2, y3, _, y6, y7, y8, y9⟩
        · exact absurd y3 g
        · exact Or.inr ⟨g', y6, by omega, y8, y9⟩
  have Q := pX1_firstStep_0 (p : Int) (1 + 4 + (i : Int)) set ω (is_V h.1 (W := 1) (Or.inl rfl) i6) (pl_is hP)
  have e4 : am_get ω1 (1 + 4 + (i : Int)).toNat 4 = (sB (cV ω 1 i) : Int) := (f1.2 _ _ (by omega)).trans s4
  have e3 : am_get ω (1 + 4 + (i : Int)).toNat 3 = cV ω 1 i 3 := rfl
  rw [e3, bv_v r1, if_pos (is_V R1.1.1 (W := 1) (Or.inl rfl) i6), e4] at Q
  obtain ⟨ω', r, q, rest⟩ := key (61 - sB (cV ω 1 i)) (sB (cV ω 1 i)) (by omega) ω1 f1 R1 ri1 B1
  exact ⟨ω', r, Q.trans q, rest⟩
end K61
