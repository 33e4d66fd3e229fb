/-! ===== the way: drops by a code, the class ===== -/
section K87
variable {ω : am_W} {p : Nat} {vd : Nat → Prop} {ok : Nat → Nat → Prop} {tg ln pc : Nat → Nat → Nat}
noncomputable def dB (ok : Nat → Nat → Prop) (tg ln pc : Nat → Nat → Nat) (G : Nat) (R : Nat → Int) (x step q : Nat) : Int := @ite _ (ok x q ∧ step + ln x q ≤ G) (Classical.propDecidable _) (mi2 1000000 ((pc x q : Int) + R ((step + ln x q) * 120 + tg x q))) 1000000
theorem dB_y {G x step q : Nat} {R : Nat → Int} (h : ok x q ∧ step + ln x q ≤ G) : dB ok tg ln pc G R x step q = mi2 1000000 ((pc x q : Int) + R ((step + ln x q) * 120 + tg x q)) := @if_pos _ (Classical.propDecidable _) h _ _ _
theorem dB_n {G x step q : Nat} {R : Nat → Int} (h : ¬ (ok x q ∧ step + ln x q ≤ G)) : dB ok tg ln pc G R x step q = 1000000 := @if_neg _ (Classical.propDecidable _) h _ _ _
theorem c_dropsBy (hP : Pls ω p) (hw : Chw ω p vd ok tg ln pc) (hc : Cht vd ok tg ln pc) {x step q G : Nat} (hq : vd q) (hx : x < 3) (hs : step ≤ 60) (hG : G ≤ 60) (hv : ∀ t q, step < t → t ≤ G → vd q → 0 ≤ am_get ω (p + 22) (t * 120 + q) ∧ am_get ω (p + 22) (t * 120 + q) ≤ 1000000) : am_run (20, 0) 0 ([some (.inr (.inr ((p : Int)))), some (.inl ((x : Int))), some (.inl ((step : Int))), some (.inl ((q : Int))), some (.inl ((G : Int))), none, none], [], ω) = some (some (.inl (dB ok tg ln pc G (am_get ω (p + 22)) x step q)), ω) := by
  obtain ⟨q120, _, c3⟩ := hc q hq
  have cx := hw.2 q hq x hx
  have Q := pX1_dropsBy_0 (p : Int) x step q G ω (pl_is hP)
  simp only [am_bi_s, am_bl_s, am_ba_s, am_bv_s, Int.toNat_zero, Int.reduceToNat, Int.toNat_natCast, if_true, if_false, not_true, not_false_eq_true, Int.reduceEq, Int.reduceLT, Int.reduceLE, pl_3 hP, pl_4 hP, pl_5 hP, pl_7 hP, pl_ina3 hP (Or.inl rfl) (i := (x : Int)) (by omega) (by omega), pl_ina3 hP (Or.inr (Or.inl rfl)) (i := (x : Int)) (by omega) (by omega), pl_ina3 hP (Or.inr (Or.inr rfl)) (i := (x : Int)) (by omega) (by omega), pl_t hP hx, pl_l hP hx, pl_p hP hx] at Q
  rw [show p + 3 + x = p + (3 + x) by omega, show p + 11 + x = p + (11 + x) by omega, show p + 7 + x = p + (7 + x) by omega] at Q cx
  simp only [pl_row hP (r := 3 + x) (by omega) (i := (q : Int)) (by omega) (by omega), pl_row hP (r := 11 + x) (by omega) (i := (q : Int)) (by omega) (by omega), pl_row hP (r := 7 + x) (by omega) (i := (q : Int)) (by omega) (by omega), if_true] at Q
  rw [Q]
  by_cases g : ok x q
  · obtain ⟨t1, t2, t3⟩ := cx.1 g
    obtain ⟨y1, y2, y3, y4⟩ := c3 x hx g
    have tq := (hc _ y1).1
    rw [t1, t2, t3, if_neg (by omega)]
    have wa : am_w ((step : Int) + (ln x q : Int)) = ((step + ln x q : Nat) : Int) := (am_w_s (by omega) (by omega)).trans (by omega)
    rw [wa]
    clear wa
    by_cases a : step + ln x q ≤ G
    · have r := hv (step + ln x q) (tg x q) (by omega) a y1
      have w2 : am_w (am_w (((step + ln x q : Nat) : Int) * 120) + (tg x q : Int)) = (((step + ln x q) * 120 + tg x q : Nat) : Int) := by
        rw [am_w_s (z := ((step + ln x q : Nat) : Int) * 120) (by omega) (by omega), am_w_s (by omega) (by omega)]
        omega
      rw [if_pos (by clear w2; omega), w2]
      clear w2
      rw [if_pos (pl_go hP (Int.natCast_nonneg _) (by omega)), Int.toNat_natCast, am_w_s (by omega) (by omega), bi_v j_min, dB_y ⟨g, a⟩]
    · rw [if_neg (by omega), dB_n (fun z => a z.2)]
  · rw [cx.2 g, if_pos rfl, dB_n (fun z => g z.1)]
end K87
