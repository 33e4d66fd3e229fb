/-! ===== the way: one entry of the table, the class ===== -/
section K90
variable {ω : am_W} {p : Nat} {vd : Nat → Prop} {ok : Nat → Nat → Prop} {tg ln pc : Nat → Nat → Nat}
theorem c_79 (hP : Pls ω p) (hw : Chw ω p vd ok tg ln pc) (hc : Cht vd ok tg ln pc) {step q G : Nat} (hq : vd q) (hs : step ≤ 60) (hG : G ≤ 60) (hv : ∀ t q, step < t → t ≤ G → vd q → 0 ≤ am_get ω (p + 22) (t * 120 + q) ∧ am_get ω (p + 22) (t * 120 + q) ≤ 1000000) {l1 l3 l5 : Int} : am_run (18, 0) 79 ([some (.inr (.inr ((p : Int)))), some (.inl l1), some (.inl ((G : Int))), some (.inl l3), some (.inl ((step : Int))), some (.inl l5), some (.inl ((q : Int))), some (.inl 1000000), some (.inl 0)], [], ω) = am_run (18, 0) 54 ([some (.inr (.inr ((p : Int)))), some (.inl l1), some (.inl ((G : Int))), some (.inl l3), some (.inl ((step : Int))), some (.inl (am_w (l5 + 1))), some (.inl ((q : Int))), some (.inl (mi2 (mi2 (mi2 1000000 (dB ok tg ln pc G (am_get ω (p + 22)) 0 step q)) (dB ok tg ln pc G (am_get ω (p + 22)) 1 step q)) (dB ok tg ln pc G (am_get ω (p + 22)) 2 step q))), some (.inl 3)], [], (am_put ω (p + 22) (step * 120 + q) (mi2 (mi2 (mi2 1000000 (dB ok tg ln pc G (am_get ω (p + 22)) 0 step q)) (dB ok tg ln pc G (am_get ω (p + 22)) 1 step q)) (dB ok tg ln pc G (am_get ω (p + 22)) 2 step q)))) := by
  have q120 := (hc q hq).1
  have d0 := c_dropsBy hP hw hc (x := 0) (step := step) hq (by omega) hs hG hv
  have d1 := c_dropsBy hP hw hc (x := 1) (step := step) hq (by omega) hs hG hv
  have d2 := c_dropsBy hP hw hc (x := 2) (step := step) hq (by omega) hs hG hv
  have d0' : am_run (20, 0) 0 ([some (.inr (.inr ((p : Int)))), some (.inl 0), some (.inl ((step : Int))), some (.inl ((q : Int))), some (.inl ((G : Int))), none, none], [], ω) = _ := d0
  have d1' : am_run (20, 0) 0 ([some (.inr (.inr ((p : Int)))), some (.inl 1), some (.inl ((step : Int))), some (.inl ((q : Int))), some (.inl ((G : Int))), none, none], [], ω) = _ := d1
  have d2' : am_run (20, 0) 0 ([some (.inr (.inr ((p : Int)))), some (.inl 2), some (.inl ((step : Int))), some (.inl ((q : Int))), some (.inl ((G : Int))), none, none], [], ω) = _ := d2
  have w1 : am_w ((0 : Int) + 1) = 1 := am_w_s (by omega) (by omega)
  have w2 : am_w ((1 : Int) + 1) = 2 := am_w_s (by omega) (by omega)
  have w3 : am_w ((2 : Int) + 1) = 3 := am_w_s (by omega) (by omega)
  rw [pX1_setToGo_79 _ _ _ _ _ _ _ _ _ _ (pl_is hP), if_neg (by decide), bi_v d0', bi_v j_min, w1]
  rw [pX1_setToGo_79 _ _ _ _ _ _ _ _ _ _ (pl_is hP), if_neg (by decide), bi_v d1', bi_v j_min, w2]
  rw [pX1_setToGo_79 _ _ _ _ _ _ _ _ _ _ (pl_is hP), if_neg (by decide), bi_v d2', bi_v j_min, w3]
  clear w1 w2 w3
  have w4 : am_w (am_w ((step : Int) * 120) + (q : Int)) = ((step * 120 + q : Nat) : Int) := by
    rw [am_w_s (z := (step : Int) * 120) (by omega) (by omega), am_w_s (by omega) (by omega)]
    omega
  rw [pX1_setToGo_79 _ _ _ _ _ _ _ _ _ _ (pl_is hP), if_pos (by decide), Int.toNat_natCast, pl_7 hP, w4]
  clear w4
  rw [if_pos (pl_go hP (Int.natCast_nonneg _) (by omega)), Int.toNat_natCast, Int.toNat_natCast]
end K90
