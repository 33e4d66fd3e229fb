/-! ===== the way: the codes, the class ===== -/
section K93
variable {ω : am_W} {p : Nat} {vd : Nat → Prop} {ok : Nat → Nat → Prop} {tg ln pc : Nat → Nat → Nat} {g : Nat}
theorem ch_l (hc : Cht vd ok tg ln pc) : ∀ x q, x < 3 → vd q → ok x q → 1 ≤ ln x q := fun x q hx hq ho => ((hc q hq).2.2 x hx ho).2.1
theorem dB_bst (hc : Cht vd ok tg ln pc) {G lo k step q x : Nat} {R : Nat → Int} (hG : G ≤ 60) (B : TB vd ok tg ln pc g G lo R) (hlo : lo ≤ step) (hk : step + (k + 1) = G) (hq : vd q) (hx : x < 3) (e : ∃ d, Tg ok tg ln pc g (k + 1) q 0 d) : dB ok tg ln pc G R x step q = R (step * 120 + q) ↔ bst ok tg ln pc g k q x := by
  have a := tb_1 hc hG (step := step) (fun t q' h1 => B t q' (by omega)) (by omega) hq hx
  have b := B step q hlo (by omega) hq
  rw [show G - step = k + 1 by omega] at a b
  have a' := LT_c (fun d => (BY_c (g := g) (k := k) (d := d) (ch_l hc x q hx hq)).symm) a
  exact LT_eq (fun d hd => (BY_t (ch_l hc) hq).mpr ⟨x, hx, hd⟩) a' b e
theorem c_fbc (hP : Pls ω p) (hw : Chw ω p vd ok tg ln pc) (hc : Cht vd ok tg ln pc) {G lo k step q : Nat} (hG : G ≤ 60) (B : TB vd ok tg ln pc g G lo (am_get ω (p + 22))) (hlo : lo ≤ step) (hk : step + (k + 1) = G) (hq : vd q) (e : ∃ d, Tg ok tg ln pc g (k + 1) q 0 d) : am_run (19, 0) 0 ([some (.inr (.inr ((p : Int)))), some (.inl ((step : Int))), some (.inl ((q : Int))), some (.inl ((G : Int))), none, none], [], ω) = some (some (.inl (fb ok tg ln pc g k q : Int)), ω) := by
  have q120 := (hc q hq).1
  obtain ⟨least, hle⟩ : ∃ v, v = am_get ω (p + 22) (step * 120 + q) := ⟨_, rfl⟩
  have w : ∀ _ : Unit, am_w (am_w ((step : Int) * 120) + (q : Int)) = ((step * 120 + q : Nat) : Int) := fun _ => by
    rw [am_w_s (z := (step : Int) * 120) (by omega) (by omega), am_w_s (by omega) (by omega)]
    omega
  have Q := pX1_firstBestCode_0 (p : Int) step q G ω (pl_is hP)
  rw [Int.toNat_natCast, pl_7 hP, w (), if_pos (pl_go hP (Int.natCast_nonneg _) (by omega)), Int.toNat_natCast, Int.toNat_natCast, ← hle] at Q
  have one : ∀ x, x < 3 → (bst ok tg ln pc g k q x → am_run (19, 0) 16 ([some (.inr (.inr ((p : Int)))), some (.inl ((step : Int))), some (.inl ((q : Int))), some (.inl ((G : Int))), some (.inl least), some (.inl ((x : Int)))], [], ω) = some (some (.inl (x : Int)), ω)) ∧ (¬ bst ok tg ln pc g k q x → am_run (19, 0) 16 ([some (.inr (.inr ((p : Int)))), some (.inl ((step : Int))), some (.inl ((q : Int))), some (.inl ((G : Int))), some (.inl least), some (.inl ((x : Int)))], [], ω) = am_run (19, 0) 16 ([some (.inr (.inr ((p : Int)))), some (.inl ((step : Int))), some (.inl ((q : Int))), some (.inl ((G : Int))), some (.inl least), some (.inl (((x + 1 : Nat) : Int)))], [], ω)) := by
    intro x hx
    have d := c_dropsBy hP hw hc (x := x) (step := step) (G := G) hq hx (by omega) hG (fun t q' h1 h2 h3 => LT_r (B t q' (by omega) h2 h3) (by omega))
    have iff := dB_bst hc hG B hlo hk hq hx e
    have cx := hw.2 q hq x hx
    have w1 : ∀ _ : Unit, am_w ((x : Int) + 1) = ((x + 1 : Nat) : Int) := fun _ => (am_w_s (by omega) (by omega)).trans (by omega)
    have Q := pX1_firstBestCode_16 (p : Int) step q G least x ω (pl_is hP)
    rw [if_neg (by omega), bi_v d, w1 ()] at Q
    constructor
    · intro b
      have o := (bst_n b).1
      have t1 := (cx.1 o).1
      rw [show p + 3 + x = p + (3 + x) by omega] at t1
      rw [if_neg (fun z => z ((iff.mpr b).trans hle.symm)), if_pos (pl_is hP), Int.toNat_natCast, pl_3 hP, if_pos (pl_ina3 hP (Or.inl rfl) (i := (x : Int)) (by omega) (by omega)), Int.toNat_natCast, Int.toNat_natCast, pl_t hP hx, show p + 3 + x = p + (3 + x) by omega, if_pos (pl_row hP (r := 3 + x) (by omega) (i := (q : Int)) (by omega) (by omega)), Int.toNat_natCast, Int.toNat_natCast, t1, if_neg (by omega)] at Q
      exact Q
    · intro b
      rw [if_pos (fun z => b (iff.mp (z.trans hle)))] at Q
      exact Q
  obtain ⟨f3, f1, f2⟩ := fb_ok (ch_l hc) hq e
  obtain ⟨x, hx⟩ : ∃ x, x = fb ok tg ln pc g k q := ⟨_, rfl⟩
  rw [← hx] at f1 f2 f3 ⊢
  have z0 := one 0 (by omega)
  have z1 := one 1 (by omega)
  have z2 := one 2 (by omega)
  rcases (show x = 0 ∨ x = 1 ∨ x = 2 by omega) with y | y | y
  · rw [y] at f1 ⊢
    exact Q.trans (z0.1 f1)
  · rw [y] at f1 f2 ⊢
    exact Q.trans ((z0.2 (f2 0 (by omega))).trans (z1.1 f1))
  · rw [y] at f1 f2 ⊢
    exact Q.trans ((z0.2 (f2 0 (by omega))).trans ((z1.2 (f2 1 (by omega))).trans (z2.1 f1)))
theorem c_walk (hP : Pls ω p) (hw : Chw ω p vd ok tg ln pc) (hc : Cht vd ok tg ln pc) {G lo i : Nat} (hG : G ≤ 60) (hi : i < G) (B : TB vd ok tg ln pc g G lo (am_get ω (p + 22))) {l1 l2 : Int} : ∀ N step q l7 : Nat, G - step ≤ N → lo ≤ step → step ≤ i → l7 ≤ step → vd q → (∃ d, Tg ok tg ln pc g (G - step) q 0 d) → ∀ o8 o9 : Option am_V, am_run (17, 0) 65 ([some (.inr (.inr ((p : Int)))), some (.inr (.inr l1)), some (.inl l2), some (.inl ((i : Int))), some (.inl ((G : Int))), some (.inl ((step : Int))), some (.inl ((q : Int))), some (.inl ((l7 : Int))), o8, o9], [], ω) = some (some (.inl (An ok tg ln pc g (G - step) q 0 (i - step) : Int)), ω) := by
  intro N
  induction N with
  | zero => intro step q l7 hN hl hs; omega
  | succ N ih =>
    intro step q l7 hN hl hs h7 hq e o8 o9
    obtain ⟨k, hk⟩ : ∃ k, step + (k + 1) = G := ⟨G - step - 1, by omega⟩
    rw [show G - step = k + 1 by omega] at e ⊢
    have q120 := (hc q hq).1
    obtain ⟨f3, f1, f2⟩ := fb_ok (ch_l hc) hq e
    have F := c_fbc hP hw hc hG B hl hk hq e
    obtain ⟨o, eN⟩ := bst_n f1
    obtain ⟨x, hx⟩ : ∃ x, x = fb ok tg ln pc g k q := ⟨_, rfl⟩
    rw [← hx] at f3 o eN F
    obtain ⟨y1, y2, y3, y4⟩ := (hc q hq).2.2 x f3 o
    have cx := (hw.2 q hq x f3).1 o
    obtain ⟨t1, t2, _⟩ := cx
    rw [show p + 3 + x = p + (3 + x) by omega] at t1
    rw [show p + 7 + x = p + (7 + x) by omega] at t2
    have Q := pX1_codeOfWay_65 (p : Int) l1 l2 i G step q l7 o8 o9 ω (pl_is hP)
    have wa : ∀ _ : Unit, am_w ((step : Int) + (ln x q : Int)) = ((step + ln x q : Nat) : Int) := fun _ => (am_w_s (by omega) (by omega)).trans (by omega)
    have w7 : ∀ _ : Unit, am_w ((l7 : Int) + 1) = ((l7 + 1 : Nat) : Int) := fun _ => (am_w_s (by omega) (by omega)).trans (by omega)
    rw [if_neg (by omega), if_neg (by omega), bi_v F, if_pos (pl_is hP), Int.toNat_natCast, pl_4 hP, if_pos (pl_ina3 hP (Or.inr (Or.inl rfl)) (i := (x : Int)) (by omega) (by omega)), Int.toNat_natCast, Int.toNat_natCast, pl_l hP f3, show p + 7 + x = p + (7 + x) by omega, if_pos (pl_row hP (r := 7 + x) (by omega) (i := (q : Int)) (by omega) (by omega)), Int.toNat_natCast, Int.toNat_natCast, t2, wa (), w7 (), pl_3 hP, if_pos (pl_ina3 hP (Or.inl rfl) (i := (x : Int)) (by omega) (by omega)), Int.toNat_natCast, pl_t hP f3, show p + 3 + x = p + (3 + x) by omega, if_pos (pl_row hP (r := 3 + x) (by omega) (i := (q : Int)) (by omega) (by omega)), Int.toNat_natCast, t1] at Q
    by_cases a : step + ln x q ≤ i
    · rw [if_pos (by omega)] at Q
      obtain ⟨b1, b2⟩ : ln x q - 1 ≤ k ∧ ∃ d, Tg ok tg ln pc g (k - (ln x q - 1)) (tg x q) 0 d := by
        obtain ⟨d, hd⟩ := eN
        obtain ⟨z1, z2⟩ := (Tg_b _ _ _ _).mp hd
        exact ⟨z1, d, z2⟩
      have r := ih (step + ln x q) (tg x q) (l7 + 1) (by omega) (by omega) a (by omega) y1 (by rw [show G - (step + ln x q) = k - (ln x q - 1) by omega]; exact b2) (some (.inl (x : Int))) (some (.inl ((step + ln x q : Nat) : Int)))
      rw [Q, r]
      obtain ⟨j, hj⟩ : ∃ j, i - step = j + 1 := ⟨i - step - 1, by omega⟩
      rw [hj, An_s, ← hx, An_b _ _ _ _ b1, if_neg (by omega), show G - (step + ln x q) = k - (ln x q - 1) by omega, show i - (step + ln x q) = j - (ln x q - 1) by omega]
    · rw [if_neg (by omega)] at Q
      by_cases z : i = step
      · rw [if_neg (fun y => y (by omega))] at Q
        have a0 : An ok tg ln pc g (k + 1) q 0 0 = fb ok tg ln pc g k q := if_neg (Nat.lt_irrefl 0)
        rw [Q, z, Nat.sub_self, a0, ← hx]
      · rw [if_pos (by omega)] at Q
        obtain ⟨j, hj⟩ : ∃ j, i - step = j + 1 := ⟨i - step - 1, by omega⟩
        have b1 : ln x q - 1 ≤ k := by
          obtain ⟨d, hd⟩ := eN
          exact ((Tg_b _ _ _ _).mp hd).1
        rw [Q, hj, An_s, ← hx, An_b _ _ _ _ b1, if_pos (by omega)]
        rfl
end K93
