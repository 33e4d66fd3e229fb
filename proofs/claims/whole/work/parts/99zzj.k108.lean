/-! ===== world: words and numbers ===== -/
section K108
variable {ω : am_W} {L : Nat → Int} {n j : Nat} {s : Int} {b e : Nat}
def IsW (L : Nat → Int) (s : Int) (b e : Nat) (w : List Int) : Prop := s = 1 ∧ e = b + w.length ∧ ∀ i, i < w.length → L (b + i) = w.getD i 0
theorem tx_ok {k : Nat} (hk : k < 6) : am_txok (-3 - ((k : Nat) : Int)) = true ∧ (-3 - (-3 - ((k : Nat) : Int))).toNat = k ∧ (am_texts.getD k []).length ≤ 7 := by
  refine ⟨?_, by omega, ?_⟩
  · unfold am_txok
    rw [decide_eq_true (show -3 - ((k : Nat) : Int) ≤ -3 by omega), decide_eq_true (show -9 < -3 - ((k : Nat) : Int) by omega)]
    rfl
  · have : ∀ k, k < 6 → (am_texts.getD k []).length ≤ 7 := by decide
    exact this k hk
theorem ch_ok {k i : Nat} (hk : k < 6) (hi : i < (am_texts.getD k []).length) : am_chok (-3 - ((k : Nat) : Int)) (i : Int) = true := by
  unfold am_chok
  rw [(tx_ok hk).2.1, decide_eq_true (show -3 - ((k : Nat) : Int) ≤ -3 by omega), decide_eq_true (show -9 < -3 - ((k : Nat) : Int) by omega), decide_eq_true (show (0 : Int) ≤ (i : Int) by omega), decide_eq_true (show (i : Int) < (((am_texts.getD k []).length : Nat) : Int) by omega)]
  rfl
/-- the class's token -/
def CS (ω : am_W) (L : Nat → Int) (n : Nat) (s : Int) (b e : Nat) (f : Int) : Prop := CT ω L n ∧ am_get ω 21 3 = s ∧ am_get ω 21 4 = (b : Int) ∧ am_get ω 21 5 = (e : Int) ∧ am_get ω 21 6 = f
theorem c_isWord {f : Int} (h : CS ω L n s b e f) (be : b ≤ e) (en : e ≤ n) {k : Nat} (hk : k < 6) : am_run (43, 0) 0 ([some (.inr (.inr 21)), some (.inr (.inr (-3 - ((k : Nat) : Int)))), none], [], ω) = some (some (.inl (b01 (IsW L s b e (am_texts.getD k [])))), ω) := by
  obtain ⟨⟨h0, n250, hn, hL⟩, e3, e4, e5, _⟩ := h
  obtain ⟨t1, t2, t3⟩ := tx_ok hk
  obtain ⟨w, hw⟩ : ∃ w, w = am_texts.getD k [] := ⟨_, rfl⟩
  have ck := fun (i : Nat) (hi : i < w.length) => ch_ok (k := k) (i := i) hk (by rw [← hw]; exact hi)
  have Q := pX3_isWord_0 21 (-3 - ((k : Nat) : Int)) ω (i_21 h0)
  simp only [Int.reduceToNat, e3, e4, e5, t1, t2, ← hw, if_true] at Q
  rw [← hw] at t3 ⊢
  by_cases g1 : s = 1
  · rw [if_neg (fun z => z g1), am_w_s (by omega) (by omega)] at Q
    by_cases g2 : e = b + w.length
    · rw [if_pos (by omega)] at Q
      have key : ∀ m i : Nat, i + m = w.length → (∀ x, x < i → L (b + x) = w.getD x 0) → am_run (43, 0) 28 ([some (.inr (.inr 21)), some (.inr (.inr (-3 - ((k : Nat) : Int)))), some (.inl ((i : Int)))], [], ω) = some (some (.inl (b01 (IsW L s b e w))), ω) := by
        intro m
        induction m with
        | zero =>
          intro i hi J
          have q := pX3_isWord_28 21 (-3 - ((k : Nat) : Int)) i ω (i_21 h0)
          rw [if_pos t1, t2, ← hw, if_pos (by omega)] at q
          rw [q, b01_pos ⟨g1, g2, fun x hx => J x (by omega)⟩]
        | succ m ih =>
          intro i hi J
          have q := pX3_isWord_28 21 (-3 - ((k : Nat) : Int)) i ω (i_21 h0)
          have w4 : ∀ _ : Unit, am_w ((b : Int) + (i : Int)) = ((b + i : Nat) : Int) := fun _ => (am_w_s (by omega) (by omega)).trans (by omega)
          have n1 : ¬ ((w.length : Nat) : Int) ≤ (i : Int) := by omega
          have n2 : ¬ (n : Int) ≤ ((b + i : Nat) : Int) := by omega
          simp only [Int.reduceToNat, if_true, t1, t2, ← hw, if_neg n1, e4, hn, w4 (), if_neg n2, f_21_0 h0, n_22 h0 (i := ((b + i : Nat) : Int)) (by omega) (by omega), ck i (by omega), Int.toNat_natCast, hL (b + i) (by omega)] at q
          by_cases g : L (b + i) = w.getD i 0
          · rw [if_pos g, am_w_s (by omega) (by omega), show (i : Int) + 1 = ((i + 1 : Nat) : Int) by omega] at q
            rw [q]
            exact ih (i + 1) (by omega) (fun x hx => by
              by_cases z : x = i
              · rw [z]; exact g
              · exact J x (by omega))
          · rw [if_neg g] at q
            rw [q, b01_neg (fun z => g (z.2.2 i (by omega)))]
      rw [Q]
      exact key w.length 0 (by omega) (fun x hx => absurd hx (Nat.not_lt_zero _))
    · rw [if_neg (by omega)] at Q
      rw [Q, b01_neg (fun z => g2 z.2.1)]
  · rw [if_pos g1] at Q
    rw [Q, b01_neg (fun z => g1 z.1)]
theorem m_isWord (h : MT ω L n s b e) (be : b ≤ e) (en : e ≤ n) {k : Nat} (hk : k < 6) : am_run (176, 0) 0 ([some (.inr (.inr 53)), some (.inr (.inr (-3 - ((k : Nat) : Int)))), none], [], ω) = some (some (.inl (b01 (IsW L s b e (am_texts.getD k [])))), ω) := by
  obtain ⟨⟨h0, n250, hn, hL⟩, e5, e4, e3, _⟩ := h
  obtain ⟨t1, t2, t3⟩ := tx_ok hk
  obtain ⟨w, hw⟩ : ∃ w, w = am_texts.getD k [] := ⟨_, rfl⟩
  have ck := fun (i : Nat) (hi : i < w.length) => ch_ok (k := k) (i := i) hk (by rw [← hw]; exact hi)
  have Q := pX7_isWord_0 53 (-3 - ((k : Nat) : Int)) ω (i_53 h0)
  simp only [Int.reduceToNat, e3, e4, e5, t1, t2, ← hw, if_true] at Q
  rw [← hw] at t3 ⊢
  by_cases g1 : s = 1
  · rw [if_neg (fun z => z (by rw [if_neg (by omega)]; exact g1)), am_w_s (by omega) (by omega)] at Q
    by_cases g2 : e = b + w.length
    · rw [if_pos (by omega)] at Q
      have key : ∀ m i : Nat, i + m = w.length → (∀ x, x < i → L (b + x) = w.getD x 0) → am_run (176, 0) 28 ([some (.inr (.inr 53)), some (.inr (.inr (-3 - ((k : Nat) : Int)))), some (.inl ((i : Int)))], [], ω) = some (some (.inl (b01 (IsW L s b e w))), ω) := by
        intro m
        induction m with
        | zero =>
          intro i hi J
          have q := pX7_isWord_28 53 (-3 - ((k : Nat) : Int)) i ω (i_53 h0)
          rw [if_pos t1, t2, ← hw, if_pos (by omega)] at q
          rw [q, b01_pos ⟨g1, g2, fun x hx => J x (by omega)⟩]
        | succ m ih =>
          intro i hi J
          have q := pX7_isWord_28 53 (-3 - ((k : Nat) : Int)) i ω (i_53 h0)
          have w4 : ∀ _ : Unit, am_w ((b : Int) + (i : Int)) = ((b + i : Nat) : Int) := fun _ => (am_w_s (by omega) (by omega)).trans (by omega)
          have n1 : ¬ ((w.length : Nat) : Int) ≤ (i : Int) := by omega
          simp only [Int.reduceToNat, if_true, t1, t2, ← hw, if_neg n1, e4, hn, w4 (), f_53_16 h0, n_64 h0 (i := ((b + i : Nat) : Int)) (by omega) (by omega), ck i (by omega), Int.toNat_natCast, hL (b + i) (by omega)] at q
          by_cases g : L (b + i) = w.getD i 0
          · rw [if_pos g, am_w_s (by omega) (by omega), show (i : Int) + 1 = ((i + 1 : Nat) : Int) by omega] at q
            rw [q]
            exact ih (i + 1) (by omega) (fun x hx => by
              by_cases z : x = i
              · rw [z]; exact g
              · exact J x (by omega))
          · rw [if_neg g] at q
            rw [q, b01_neg (fun z => g (z.2.2 i (by omega)))]
      rw [Q]
      exact key w.length 0 (by omega) (fun x hx => absurd hx (Nat.not_lt_zero _))
    · rw [if_neg (by omega)] at Q
      rw [Q, b01_neg (fun z => g2 z.2.1)]
  · rw [if_pos (by by_cases z : s = 4
                   · rw [if_pos z]; omega
                   · rw [if_neg z]; exact g1)] at Q
    rw [Q, b01_neg (fun z => g1 z.1)]
theorem c_numH {f : Int} (h : CS ω L n s b e f) (t : Tk L n j s b e) (hs : s = 2) (h2 : e ≤ b + 2) : am_run (42, 0) 0 ([some (.inr (.inr 21)), none, none], [], ω) = some (some (.inl (vl L b e)), ω) := by
  obtain ⟨⟨h0, n250, hn, hL⟩, e3, e4, e5, _⟩ := h
  obtain ⟨t1, t2, t3, t4, t5, t6, t7, t8⟩ := t
  obtain ⟨be, J⟩ : b < e ∧ ∀ m, b ≤ m → m < e → sO L n m = 2 := by
    rcases t8 with ⟨z, _⟩ | ⟨_, z1, z2, _⟩ | ⟨z, _⟩
    · omega
    · rw [hs] at z2; exact ⟨z1, z2⟩
    · omega
  have d0 := (sO_2 (by omega)).mp (J b (Nat.le_refl _) be)
  have q0 := pX3_numberHere_0 21 ω (i_21 h0)
  have q1 := pX3_numberHere_7 21 0 b ω (i_21 h0)
  have b1 : ∀ _ : Unit, am_w ((b : Int) + 1) = ((b + 1 : Nat) : Int) := fun _ => (am_w_s (by omega) (by omega)).trans (by omega)
  have v1 : ∀ _ : Unit, am_w (am_w (am_w ((0 : Int) * 10) + L b) - 48) = L b - 48 := fun _ => by
    rw [am_w_s (z := (0 : Int) * 10) (by omega) (by omega), am_w_s (z := (0 : Int) * 10 + L b) (by omega) (by omega), am_w_s (by omega) (by omega)]
    omega
  simp only [Int.reduceToNat, e4] at q0
  simp only [Int.reduceToNat, e5, hn, f_21_0 h0] at q1
  rw [if_neg (by omega), if_neg (by omega), if_pos (n_22 h0 (by omega) (by omega)), Int.toNat_natCast, hL b (by omega), v1 (), b1 ()] at q1
  have q2 := pX3_numberHere_7 21 (L b - 48) ((b + 1 : Nat) : Int) ω (i_21 h0)
  simp only [Int.reduceToNat, e5, hn, f_21_0 h0] at q2
  unfold vl
  rw [if_pos h2]
  by_cases g : e = b + 1
  · rw [if_pos (by omega)] at q2
    rw [if_pos g]
    exact q0.trans (q1.trans q2)
  · rw [if_neg g]
    have d1 := (sO_2 (by omega)).mp (J (b + 1) (by omega) (by omega))
    have b2 : ∀ _ : Unit, am_w (((b + 1 : Nat) : Int) + 1) = ((b + 2 : Nat) : Int) := fun _ => (am_w_s (by omega) (by omega)).trans (by omega)
    have v2 : ∀ _ : Unit, am_w (am_w (am_w ((L b - 48) * 10) + L (b + 1)) - 48) = (L b - 48) * 10 + (L (b + 1) - 48) := fun _ => by
      rw [am_w_s (z := (L b - 48) * 10) (by omega) (by omega), am_w_s (z := (L b - 48) * 10 + L (b + 1)) (by omega) (by omega), am_w_s (by omega) (by omega)]
      omega
    rw [if_neg (by omega), if_neg (by omega), if_pos (n_22 h0 (by omega) (by omega)), Int.toNat_natCast, hL (b + 1) (by omega), v2 (), b2 ()] at q2
    have q3 := pX3_numberHere_7 21 ((L b - 48) * 10 + (L (b + 1) - 48)) ((b + 2 : Nat) : Int) ω (i_21 h0)
    simp only [Int.reduceToNat, e5] at q3
    rw [if_pos (by omega)] at q3
    exact q0.trans (q1.trans (q2.trans q3))
/-- behind a fault nothing is read -/
theorem c_num_f (h : Bs ω) (hf : am_get ω 21 6 ≠ -1) {lo hi : Int} : am_run (41, 0) 0 ([some (.inr (.inr 21)), some (.inl lo), some (.inl hi), none], [], ω) = some (some (.inl (-1)), ω) := by
  have Q := pX3_readNumber_0 21 lo hi ω (i_21 h)
  rw [show (21 : Int).toNat = 21 from rfl, if_neg hf] at Q
  exact Q
/-- both read a number -/
theorem num_pair {ωm : am_W} (h : CS ω L n s b e (-1)) (hm : MA ωm L n) (e17 : am_get ωm 53 17 = (j : Int)) (t : Tk L n j s b e) {lo hi : Int} (h0 : 0 ≤ lo) (h9 : hi ≤ 99) : (∃ (v : Int) (ω' ωm' : am_W) (s2 : Int) (b2 e2 : Nat), lo ≤ v ∧ v ≤ hi ∧ am_run (41, 0) 0 ([some (.inr (.inr 21)), some (.inl lo), some (.inl hi), none], [], ω) = some (some (.inl v), ω') ∧ am_run (177, 0) 0 ([some (.inr (.inr 53)), some (.inl lo), some (.inl hi)], [], ωm) = some (some (.inl 1), ωm') ∧ Tk L n e s2 b2 e2 ∧ CS ω' L n s2 b2 e2 (-1) ∧ MT ωm' L n s b e ∧ am_get ωm' 53 20 = v ∧ F21 ω ω' ∧ F53 ωm ωm') ∨ ∃ ωm' : am_W, am_run (41, 0) 0 ([some (.inr (.inr 21)), some (.inl lo), some (.inl hi), none], [], ω) = some (some (.inl (-1)), am_put ω 21 6 (b : Int)) ∧ am_run (177, 0) 0 ([some (.inr (.inr 53)), some (.inl lo), some (.inl hi)], [], ωm) = some (some (.inl 0), ωm') ∧ am_get ωm' 53 18 = (b : Int) ∧ F53 ωm ωm' := by
  have n250 := h.1.2.1
  have B0 := h.1.1
  obtain ⟨t1, t2, t3, t4, t5, t6, t7, t8⟩ := id t
  obtain ⟨ωm', s', b', e', r, t', M, f⟩ := m_next hm e17 (by omega)
  obtain ⟨rfl, rfl, rfl⟩ := Tk_u t t'
  obtain ⟨MA', x17, x18, x19, x20⟩ := id M
  have Q := pX7_number_0 53 lo hi ωm (i_53 hm.1)
  rw [bv_v r, if_pos (i_53 MA'.1)] at Q
  simp only [Int.reduceToNat, x19] at Q
  have q := pX3_readNumber_0 21 lo hi ω (i_21 B0)
  simp only [Int.reduceToNat, h.2.2.2.2, h.2.1, h.2.2.1, h.2.2.2.1, if_true] at q
  have p38 : am_run (41, 0) 38 ([some (.inr (.inr 21)), some (.inl lo), some (.inl hi), none], [], ω) = some (some (.inl (-1)), am_put ω 21 6 (b : Int)) := by
    rw [pX3_readNumber_38, pX3_readNumber_39 _ _ _ _ _ _ (i_21 B0), if_pos (by omega)]
    simp only [Int.reduceToNat, h.2.2.1]
  by_cases g : s = 2
  · rw [if_neg (fun z => z (by rw [if_neg (by omega)]; exact g)), bi_v m_in1, x20 g] at Q
    rw [if_neg (fun z => z g), am_w_s (by omega) (by omega)] at q
    by_cases g2 : e ≤ b + 2
    · rw [if_neg (by omega), bi_v (c_numH h t g g2), pX3_readNumber_39 _ _ _ _ _ _ (i_21 B0)] at q
      simp only [Int.reduceToNat, h.2.2.1] at q
      by_cases g3 : lo ≤ vl L b e ∧ vl L b e ≤ hi
      · left
        rw [b01_pos g3, if_neg (by omega)] at Q
        obtain ⟨ω', s2, b2, e2, r2, T2, C2, y3, y4, y5, y6, f2⟩ := c_take h.1 h.2.2.2.1 t7
        rw [if_neg (by omega), if_pos g3.2, bv_v r2] at q
        exact ⟨vl L b e, ω', ωm', s2, b2, e2, g3.1, g3.2, q, Q, T2, ⟨C2, y3, y4, y5, y6.trans h.2.2.2.2⟩, M, x20 g, f2, f⟩
      · right
        rw [b01_neg g3, if_pos rfl] at Q
        refine ⟨ωm', ?_, Q, x18, f⟩
        rw [q]
        by_cases g4 : vl L b e < lo
        · rw [if_pos g4]
        · rw [if_neg g4, if_neg (by omega)]
    · right
      have v1000 : vl L b e = 1000 := if_neg g2
      rw [v1000, b01_neg (by omega), if_pos rfl] at Q
      rw [if_pos (by omega)] at q
      exact ⟨ωm', q.trans p38, Q, x18, f⟩
  · right
    rw [if_pos (by by_cases z : s = 4
                   · rw [if_pos z]; omega
                   · rw [if_neg z]; exact g)] at Q
    rw [if_pos g] at q
    exact ⟨ωm', q.trans p38, Q, x18, f⟩
/-- the model takes the token that the class has taken -/
theorem m_next1 {ωm : am_W} (hm : MA ωm L n) (e17 : am_get ωm 53 17 = (j : Int)) (t : Tk L n j s b e) : ∃ ωm' : am_W, am_run (175, 0) 0 ([some (.inr (.inr 53)), none], [], ωm) = some (none, ωm') ∧ MT ωm' L n s b e ∧ F53 ωm ωm' := by
  obtain ⟨t1, t2, t3, t4, t5, t6, t7, t8⟩ := id t
  obtain ⟨ωm', s', b', e', r, t', M, f⟩ := m_next hm e17 (by omega)
  obtain ⟨rfl, rfl, rfl⟩ := Tk_u t t'
  exact ⟨ωm', r, M, f⟩
/-- the class takes the token behind its own -/
theorem c_take1 {f : Int} (h : CS ω L n s b e f) (en : e ≤ n) : ∃ (ω' : am_W) (s2 : Int) (b2 e2 : Nat), am_run (44, 0) 0 ([some (.inr (.inr 21)), none, none], [], ω) = some (none, ω') ∧ Tk L n e s2 b2 e2 ∧ CS ω' L n s2 b2 e2 f ∧ F21 ω ω' := by
  obtain ⟨ω', s2, b2, e2, r2, T2, C2, y3, y4, y5, y6, f2⟩ := c_take h.1 h.2.2.2.1 en
  exact ⟨ω', s2, b2, e2, r2, T2, ⟨C2, y3, y4, y5, y6.trans h.2.2.2.2⟩, f2⟩
end K108
