/-! ===== world: tokens, the model ===== -/
section K107
variable {ω : am_W} {L : Nat → Int} {n j : Nat}
/-- the model's tape -/
def MA (ω : am_W) (L : Nat → Int) (n : Nat) : Prop := Bs ω ∧ n ≤ 250 ∧ am_get ω 53 15 = (n : Int) ∧ ∀ j, j < n → am_get ω 64 j = L j
def F53 (ω ω' : am_W) : Prop := Dc ω ω' ∧ ∀ a k, ¬ (a = 53 ∧ 17 ≤ k ∧ k ≤ 20) → am_get ω' a k = am_get ω a k
theorem F53.rf : F53 ω ω := ⟨Dc.rf ω, fun _ _ _ => rfl⟩
theorem F53.tr {ω1 ω2 : am_W} (h : F53 ω ω1) (g : F53 ω1 ω2) : F53 ω ω2 := ⟨h.1.tr g.1, fun a k z => (g.2 a k z).trans (h.2 a k z)⟩
theorem f53_put (h : Bs ω) {k : Nat} {v : Int} (hk : 17 ≤ k ∧ k ≤ 20) : F53 ω (am_put ω 53 k v) := by
  refine ⟨Dc.put ?_, fun a k' z => if_neg (fun y => z ⟨y.1, by omega⟩)⟩
  rw [am_rp_at (bs_sh h (a := 53) (q := (7, 30)) rfl)]
  rcases (show k = 17 ∨ k = 18 ∨ k = 19 ∨ k = 20 by omega) with rfl | rfl | rfl | rfl <;> rfl
theorem MA.kp {ω' : am_W} (h : MA ω L n) (f : F53 ω ω') : MA ω' L n := ⟨h.1.dc f.1, h.2.1, (f.2 _ _ (by omega)).trans h.2.2.1, fun j hj => (f.2 _ _ (by omega)).trans (h.2.2.2 j hj)⟩
theorem m_isLetter {x : Int} : am_run (173, 0) 0 ([some (.inl x)], [], ω) = some (some (.inl (b01 (97 ≤ x ∧ x ≤ 122))), ω) := by
  rw [pX7_isLetter_0]
  by_cases a : x < 97
  · rw [if_pos a, b01_neg (by omega)]
  · rw [if_neg a]
    by_cases c : 122 < x
    · rw [if_pos c, b01_neg (by omega)]
    · rw [if_neg c, b01_pos (by omega)]
theorem m_isDigit {x : Int} : am_run (174, 0) 0 ([some (.inl x)], [], ω) = some (some (.inl (b01 (48 ≤ x ∧ x ≤ 57))), ω) := by
  rw [pX7_isDigit_0]
  by_cases a : x < 48
  · rw [if_pos a, b01_neg (by omega)]
  · rw [if_neg a]
    by_cases c : 57 < x
    · rw [if_pos c, b01_neg (by omega)]
    · rw [if_neg c, b01_pos (by omega)]
/-- the number that stands there -/
def vl (L : Nat → Int) (b e : Nat) : Int := if e ≤ b + 2 then (if e = b + 1 then L b - 48 else (L b - 48) * 10 + (L (b + 1) - 48)) else 1000
theorem m_skip : ∀ m j : Nat, j + m = n → ∀ ω : am_W, MA ω L n → am_get ω 53 17 = (j : Int) → ∃ (b : Nat) (ω' : am_W), am_run (175, 0) 0 ([some (.inr (.inr 53)), none], [], ω) = am_run (175, 0) 38 ([some (.inr (.inr 53)), none], [], ω') ∧ F53 ω ω' ∧ am_get ω' 53 17 = (b : Int) ∧ j ≤ b ∧ b ≤ n ∧ (∀ m, j ≤ m → m < b → L m = 32) ∧ (b < n → L b ≠ 32) := by
  intro m
  induction m with
  | zero =>
    intro j hj ω h e17
    have Q := pX7_next_0 53 ω (i_53 h.1)
    simp only [Int.reduceToNat, h.2.2.1, e17] at Q
    rw [if_pos (by omega)] at Q
    exact ⟨j, ω, Q, F53.rf, e17, Nat.le_refl _, by omega, fun m h1 h2 => by omega, fun z => by omega⟩
  | succ m ih =>
    intro j hj ω h e17
    have h0 := h.1
    have n250 := h.2.1
    have Q := pX7_next_0 53 ω (i_53 h0)
    simp only [Int.reduceToNat, h.2.2.1, e17, f_53_16 h0] at Q
    rw [if_neg (by omega), if_pos (n_64 h0 (by omega) (by omega)), Int.toNat_natCast, h.2.2.2 j (by omega)] at Q
    by_cases g : L j = 32
    · rw [if_neg (fun z => z g), am_w_s (by omega) (by omega), show (j : Int) + 1 = ((j + 1 : Nat) : Int) by omega] at Q
      have f1 := f53_put h0 (k := 17) (v := ((j + 1 : Nat) : Int)) (by omega)
      obtain ⟨b, ω', r, f, e, b1, b2, b3, b4⟩ := ih (j + 1) (by omega) _ (h.kp f1) gp_same
      refine ⟨b, ω', Q.trans r, f1.tr f, e, by omega, b2, fun m h1 h2 => ?_, b4⟩
      by_cases z : m = j
      · rw [z]; exact g
      · exact b3 m (by omega) h2
    · rw [if_pos g] at Q
      exact ⟨j, ω, Q, F53.rf, e17, Nat.le_refl _, by omega, fun m h1 h2 => by omega, fun _ => g⟩
theorem m_word {b : Nat} {l1 : Int} : ∀ m a : Nat, a + m = n → b ≤ a → ∀ ω : am_W, MA ω L n → am_get ω 53 17 = (a : Int) → (∀ x, b ≤ x → x < a → sO L n x = 1) → ∃ (e : Nat) (ω' : am_W), am_run (175, 0) 85 ([some (.inr (.inr 53)), some (.inl l1)], [], ω) = some (none, ω') ∧ F53 ω ω' ∧ am_get ω' 53 17 = (e : Int) ∧ (∀ k, k ≠ 17 → am_get ω' 53 k = am_get ω 53 k) ∧ a ≤ e ∧ e ≤ n ∧ (∀ x, b ≤ x → x < e → sO L n x = 1) ∧ (e < n → sO L n e ≠ 1) := by
  intro m
  induction m with
  | zero =>
    intro a ha hb ω h e17 J
    have Q := pX7_next_85 53 l1 ω (i_53 h.1)
    simp only [Int.reduceToNat, h.2.2.1, e17] at Q
    rw [if_pos (by omega)] at Q
    exact ⟨a, ω, Q, F53.rf, e17, fun _ _ => rfl, Nat.le_refl _, by omega, J, fun z => by omega⟩
  | succ m ih =>
    intro a ha hb ω h e17 J
    have h0 := h.1
    have n250 := h.2.1
    have Q := pX7_next_85 53 l1 ω (i_53 h0)
    simp only [Int.reduceToNat, h.2.2.1, e17, f_53_16 h0] at Q
    rw [if_neg (by omega), if_pos (n_64 h0 (by omega) (by omega)), Int.toNat_natCast, h.2.2.2 a (by omega), bi_v m_isLetter] at Q
    by_cases g : sO L n a = 1
    · rw [b01_pos ((sO_1 (by omega)).mp g), if_neg (by omega), if_pos (i_53 h0), e17, am_w_s (by omega) (by omega), show (a : Int) + 1 = ((a + 1 : Nat) : Int) by omega] at Q
      have f1 := f53_put h0 (k := 17) (v := ((a + 1 : Nat) : Int)) (by omega)
      obtain ⟨e, ω', r, f, e', k', x1, x2, x3, x4⟩ := ih (a + 1) (by omega) (by omega) _ (h.kp f1) gp_same (fun x h1 h2 => by
        by_cases z : x = a
        · rw [z]; exact g
        · exact J x h1 (by omega))
      exact ⟨e, ω', Q.trans r, f1.tr f, e', fun k hk => (k' k hk).trans (gp_place hk), by omega, x2, x3, x4⟩
    · rw [b01_neg (fun z => g ((sO_1 (by omega)).mpr z)), if_pos rfl] at Q
      exact ⟨a, ω, Q, F53.rf, e17, fun _ _ => rfl, Nat.le_refl _, by omega, J, fun _ => g⟩
theorem m_digits {b : Nat} {l1 : Int} : ∀ m a : Nat, a + m = n → b ≤ a → ∀ ω : am_W, MA ω L n → am_get ω 53 17 = (a : Int) → am_get ω 53 18 = (b : Int) → (∀ x, b ≤ x → x < a → sO L n x = 2) → ((a = b → am_get ω 53 20 = 0) ∧ (a = b + 1 → am_get ω 53 20 = L b - 48) ∧ (a = b + 2 → am_get ω 53 20 = (L b - 48) * 10 + (L (b + 1) - 48))) → ∃ (e : Nat) (ω' : am_W), am_run (175, 0) 141 ([some (.inr (.inr 53)), some (.inl l1)], [], ω) = some (none, ω') ∧ F53 ω ω' ∧ am_get ω' 53 17 = (e : Int) ∧ am_get ω' 53 18 = (b : Int) ∧ am_get ω' 53 19 = am_get ω 53 19 ∧ a ≤ e ∧ e ≤ n ∧ (∀ x, b ≤ x → x < e → sO L n x = 2) ∧ (e < n → sO L n e ≠ 2) ∧ (b < e → am_get ω' 53 20 = vl L b e) := by
  have stop : ∀ (ω : am_W) (a : Nat), MA ω L n → am_get ω 53 17 = (a : Int) → am_get ω 53 18 = (b : Int) → b ≤ a → a ≤ n → ((a = b → am_get ω 53 20 = 0) ∧ (a = b + 1 → am_get ω 53 20 = L b - 48) ∧ (a = b + 2 → am_get ω 53 20 = (L b - 48) * 10 + (L (b + 1) - 48))) → ∃ ω' : am_W, am_run (175, 0) 217 ([some (.inr (.inr 53)), some (.inl l1)], [], ω) = some (none, ω') ∧ F53 ω ω' ∧ am_get ω' 53 17 = (a : Int) ∧ am_get ω' 53 18 = (b : Int) ∧ am_get ω' 53 19 = am_get ω 53 19 ∧ (b < a → am_get ω' 53 20 = vl L b a) := by
    intro ω a h e17 e18 hb han V
    have n250 := h.2.1
    have Q := pX7_next_217 53 l1 ω (i_53 h.1)
    simp only [Int.reduceToNat, e17, e18] at Q
    rw [am_w_s (by omega) (by omega)] at Q
    unfold vl
    by_cases g : a ≤ b + 2
    · rw [if_pos (by omega)] at Q
      refine ⟨ω, Q, F53.rf, e17, e18, rfl, fun z => ?_⟩
      rw [if_pos g]
      by_cases c : a = b + 1
      · rw [if_pos c]; exact V.2.1 c
      · rw [if_neg c]; exact V.2.2 (by omega)
    · rw [if_neg (by omega)] at Q
      refine ⟨_, Q, f53_put h.1 (by omega), (gp_place (by omega)).trans e17, (gp_place (by omega)).trans e18, gp_place (by omega), fun z => ?_⟩
      rw [if_neg g]
      exact gp_same
  intro m
  induction m with
  | zero =>
    intro a ha hb ω h e17 e18 J V
    have Q := pX7_next_141 53 l1 ω (i_53 h.1)
    simp only [Int.reduceToNat, h.2.2.1, e17] at Q
    rw [if_pos (by omega)] at Q
    obtain ⟨ω', r, f, x17, x18, x19, x20⟩ := stop ω a h e17 e18 hb (by omega) V
    exact ⟨a, ω', Q.trans r, f, x17, x18, x19, Nat.le_refl _, by omega, J, fun z => by omega, x20⟩
  | succ m ih =>
    intro a ha hb ω h e17 e18 J V
    have h0 := h.1
    have n250 := h.2.1
    have Q := pX7_next_141 53 l1 ω (i_53 h0)
    simp only [Int.reduceToNat, h.2.2.1, e17, e18, f_53_16 h0] at Q
    rw [if_neg (by omega), if_pos (n_64 h0 (by omega) (by omega)), Int.toNat_natCast, h.2.2.2 a (by omega), bi_v m_isDigit] at Q
    by_cases g : sO L n a = 2
    · have dg := (sO_2 (by omega)).mp g
      have J' : ∀ x, b ≤ x → x < a + 1 → sO L n x = 2 := fun x h1 h2 => by
        by_cases z : x = a
        · rw [z]; exact g
        · exact J x h1 (by omega)
      rw [b01_pos dg, if_neg (by omega), if_pos (i_53 h0), e17, e18, f_53_16 h0] at Q
      have a1 : ∀ _ : Unit, am_w ((a : Int) + 1) = ((a + 1 : Nat) : Int) := fun _ => (am_w_s (by omega) (by omega)).trans (by omega)
      have ab : ∀ _ : Unit, am_w ((a : Int) - (b : Int)) = (a : Int) - (b : Int) := fun _ => am_w_s (by omega) (by omega)
      rw [ab (), a1 ()] at Q
      by_cases c : a < b + 3
      · rw [if_neg (by omega), if_pos (n_64 h0 (by omega) (by omega)), Int.toNat_natCast, show (64 : Int).toNat = 64 from rfl, h.2.2.2 a (by omega)] at Q
        obtain ⟨v, hv⟩ : ∃ v, v = am_w (am_w (am_w (10 * am_get ω 53 20) + L a) - 48) := ⟨_, rfl⟩
        rw [← hv] at Q
        have f1 := f53_put h0 (k := 20) (v := v) (by omega)
        have e17' : am_get (am_put ω 53 20 v) 53 17 = (a : Int) := (gp_place (by omega)).trans e17
        rw [e17', a1 ()] at Q
        have f2 := f53_put (h0.dc f1.1) (k := 17) (v := ((a + 1 : Nat) : Int)) (by omega)
        have g20 : am_get (am_put (am_put ω 53 20 v) 53 17 ((a + 1 : Nat) : Int)) 53 20 = v := (gp_place (by omega)).trans gp_same
        have vals : (a = b → v = L b - 48) ∧ (a = b + 1 → v = (L b - 48) * 10 + (L (b + 1) - 48)) := by
          refine ⟨fun z => ?_, fun z => ?_⟩
          · subst z
            rw [hv, V.1 rfl, am_w_s (z := 10 * (0 : Int)) (by omega) (by omega), am_w_s (z := 10 * (0 : Int) + L a) (by omega) (by omega), am_w_s (by omega) (by omega)]
            omega
          · have d0 := (sO_2 (by omega)).mp (J b (Nat.le_refl _) (by omega))
            rw [hv, V.2.1 z]
            subst z
            rw [am_w_s (z := 10 * (L b - 48)) (by omega) (by omega), am_w_s (z := 10 * (L b - 48) + L (b + 1)) (by omega) (by omega), am_w_s (by omega) (by omega)]
            omega
        clear hv
        obtain ⟨e, ω', r, f, x17, x18, x19, x1, x2, x3, x4, x5⟩ := ih (a + 1) (by omega) (by omega) _ (h.kp (f1.tr f2)) gp_same (((gp_place (by omega)).trans (gp_place (by omega))).trans e18) J' (by
          rw [g20]
          exact ⟨fun z => by omega, fun z => vals.1 (by omega), fun z => vals.2 (by omega)⟩)
        exact ⟨e, ω', Q.trans r, (f1.tr f2).tr f, x17, x18, x19.trans ((gp_place (by omega)).trans (gp_place (by omega))), by omega, x2, x3, x4, x5⟩
      · rw [if_pos (by omega)] at Q
        have f1 := f53_put h0 (k := 17) (v := ((a + 1 : Nat) : Int)) (by omega)
        obtain ⟨e, ω', r, f, x17, x18, x19, x1, x2, x3, x4, x5⟩ := ih (a + 1) (by omega) (by omega) _ (h.kp f1) gp_same ((gp_place (by omega)).trans e18) J' ⟨fun z => by omega, fun z => by omega, fun z => by omega⟩
        exact ⟨e, ω', Q.trans r, f1.tr f, x17, x18, x19.trans (gp_place (by omega)), by omega, x2, x3, x4, x5⟩
    · rw [b01_neg (fun z => g ((sO_2 (by omega)).mpr z)), if_pos rfl] at Q
      obtain ⟨ω', r, f, x17, x18, x19, x20⟩ := stop ω a h e17 e18 hb (by omega) V
      exact ⟨a, ω', Q.trans r, f, x17, x18, x19, Nat.le_refl _, by omega, J, fun _ => g, x20⟩
/-- the model's token -/
def MT (ω : am_W) (L : Nat → Int) (n : Nat) (s : Int) (b e : Nat) : Prop := MA ω L n ∧ am_get ω 53 17 = (e : Int) ∧ am_get ω 53 18 = (b : Int) ∧ am_get ω 53 19 = (if s = 4 then -1 else s) ∧ (s = 2 → am_get ω 53 20 = vl L b e)
theorem m_next (h : MA ω L n) (e17 : am_get ω 53 17 = (j : Int)) (hj : j ≤ n) : ∃ (ω' : am_W) (s : Int) (b e : Nat), am_run (175, 0) 0 ([some (.inr (.inr 53)), none], [], ω) = some (none, ω') ∧ Tk L n j s b e ∧ MT ω' L n s b e ∧ F53 ω ω' := by
  have h0 := h.1
  have n250 := h.2.1
  obtain ⟨b, ω1, r1, f1, x17, b1, b2, b3, b4⟩ := m_skip (n - j) j (by omega) ω h e17
  have M1 := h.kp f1
  have f2 := f53_put M1.1 (k := 18) (v := (b : Int)) (by omega)
  obtain ⟨ω2, w2⟩ : ∃ w, w = am_put ω1 53 18 (b : Int) := ⟨_, rfl⟩
  rw [← w2] at f2
  have M2 := M1.kp f2
  have y17 : am_get ω2 53 17 = (b : Int) := by rw [w2]; exact (gp_place (by omega)).trans x17
  have y18 : am_get ω2 53 18 = (b : Int) := by rw [w2]; exact gp_same
  have q38 := pX7_next_38 53 none ω1 (i_53 M1.1)
  simp only [Int.reduceToNat, x17] at q38
  rw [← w2, y17, M2.2.2.1] at q38
  by_cases bn : b < n
  · rw [if_pos (by omega)] at q38
    have q63 := pX7_next_63 53 none ω2 (i_53 M2.1)
    simp only [Int.reduceToNat, y17, f_53_16 M2.1] at q63
    rw [if_pos (n_64 M2.1 (by omega) (by omega)), Int.toNat_natCast, M2.2.2.2 b bn, bi_v m_isLetter] at q63
    have pre := r1.trans (q38.trans q63)
    clear q63 q38
    have ii := i_53 M2.1
    have put19 : ∀ v : Int, F53 ω2 (am_put ω2 53 19 v) ∧ MA (am_put ω2 53 19 v) L n ∧ am_get (am_put ω2 53 19 v) 53 17 = (b : Int) ∧ am_get (am_put ω2 53 19 v) 53 18 = (b : Int) ∧ am_get (am_put ω2 53 19 v) 53 19 = v := fun v => by
      have f3 := f53_put M2.1 (k := 19) (v := v) (by omega)
      exact ⟨f3, M2.kp f3, (gp_place (by omega)).trans y17, (gp_place (by omega)).trans y18, gp_same⟩
    by_cases g1 : 97 ≤ L b ∧ L b ≤ 122
    · have s1 := (sO_1 bn).mpr g1
      rw [b01_pos g1, if_neg (by omega), if_pos ii] at pre
      obtain ⟨f3, M3, z17, z18, z19⟩ := put19 1
      obtain ⟨e, ω', r, f, e', k', c1, c2, c3, c4⟩ := m_word (b := b) (l1 := L b) (n - b) b (by omega) (Nat.le_refl _) _ M3 z17 (fun x h1 h2 => by omega)
      have be : b < e := by
        by_cases z : b < e
        · exact z
        · have eb : e = b := by omega
          rw [eb] at c4
          exact absurd s1 (c4 bn)
      refine ⟨ω', 1, b, e, pre.trans r, ⟨b1, b2, b3, b4, s1.symm, c1, c2, Or.inr (Or.inl ⟨Or.inl rfl, be, c3, c4⟩)⟩, ⟨M3.kp f, e', (k' 18 (by omega)).trans z18, ?_, fun z => by omega⟩, ((f1.tr f2).tr f3).tr f⟩
      rw [k' 19 (by omega), z19, if_neg (by omega)]
    · rw [b01_neg g1, if_pos rfl, bi_v m_isDigit] at pre
      by_cases g2 : 48 ≤ L b ∧ L b ≤ 57
      · have s2 := (sO_2 bn).mpr g2
        rw [b01_pos g2, if_neg (by omega), if_pos ii] at pre
        obtain ⟨f3, M3, z17, z18, z19⟩ := put19 2
        rw [pX7_next_136 _ _ _ (i_53 M3.1), show (53 : Int).toNat = 53 from rfl] at pre
        have f4 := f53_put M3.1 (k := 20) (v := 0) (by omega)
        obtain ⟨e, ω', r, f, x17', x18', x19', c1, c2, c3, c4, c5⟩ := m_digits (b := b) (l1 := L b) (n - b) b (by omega) (Nat.le_refl _) _ (M3.kp f4) ((gp_place (by omega)).trans z17) ((gp_place (by omega)).trans z18) (fun x h1 h2 => by omega) ⟨fun _ => gp_same, fun z => by omega, fun z => by omega⟩
        have be : b < e := by
          by_cases z : b < e
          · exact z
          · have eb : e = b := by omega
            rw [eb] at c4
            exact absurd s2 (c4 bn)
        refine ⟨ω', 2, b, e, pre.trans r, ⟨b1, b2, b3, b4, s2.symm, c1, c2, Or.inr (Or.inl ⟨Or.inr rfl, be, c3, c4⟩)⟩, ⟨(M3.kp f4).kp f, x17', x18', ?_, fun _ => c5 be⟩, (((f1.tr f2).tr f3).tr f4).tr f⟩
        rw [x19', gp_place (by omega), z19, if_neg (by omega)]
      · rw [b01_neg g2, if_pos rfl] at pre
        have b1w : ∀ _ : Unit, am_w ((b : Int) + 1) = ((b + 1 : Nat) : Int) := fun _ => (am_w_s (by omega) (by omega)).trans (by omega)
        have sv : sO L n b = if L b = 59 then 3 else 4 := by rw [sO_y bn, if_neg g1, if_neg g2]
        by_cases g3 : L b = 59
        · rw [if_neg (fun z => z g3), if_pos ii, pX7_next_255 _ _ _ (i_53 (put19 3).2.1.1), show (53 : Int).toNat = 53 from rfl] at pre
          obtain ⟨f3, M3, z17, z18, z19⟩ := put19 3
          rw [if_pos g3] at sv
          rw [z17, b1w ()] at pre
          have f4 := f53_put M3.1 (k := 17) (v := ((b + 1 : Nat) : Int)) (by omega)
          exact ⟨_, 3, b, b + 1, pre, ⟨b1, b2, b3, b4, sv.symm, by omega, by omega, Or.inr (Or.inr ⟨Or.inl rfl, rfl⟩)⟩, ⟨M3.kp f4, gp_same, (gp_place (by omega)).trans z18, ((gp_place (by omega)).trans z19).trans (by rw [if_neg (by omega)]), fun z => by omega⟩, ((f1.tr f2).tr f3).tr f4⟩
        · rw [if_pos g3, if_pos ii, pX7_next_255 _ _ _ (i_53 (put19 (-1)).2.1.1), show (53 : Int).toNat = 53 from rfl] at pre
          obtain ⟨f3, M3, z17, z18, z19⟩ := put19 (-1)
          rw [if_neg g3] at sv
          rw [z17, b1w ()] at pre
          have f4 := f53_put M3.1 (k := 17) (v := ((b + 1 : Nat) : Int)) (by omega)
          exact ⟨_, 4, b, b + 1, pre, ⟨b1, b2, b3, b4, sv.symm, by omega, by omega, Or.inr (Or.inr ⟨Or.inr rfl, rfl⟩)⟩, ⟨M3.kp f4, gp_same, (gp_place (by omega)).trans z18, ((gp_place (by omega)).trans z19).trans (by rw [if_pos rfl]), fun z => by omega⟩, ((f1.tr f2).tr f3).tr f4⟩
  · rw [if_neg (by omega)] at q38
    have f3 := f53_put M2.1 (k := 19) (v := 0) (by omega)
    exact ⟨_, 0, b, b, r1.trans q38, ⟨b1, b2, b3, b4, (sO_n bn).symm, Nat.le_refl _, b2, Or.inl ⟨rfl, rfl⟩⟩, ⟨M2.kp f3, (gp_place (by omega)).trans y17, (gp_place (by omega)).trans y18, gp_same.trans (by rw [if_neg (by omega)]), fun z => by omega⟩, (f1.tr f2).tr f3⟩
end K107
