/-! ===== world: tokens ===== -/
section K106
/-- of what sort the letter at j is -/
def sO (L : Nat → Int) (n j : Nat) : Int := if j < n then (if 97 ≤ L j ∧ L j ≤ 122 then 1 else if 48 ≤ L j ∧ L j ≤ 57 then 2 else if L j = 59 then 3 else 4) else 0
/-- the token behind j: its sort, where it begins and ends -/
def Tk (L : Nat → Int) (n j : Nat) (s : Int) (b e : Nat) : Prop := j ≤ b ∧ b ≤ n ∧ (∀ m, j ≤ m → m < b → L m = 32) ∧ (b < n → L b ≠ 32) ∧ s = sO L n b ∧ b ≤ e ∧ e ≤ n ∧ ((s = 0 ∧ e = b) ∨ ((s = 1 ∨ s = 2) ∧ b < e ∧ (∀ m, b ≤ m → m < e → sO L n m = s) ∧ (e < n → sO L n e ≠ s)) ∨ ((s = 3 ∨ s = 4) ∧ e = b + 1))
section PU
variable {L : Nat → Int} {n j : Nat}
theorem sO_n (h : ¬ j < n) : sO L n j = 0 := if_neg h
theorem sO_y (h : j < n) : sO L n j = if 97 ≤ L j ∧ L j ≤ 122 then 1 else if 48 ≤ L j ∧ L j ≤ 57 then 2 else if L j = 59 then 3 else 4 := if_pos h
theorem sO_1 (h : j < n) : sO L n j = 1 ↔ (97 ≤ L j ∧ L j ≤ 122) := by
  rw [sO_y h]
  by_cases a : 97 ≤ L j ∧ L j ≤ 122
  · rw [if_pos a]; exact ⟨fun _ => a, fun _ => rfl⟩
  · rw [if_neg a]
    by_cases c : 48 ≤ L j ∧ L j ≤ 57
    · rw [if_pos c]; exact ⟨fun z => by omega, fun z => absurd z a⟩
    · rw [if_neg c]
      by_cases d : L j = 59
      · rw [if_pos d]; exact ⟨fun z => by omega, fun z => absurd z a⟩
      · rw [if_neg d]; exact ⟨fun z => by omega, fun z => absurd z a⟩
theorem sO_2 (h : j < n) : sO L n j = 2 ↔ (48 ≤ L j ∧ L j ≤ 57) := by
  rw [sO_y h]
  by_cases a : 97 ≤ L j ∧ L j ≤ 122
  · rw [if_pos a]; exact ⟨fun z => by omega, fun z => by omega⟩
  · rw [if_neg a]
    by_cases c : 48 ≤ L j ∧ L j ≤ 57
    · rw [if_pos c]; exact ⟨fun _ => c, fun _ => rfl⟩
    · rw [if_neg c]
      by_cases d : L j = 59
      · rw [if_pos d]; exact ⟨fun z => by omega, fun z => absurd z c⟩
      · rw [if_neg d]; exact ⟨fun z => by omega, fun z => absurd z c⟩
theorem sO_r : 0 ≤ sO L n j ∧ sO L n j ≤ 4 ∧ (sO L n j = 0 ↔ ¬ j < n) := by
  by_cases h : j < n
  · rw [sO_y h]
    by_cases a : 97 ≤ L j ∧ L j ≤ 122
    · rw [if_pos a]; exact ⟨by omega, by omega, fun z => by omega, fun z => absurd h z⟩
    · rw [if_neg a]
      by_cases c : 48 ≤ L j ∧ L j ≤ 57
      · rw [if_pos c]; exact ⟨by omega, by omega, fun z => by omega, fun z => absurd h z⟩
      · rw [if_neg c]
        by_cases d : L j = 59
        · rw [if_pos d]; exact ⟨by omega, by omega, fun z => by omega, fun z => absurd h z⟩
        · rw [if_neg d]; exact ⟨by omega, by omega, fun z => by omega, fun z => absurd h z⟩
  · rw [sO_n h]; exact ⟨by omega, by omega, fun _ => h, fun _ => rfl⟩
theorem Tk_u {s s' : Int} {b b' e e' : Nat} (h : Tk L n j s b e) (h' : Tk L n j s' b' e') : s = s' ∧ b = b' ∧ e = e' := by
  obtain ⟨a1, a2, a3, a4, a5, a6, a7, a8⟩ := h
  obtain ⟨c1, c2, c3, c4, c5, c6, c7, c8⟩ := h'
  have eb : b = b' := by
    by_cases g : b < b'
    · exact absurd (c3 b a1 g) (a4 (by omega))
    · by_cases g' : b' < b
      · exact absurd (a3 b' c1 g') (c4 (by omega))
      · omega
  subst eb
  have es : s = s' := a5.trans c5.symm
  subst es
  refine ⟨rfl, rfl, ?_⟩
  rcases a8 with ⟨x1, x2⟩ | ⟨x1, x2, x3, x4⟩ | ⟨x1, x2⟩
  · rcases c8 with ⟨y1, y2⟩ | ⟨y1, y2, y3, y4⟩ | ⟨y1, y2⟩
    · omega
    · omega
    · omega
  · rcases c8 with ⟨y1, y2⟩ | ⟨y1, y2, y3, y4⟩ | ⟨y1, y2⟩
    · omega
    · by_cases g : e < e'
      · exact absurd (y3 e (by omega) g) (x4 (by omega))
      · by_cases g' : e' < e
        · exact absurd (x3 e' (by omega) g') (y4 (by omega))
        · omega
    · omega
  · rcases c8 with ⟨y1, y2⟩ | ⟨y1, y2, y3, y4⟩ | ⟨y1, y2⟩
    · omega
    · omega
    · omega
end PU
section CL
variable {ω : am_W} {L : Nat → Int} {n j : Nat}
/-- the class's tape -/
def CT (ω : am_W) (L : Nat → Int) (n : Nat) : Prop := Bs ω ∧ n ≤ 250 ∧ am_get ω 21 1 = (n : Int) ∧ ∀ j, j < n → am_get ω 22 j = L j
def F21 (ω ω' : am_W) : Prop := Dc ω ω' ∧ ∀ a k, ¬ (a = 21 ∧ 3 ≤ k) → am_get ω' a k = am_get ω a k
theorem F21.rf : F21 ω ω := ⟨Dc.rf ω, fun _ _ _ => rfl⟩
theorem F21.tr {ω1 ω2 : am_W} (h : F21 ω ω1) (g : F21 ω1 ω2) : F21 ω ω2 := ⟨h.1.tr g.1, fun a k z => (g.2 a k z).trans (h.2 a k z)⟩
theorem f21_put (h : Bs ω) {k : Nat} {v : Int} (hk : 3 ≤ k ∧ k ≤ 6) : F21 ω (am_put ω 21 k v) := by
  refine ⟨Dc.put ?_, fun a k' z => if_neg (fun y => z ⟨y.1, by omega⟩)⟩
  rw [am_rp_at (bs_sh h (a := 21) (q := (3, 7)) rfl)]
  rcases (show k = 3 ∨ k = 4 ∨ k = 5 ∨ k = 6 by omega) with rfl | rfl | rfl | rfl <;> rfl
theorem CT.kp {ω' : am_W} (h : CT ω L n) (f : F21 ω ω') : CT ω' L n := ⟨h.1.dc f.1, h.2.1, (f.2 _ _ (by omega)).trans h.2.2.1, fun j hj => (f.2 _ _ (by omega)).trans (h.2.2.2 j hj)⟩
theorem c_sortAt (h : CT ω L n) (hj : j ≤ 1000) : am_run (45, 0) 0 ([some (.inr (.inr 21)), some (.inl ((j : Int))), none], [], ω) = some (some (.inl (sO L n j)), ω) := by
  obtain ⟨h0, n250, hn, hL⟩ := h
  have Q := pX3_sortAt_0 21 j ω (i_21 h0)
  rw [if_neg (by omega)] at Q
  simp only [Int.reduceToNat, hn, f_21_0 h0] at Q
  by_cases g : j < n
  · rw [if_pos (by omega), if_pos (n_22 h0 (by omega) (by omega)), Int.toNat_natCast, hL j g, pX3_sortAt_35] at Q
    rw [Q, sO_y g]
    by_cases a : L j < 97
    · rw [if_pos a, if_neg (show ¬ (97 ≤ L j ∧ L j ≤ 122) by omega)]
      by_cases c : L j < 48
      · rw [if_pos c, if_neg (show ¬ (48 ≤ L j ∧ L j ≤ 57) by omega)]
        by_cases d : L j = 59
        · omega
        · rw [if_pos d, if_neg d]
      · rw [if_neg c]
        by_cases c2 : 57 < L j
        · rw [if_pos c2, if_neg (show ¬ (48 ≤ L j ∧ L j ≤ 57) by omega)]
          by_cases d : L j = 59
          · rw [if_neg (fun y => y d), if_pos d]
          · rw [if_pos d, if_neg d]
        · rw [if_neg c2, if_pos (show 48 ≤ L j ∧ L j ≤ 57 by omega)]
    · rw [if_neg a]
      by_cases a2 : 122 < L j
      · rw [if_pos a2, if_neg (show ¬ (97 ≤ L j ∧ L j ≤ 122) by omega), if_neg (show ¬ (48 ≤ L j ∧ L j ≤ 57) by omega), if_neg (by omega), if_pos (by omega), if_pos (by omega), if_neg (show ¬ L j = 59 by omega)]
      · rw [if_neg a2, if_pos (show 97 ≤ L j ∧ L j ≤ 122 by omega)]
  · rw [if_neg (by omega)] at Q
    rw [Q, sO_n g]
theorem c_skip (h : CT ω L n) {o2 : Option am_V} : ∀ m j : Nat, j + m = n → ∃ b : Nat, am_run (44, 0) 5 ([some (.inr (.inr 21)), some (.inl ((j : Int))), o2], [], ω) = am_run (44, 0) 30 ([some (.inr (.inr 21)), some (.inl ((b : Int))), o2], [], ω) ∧ j ≤ b ∧ b ≤ n ∧ (∀ m, j ≤ m → m < b → L m = 32) ∧ (b < n → L b ≠ 32) := by
  obtain ⟨h0, n250, hn, hL⟩ := h
  intro m
  induction m with
  | zero =>
    intro j hj
    have Q := pX3_takeToken_5 21 j o2 ω (i_21 h0)
    simp only [Int.reduceToNat, hn] at Q
    rw [if_pos (by omega)] at Q
    exact ⟨j, Q, Nat.le_refl _, by omega, fun m h1 h2 => by omega, fun z => by omega⟩
  | succ m ih =>
    intro j hj
    have Q := pX3_takeToken_5 21 j o2 ω (i_21 h0)
    simp only [Int.reduceToNat, hn, f_21_0 h0] at Q
    rw [if_neg (by omega), if_pos (n_22 h0 (by omega) (by omega)), Int.toNat_natCast, hL j (by omega)] at Q
    by_cases g : L j = 32
    · rw [if_neg (fun z => z g), am_w_s (by omega) (by omega), show (j : Int) + 1 = ((j + 1 : Nat) : Int) by omega] at Q
      obtain ⟨b, r, b1, b2, b3, b4⟩ := ih (j + 1) (by omega)
      refine ⟨b, Q.trans r, by omega, b2, fun m h1 h2 => ?_, b4⟩
      by_cases z : m = j
      · rw [z]; exact g
      · exact b3 m (by omega) h2
    · rw [if_pos g] at Q
      exact ⟨j, Q, Nat.le_refl _, by omega, fun m h1 h2 => by omega, fun _ => g⟩
theorem c_run69 (h : CT ω L n) {s : Int} {b : Nat} (hs : s = 1 ∨ s = 2) (e3 : am_get ω 21 3 = s) : ∀ m a : Nat, a + m = n → b < a → (∀ x, b ≤ x → x < a → sO L n x = s) → ∃ e : Nat, am_run (44, 0) 69 ([some (.inr (.inr 21)), some (.inl ((a : Int))), some (.inl 1)], [], ω) = some (none, am_put ω 21 5 (e : Int)) ∧ a ≤ e ∧ e ≤ n ∧ (∀ x, b ≤ x → x < e → sO L n x = s) ∧ (e < n → sO L n e ≠ s) := by
  have hh := h
  obtain ⟨h0, n250, hn, hL⟩ := h
  have fin : ∀ a : Nat, a ≤ n → mi2 (a : Int) (n : Int) = (a : Int) := fun a ha => by unfold mi2; rw [if_neg (by omega)]
  intro m
  induction m with
  | zero =>
    intro a ha hb J
    have Q := pX3_takeToken_69 21 a 1 ω (i_21 h0)
    simp only [Int.reduceToNat, hn] at Q
    rw [if_neg (by omega), if_pos (by omega), bi_v j_min, if_pos (i_21 h0), fin a (by omega)] at Q
    exact ⟨a, Q, Nat.le_refl _, by omega, J, fun z => by omega⟩
  | succ m ih =>
    intro a ha hb J
    have Q := pX3_takeToken_69 21 a 1 ω (i_21 h0)
    simp only [Int.reduceToNat, hn] at Q
    rw [if_neg (by omega), if_neg (by omega), bi_v (c_sortAt hh (j := a) (by omega)), if_pos (i_21 h0), e3] at Q
    by_cases g : sO L n a = s
    · rw [if_neg (fun z => z g), am_w_s (by omega) (by omega), show (a : Int) + 1 = ((a + 1 : Nat) : Int) by omega] at Q
      obtain ⟨e, r, x1, x2, x3, x4⟩ := ih (a + 1) (by omega) (by omega) (fun x h1 h2 => by
        by_cases z : x = a
        · rw [z]; exact g
        · exact J x h1 (by omega))
      exact ⟨e, Q.trans r, by omega, x2, x3, x4⟩
    · rw [if_pos g, hn, bi_v j_min, if_pos (i_21 h0), fin a (by omega)] at Q
      exact ⟨a, Q, Nat.le_refl _, by omega, J, fun _ => g⟩
theorem c_take (h : CT ω L n) (he : am_get ω 21 5 = (j : Int)) (hj : j ≤ n) : ∃ (ω' : am_W) (s : Int) (b e : Nat), am_run (44, 0) 0 ([some (.inr (.inr 21)), none, none], [], ω) = some (none, ω') ∧ Tk L n j s b e ∧ CT ω' L n ∧ am_get ω' 21 3 = s ∧ am_get ω' 21 4 = (b : Int) ∧ am_get ω' 21 5 = (e : Int) ∧ am_get ω' 21 6 = am_get ω 21 6 ∧ F21 ω ω' := by
  have h0 := h.1
  have n250 := h.2.1
  have q0 := pX3_takeToken_0 21 ω (i_21 h0)
  simp only [Int.reduceToNat, he] at q0
  obtain ⟨b, r1, b1, b2, b3, b4⟩ := c_skip h (o2 := none) (n - j) j (by omega)
  obtain ⟨ω1, w1⟩ : ∃ w, w = am_put ω 21 4 (b : Int) := ⟨_, rfl⟩
  have f1 : F21 ω ω1 := by rw [w1]; exact f21_put h0 (by omega)
  have C1 := h.kp f1
  obtain ⟨s, hs⟩ : ∃ s, s = sO L n b := ⟨_, rfl⟩
  have sa := c_sortAt C1 (j := b) (by omega)
  rw [← hs] at sa
  obtain ⟨ω2, w2⟩ : ∃ w, w = am_put ω1 21 3 s := ⟨_, rfl⟩
  have f2 : F21 ω1 ω2 := by rw [w2]; exact f21_put C1.1 (by omega)
  have C2 := C1.kp f2
  have g3 : am_get ω2 21 3 = s := by rw [w2]; exact gp_same
  have g4 : am_get ω2 21 4 = (b : Int) := by rw [w2, gp_place (by omega), w1]; exact gp_same
  have g6 : am_get ω2 21 6 = am_get ω 21 6 := by rw [w2, gp_place (by omega), w1]; exact gp_place (by omega)
  have q30 := pX3_takeToken_30 21 b none ω (i_21 h0)
  simp only [Int.reduceToNat] at q30
  rw [← w1, bi_v sa, if_pos (i_21 C1.1), ← w2, g3, am_w_s (by omega) (by omega), show (b : Int) + 1 = ((b + 1 : Nat) : Int) by omega] at q30
  have fin : ∀ e : Nat, am_run (44, 0) 30 ([some (.inr (.inr 21)), some (.inl ((b : Int))), none], [], ω) = some (none, am_put ω2 21 5 (e : Int)) → Tk L n j s b e → ∃ (ω' : am_W) (s : Int) (b e : Nat), am_run (44, 0) 0 ([some (.inr (.inr 21)), none, none], [], ω) = some (none, ω') ∧ Tk L n j s b e ∧ CT ω' L n ∧ am_get ω' 21 3 = s ∧ am_get ω' 21 4 = (b : Int) ∧ am_get ω' 21 5 = (e : Int) ∧ am_get ω' 21 6 = am_get ω 21 6 ∧ F21 ω ω' := by
    intro e r t
    have f3 := f21_put C2.1 (k := 5) (v := (e : Int)) (by omega)
    exact ⟨_, s, b, e, q0.trans (r1.trans r), t, C2.kp f3, (gp_place (by omega)).trans g3, (gp_place (by omega)).trans g4, gp_same, (gp_place (by omega)).trans g6, (f1.tr f2).tr f3⟩
  have sr := sO_r (L := L) (n := n) (j := b)
  rw [← hs] at sr
  by_cases c : s = 1 ∨ s = 2
  · have bn : b < n := by
      by_cases z : b < n
      · exact z
      · have := sr.2.2.mpr z
        omega
    have q : am_run (44, 0) 30 ([some (.inr (.inr 21)), some (.inl ((b : Int))), none], [], ω) = am_run (44, 0) 69 ([some (.inr (.inr 21)), some (.inl (((b + 1 : Nat) : Int))), some (.inl 1)], [], ω2) := by
      rw [q30]
      rcases c with z | z
      · rw [if_pos z]
      · rw [if_neg (by omega), if_neg (fun y => y z)]
    obtain ⟨e, r, x1, x2, x3, x4⟩ := c_run69 C2 c g3 (n - (b + 1)) (b + 1) (by omega) (Nat.lt_succ_self b) (fun x h1 h2 => by
      have : x = b := by omega
      rw [this]; exact hs.symm)
    exact fin e (q.trans r) ⟨b1, b2, b3, b4, hs, by omega, x2, Or.inr (Or.inl ⟨c, by omega, x3, x4⟩)⟩
  · have q : am_run (44, 0) 30 ([some (.inr (.inr 21)), some (.inl ((b : Int))), none], [], ω) = am_run (44, 0) 69 ([some (.inr (.inr 21)), some (.inl (((b + 1 : Nat) : Int))), some (.inl 0)], [], ω2) := by
      rw [q30, if_neg (by omega), if_pos (by omega)]
    have q69 := pX3_takeToken_69 21 ((b + 1 : Nat) : Int) 0 ω2 (i_21 C2.1)
    simp only [Int.reduceToNat, C2.2.2.1] at q69
    rw [if_pos trivial, bi_v j_min, if_pos (i_21 C2.1)] at q69
    by_cases z : b < n
    · rw [show mi2 ((b + 1 : Nat) : Int) (n : Int) = ((b + 1 : Nat) : Int) by unfold mi2; rw [if_neg (by omega)]] at q69
      exact fin (b + 1) (q.trans q69) ⟨b1, b2, b3, b4, hs, by omega, by omega, Or.inr (Or.inr ⟨by have := sr.2.2; omega, rfl⟩)⟩
    · rw [show mi2 ((b + 1 : Nat) : Int) (n : Int) = (b : Int) by unfold mi2; rw [if_pos (by omega)]; omega] at q69
      exact fin b (q.trans q69) ⟨b1, b2, b3, b4, hs, Nat.le_refl _, b2, Or.inl ⟨sr.2.2.mpr z, rfl⟩⟩
end CL
end K106
