/-! ===== what holds between two calls of the law: the numbers ===== -/
def S_sky (a k : Nat) : Prop := (1 ≤ a ∧ a ≤ 10) ∨ (57 ≤ a ∧ a ≤ 63) ∨ (a = 53 ∧ (k = 3 ∨ k = 6 ∨ k = 12 ∨ k = 13 ∨ k = 14))
def S_tape (a k : Nat) : Prop := (a = 21 ∧ k = 1) ∨ a = 22 ∨ a = 64 ∨ (a = 53 ∧ k = 15)
def S_shelf (a k : Nat) : Prop := (37 ≤ a ∧ a ≤ 52) ∨ (54 ≤ a ∧ a ≤ 56) ∨ (a = 1 ∧ k = 3)
def S_ref (a _k : Nat) : Prop := a = 34 ∨ a = 65
def S_img (a k : Nat) : Prop := (a = 0 ∧ k = 2) ∨ (11 ≤ a ∧ a ≤ 20) ∨ a = 66 ∨ (a = 53 ∧ k = 22)
def S_ext (a k : Nat) : Prop := a = 0 ∧ (k = 8 ∨ k = 9)
/-- the model's sky is the present -/
def I_sky (m : Nat → Nat → Int) : Prop := (∀ i, i < 6 → ∀ f, f < 5 → m (59 + f) i = m (5 + i) f) ∧ (∀ j, j < 6 → m 57 j = m 2 j) ∧ (∀ j, j < 5 → m 58 j = m 3 j) ∧ m 53 3 = m 1 0 ∧ m 53 6 = m 1 3 ∧ m 53 12 = m 1 5 ∧ m 53 13 = m 1 6 ∧ m 53 14 = m 1 7
/-- a ship that can be: kind, circle, place, drops, busy -/
def O_ship (n : Int) (T : Nat → Int) (v : Nat → Int) : Prop := (0 ≤ v 0 ∧ v 0 ≤ 5) ∧ (0 ≤ v 1 ∧ v 1 < n) ∧ (0 ≤ v 2 ∧ v 2 < T (v 1).toNat) ∧ (0 ≤ v 3 ∧ v 3 ≤ 99) ∧ (0 ≤ v 4 ∧ v 4 ≤ 10)
def O_sky (m : Nat → Nat → Int) (w : Nat) : Prop := (2 ≤ m w 0 ∧ m w 0 ≤ 6) ∧ (0 ≤ m w 3 ∧ m w 3 ≤ 6) ∧ (∀ j, j < 6 → 2 ≤ m (w + 1) j ∧ m (w + 1) j ≤ 20) ∧ (∀ j, j < 5 → 1 ≤ m (w + 2) j ∧ m (w + 2) j ≤ 9) ∧ (∀ i : Nat, (i : Int) < m w 3 → O_ship (m w 0) (m (w + 1)) (m (w + 4 + i))) ∧ am_R32 (m w 6)
def I_tape (m : Nat → Nat → Int) : Prop := m 53 15 = m 21 1 ∧ (0 ≤ m 21 1 ∧ m 21 1 ≤ 250) ∧ ∀ j, j < 250 → m 64 j = m 22 j
def I_shelf (m : Nat → Nat → Int) : Prop := ∀ s, s < 8 → m 54 s = m (37 + 2 * s) 0 ∧ (∀ j, j < 40 → m 56 (40 * s + j) = m (38 + 2 * s) j) ∧ (m (37 + 2 * s) 0 = -1 ∨ (0 ≤ m (37 + 2 * s) 0 ∧ m (37 + 2 * s) 0 ≤ 4 ∧ m 55 s = m (37 + 2 * s) 1 ∧ 0 ≤ m (37 + 2 * s) 1 ∧ m (37 + 2 * s) 1 ≤ 40) ∨ (10 ≤ m (37 + 2 * s) 0 ∧ m (37 + 2 * s) 0 < 10 + m 1 3))
def I_ref (m : Nat → Nat → Int) : Prop := ∀ k, k < 5 → m 65 (k + 2) = m 34 k
def I_img (m : Nat → Nat → Int) : Prop := m 53 22 = m 0 2 ∧ (m 0 2 = 0 ∨ (m 0 2 = 1 ∧ O_sky m 11 ∧ (∀ j, j < 6 → m 66 j = m 12 j) ∧ (∀ j, j < 5 → m 66 (6 + j) = m 13 j) ∧ (∀ i, i < 6 → ∀ f, f < 5 → m 66 (12 + 6 * f + i) = m (15 + i) f) ∧ m 66 42 = m 11 0 ∧ m 66 43 = m 11 3 ∧ m 66 44 = m 11 5 ∧ m 66 45 = m 11 6 ∧ m 66 46 = m 11 7))
def sh_P : List (Nat × Nat) := [(1, 15), (100, 120), (104, 3), (100, 120), (100, 120), (100, 120), (104, 3), (100, 120), (100, 120), (100, 120), (104, 3), (100, 120), (100, 120), (100, 120), (104, 7), (100, 1320), (100, 1320), (100, 1320), (100, 1320), (100, 1320), (100, 1320), (100, 1320), (100, 7320), (100, 3), (100, 3)]
def sh_C : List (Nat × Nat) := [(0, 3), (102, 6), (102, 6), (4, 5), (4, 5), (4, 5), (4, 5), (4, 5), (4, 5), (4, 5), (4, 5), (4, 5), (4, 5), (4, 5), (4, 5)]
/-- the planner's references, its first cell being p -/
def B_pl (m : Nat → Nat → Int) (p : Nat) : Prop := m p 0 = 1 ∧ m p 1 = ((p + 1 : Nat) : Int) ∧ m p 3 = ((p + 2 : Nat) : Int) ∧ m p 4 = ((p + 6 : Nat) : Int) ∧ m p 5 = ((p + 10 : Nat) : Int) ∧ m p 6 = ((p + 14 : Nat) : Int) ∧ m p 7 = ((p + 22 : Nat) : Int) ∧ m p 8 = ((p + 23 : Nat) : Int) ∧ m p 9 = ((p + 24 : Nat) : Int) ∧ (∀ j, j < 3 → m (p + 2) j = ((p + 3 + j : Nat) : Int) ∧ m (p + 6) j = ((p + 7 + j : Nat) : Int) ∧ m (p + 10) j = ((p + 11 + j : Nat) : Int)) ∧ ∀ j, j < 7 → m (p + 14) j = ((p + 15 + j : Nat) : Int)
/-- the chase's references: chasers and runners come in turn -/
def B_ch (m : Nat → Nat → Int) (c : Nat) : Prop := m c 0 = 1 ∧ m c 1 = ((c + 1 : Nat) : Int) ∧ m c 2 = ((c + 2 : Nat) : Int) ∧ ∀ j, j < 6 → m (c + 1) j = ((c + 3 + 2 * j : Nat) : Int) ∧ m (c + 2) j = ((c + 4 + 2 * j : Nat) : Int)
def I_ext (ω : am_W) : Prop := (ω.1 = sh_0 ∧ am_get ω 0 8 = -1 ∧ am_get ω 0 9 = -1) ∨ (ω.1 = sh_0 ++ sh_P ∧ am_get ω 0 8 = 72 ∧ am_get ω 0 9 = -1 ∧ B_pl ω.2.1 72) ∨ (ω.1 = sh_0 ++ sh_C ∧ am_get ω 0 8 = -1 ∧ am_get ω 0 9 = 72 ∧ B_ch ω.2.1 72) ∨ (ω.1 = sh_0 ++ (sh_P ++ sh_C) ∧ am_get ω 0 8 = 72 ∧ am_get ω 0 9 = 97 ∧ B_pl ω.2.1 72 ∧ B_ch ω.2.1 97) ∨ (ω.1 = sh_0 ++ (sh_C ++ sh_P) ∧ am_get ω 0 8 = 87 ∧ am_get ω 0 9 = 72 ∧ B_pl ω.2.1 87 ∧ B_ch ω.2.1 72)
def Inv (ω : am_W) : Prop := Bs ω ∧ I_sky ω.2.1 ∧ O_sky ω.2.1 1 ∧ I_tape ω.2.1 ∧ I_shelf ω.2.1 ∧ I_ref ω.2.1 ∧ I_img ω.2.1 ∧ I_ext ω
section KP
variable {m m' : Nat → Nat → Int}
theorem sky_kp (h : ∀ a k, S_sky a k → m' a k = m a k) (q : I_sky m) : I_sky m' := by
  unfold S_sky at h
  obtain ⟨q1, q2, q3, q4, q5, q6, q7, q8⟩ := q
  refine ⟨fun i hi f hf => ?_, fun j hj => ?_, fun j hj => ?_, ?_, ?_, ?_, ?_, ?_⟩
  · rw [h _ _ (by omega), h _ _ (by omega)]; exact q1 i hi f hf
  · rw [h _ _ (by omega), h _ _ (by omega)]; exact q2 j hj
  · rw [h _ _ (by omega), h _ _ (by omega)]; exact q3 j hj
  all_goals (rw [h _ _ (by omega), h _ _ (by omega)]; assumption)
def S_osky (w a k : Nat) : Prop := (a = w ∧ (k = 0 ∨ k = 3 ∨ k = 6)) ∨ (w + 1 ≤ a ∧ a ≤ w + 9)
theorem osky_kp {w : Nat} (h : ∀ a k, S_osky w a k → m' a k = m a k) (q : O_sky m w) : O_sky m' w := by
  unfold S_osky at h
  obtain ⟨q1, q2, q3, q4, q5, q6⟩ := q
  unfold O_sky
  rw [h w 0 (by omega), h w 3 (by omega), h w 6 (by omega)]
  have e1 : m' (w + 1) = m (w + 1) := funext fun k => h _ k (by omega)
  rw [e1]
  refine ⟨q1, q2, q3, fun j hj => ?_, fun i hi => ?_, q6⟩
  · rw [h _ _ (by omega)]; exact q4 j hj
  · have e2 : m' (w + 4 + i) = m (w + 4 + i) := funext fun k => h _ k (by omega)
    rw [e2]
    exact q5 i hi
theorem tape_kp (h : ∀ a k, S_tape a k → m' a k = m a k) (q : I_tape m) : I_tape m' := by
  unfold S_tape at h
  obtain ⟨q1, q2, q3⟩ := q
  unfold I_tape
  rw [h 53 15 (by omega), h 21 1 (by omega)]
  exact ⟨q1, q2, fun j hj => by rw [h _ _ (by omega), h _ _ (by omega)]; exact q3 j hj⟩
theorem shelf_kp (h : ∀ a k, S_shelf a k → m' a k = m a k) (q : I_shelf m) : I_shelf m' := by
  unfold S_shelf at h
  intro s hs
  obtain ⟨q1, q2, q3⟩ := q s hs
  rw [h 54 s (by omega), h (37 + 2 * s) 0 (by omega), h 55 s (by omega), h (37 + 2 * s) 1 (by omega), h 1 3 (by omega)]
  exact ⟨q1, fun j hj => by rw [h _ _ (by omega), h _ _ (by omega)]; exact q2 j hj, q3⟩
theorem ref_kp (h : ∀ a k, S_ref a k → m' a k = m a k) (q : I_ref m) : I_ref m' := by
  unfold S_ref at h
  intro k hk
  rw [h _ _ (by omega), h _ _ (by omega)]
  exact q k hk
theorem img_kp (h : ∀ a k, S_img a k → m' a k = m a k) (q : I_img m) : I_img m' := by
  unfold S_img at h
  obtain ⟨q1, q2⟩ := q
  unfold I_img
  rw [h 53 22 (by omega), h 0 2 (by omega)]
  refine ⟨q1, ?_⟩
  rcases q2 with q2 | ⟨g0, g1, g2, g3, g4, g5, g6, g7, g8, g9⟩
  · exact Or.inl q2
  · right
    refine ⟨g0, osky_kp (m := m) (fun a k s => h a k (by unfold S_osky at s; omega)) g1, fun j hj => ?_, fun j hj => ?_, fun i hi f hf => ?_, ?_, ?_, ?_, ?_, ?_⟩
    · rw [h _ _ (by omega), h _ _ (by omega)]; exact g2 j hj
    · rw [h _ _ (by omega), h _ _ (by omega)]; exact g3 j hj
    · rw [h _ _ (by omega), h _ _ (by omega)]; exact g4 i hi f hf
    all_goals (rw [h _ _ (by omega), h _ _ (by omega)]; assumption)
end KP
theorem rp_P {X : List (Nat × Nat)} {p : Nat} (hX : ∀ j, j < 25 → X[p + j]? = sh_P[j]?) : (∀ k, k < 10 → k ≠ 2 → am_rp X p k = true) ∧ ∀ j, j = 2 ∨ j = 6 ∨ j = 10 ∨ j = 14 → ∀ k, am_rp X (p + j) k = true := by
  refine ⟨fun k hk h2 => ?_, fun j hj k => ?_⟩
  · have h0 := hX 0 (by omega)
    rw [am_rp_at (show X[p]? = some (1, 15) from h0)]
    have : ∀ k, k < 10 → k ≠ 2 → ((decide (1 < 8) && decide (am_fk 1 k = 2)) || decide (102 ≤ 1)) = true := by decide
    exact this k hk h2
  · have h0 := hX j (by omega)
    rcases hj with rfl | rfl | rfl | rfl
    · exact am_rp_at h0
    · exact am_rp_at h0
    · exact am_rp_at h0
    · exact am_rp_at h0
theorem pl_kp {ω ω' : am_W} {p : Nat} (hX : ∀ j, j < 25 → ω.1[p + j]? = sh_P[j]?) (d : Dc ω ω') (q : B_pl ω.2.1 p) : B_pl ω'.2.1 p := by
  obtain ⟨r1, r2⟩ := rp_P hX
  have e0 : ∀ k, k < 10 → k ≠ 2 → ω'.2.1 p k = ω.2.1 p k := fun k h1 h2 => d.2.2 _ _ (r1 k h1 h2)
  have e1 : ∀ j, j = 2 ∨ j = 6 ∨ j = 10 ∨ j = 14 → ∀ k, ω'.2.1 (p + j) k = ω.2.1 (p + j) k := fun j hj k => d.2.2 _ _ (r2 j hj k)
  unfold B_pl
  rw [e0 0 (by omega) (by omega), e0 1 (by omega) (by omega), e0 3 (by omega) (by omega), e0 4 (by omega) (by omega), e0 5 (by omega) (by omega), e0 6 (by omega) (by omega), e0 7 (by omega) (by omega), e0 8 (by omega) (by omega), e0 9 (by omega) (by omega)]
  simp only [e1 2 (by omega), e1 6 (by omega), e1 10 (by omega), e1 14 (by omega)]
  exact q
theorem ch_kp {ω ω' : am_W} {p : Nat} (hX : ∀ j, j < 15 → ω.1[p + j]? = sh_C[j]?) (d : Dc ω ω') (q : B_ch ω.2.1 p) : B_ch ω'.2.1 p := by
  have h0 := hX 0 (by omega)
  have h1 := hX 1 (by omega)
  have h2 := hX 2 (by omega)
  have e0 : ∀ k, k < 3 → ω'.2.1 p k = ω.2.1 p k := fun k hk => d.2.2 _ _ (by
    rw [am_rp_at (show ω.1[p]? = some (0, 3) from h0)]
    have : ∀ k, k < 3 → ((decide (0 < 8) && decide (am_fk 0 k = 2)) || decide (102 ≤ 0)) = true := by decide
    exact this k hk)
  have e1 : ∀ k, ω'.2.1 (p + 1) k = ω.2.1 (p + 1) k := fun k => d.2.2 _ _ (am_rp_at h1)
  have e2 : ∀ k, ω'.2.1 (p + 2) k = ω.2.1 (p + 2) k := fun k => d.2.2 _ _ (am_rp_at h2)
  unfold B_ch
  rw [e0 0 (by omega), e0 1 (by omega), e0 2 (by omega)]
  simp only [e1, e2]
  exact q
theorem ext_kp {ω ω' : am_W} (d : Dc ω ω') (q : I_ext ω) (hb : Bs ω) : I_ext ω' := by
  have e8 : am_get ω' 0 8 = am_get ω 0 8 := d.2.2 _ _ (by rw [bs_rp hb (by decide)]; rfl)
  have e9 : am_get ω' 0 9 = am_get ω 0 9 := d.2.2 _ _ (by rw [bs_rp hb (by decide)]; rfl)
  unfold I_ext
  rw [d.1, e8, e9]
  rcases q with q | ⟨q1, q2, q3, q4⟩ | ⟨q1, q2, q3, q4⟩ | ⟨q1, q2, q3, q4, q5⟩ | ⟨q1, q2, q3, q4, q5⟩
  · exact Or.inl q
  · exact Or.inr (Or.inl ⟨q1, q2, q3, pl_kp (by rw [q1]; decide) d q4⟩)
  · exact Or.inr (Or.inr (Or.inl ⟨q1, q2, q3, ch_kp (by rw [q1]; decide) d q4⟩))
  · exact Or.inr (Or.inr (Or.inr (Or.inl ⟨q1, q2, q3, pl_kp (by rw [q1]; decide) d q4, ch_kp (by rw [q1]; decide) d q5⟩)))
  · exact Or.inr (Or.inr (Or.inr (Or.inr ⟨q1, q2, q3, pl_kp (by rw [q1]; decide) d q4, ch_kp (by rw [q1]; decide) d q5⟩)))
theorem inv_kp {ω ω' : am_W} (bad : Nat → Nat → Prop) (h : Inv ω) (d : Dc ω ω') (e : ∀ a k, ¬ bad a k → ω'.2.1 a k = ω.2.1 a k) (t1 : (∀ a k, S_sky a k → ¬ bad a k) ∨ I_sky ω'.2.1) (t2 : (∀ a k, S_osky 1 a k → ¬ bad a k) ∨ O_sky ω'.2.1 1) (t3 : (∀ a k, S_tape a k → ¬ bad a k) ∨ I_tape ω'.2.1) (t4 : (∀ a k, S_shelf a k → ¬ bad a k) ∨ I_shelf ω'.2.1) (t5 : (∀ a k, S_ref a k → ¬ bad a k) ∨ I_ref ω'.2.1) (t6 : (∀ a k, S_img a k → ¬ bad a k) ∨ I_img ω'.2.1) : Inv ω' := by
  obtain ⟨h0, h1, h2, h3, h4, h5, h6, h7⟩ := h
  exact ⟨h0.dc d, t1.elim (fun t => sky_kp (fun a k s => e a k (t a k s)) h1) id, t2.elim (fun t => osky_kp (fun a k s => e a k (t a k s)) h2) id, t3.elim (fun t => tape_kp (fun a k s => e a k (t a k s)) h3) id, t4.elim (fun t => shelf_kp (fun a k s => e a k (t a k s)) h4) id, t5.elim (fun t => ref_kp (fun a k s => e a k (t a k s)) h5) id, t6.elim (fun t => img_kp (fun a k s => e a k (t a k s)) h6) id, ext_kp d h7 h0⟩
