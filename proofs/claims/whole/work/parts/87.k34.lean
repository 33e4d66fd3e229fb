/-! ===== clash ===== -/
section K34
variable {ω : am_W} {W : Int}
def clP (T : Nat → Int) (V : Nat → Nat → Int) (t : Int) (i j : Nat) : Prop := spF T (V i) t ≠ -1 ∧ spF T (V i) t = spF T (V j) t
def clM (T : Nat → Int) (V : Nat → Nat → Int) (t : Int) (i j : Nat) : Prop := V i 1 = V j 1 ∧ paF T (V i) t ≠ -1 ∧ paF T (V i) t = paF T (V j) t
theorem cl_eq {n : Int} {T : Nat → Int} {V : Nat → Nat → Int} {t : Int} {i j : Nat} (hn : n ≤ 6) (hT : Tok T) (O : O_ship n T (V i)) (P : O_ship n T (V j)) : clP T V t i j ↔ clM T V t j i := by
  have a := pl_ok (t := t) hn hT O
  have b := pl_ok (t := t) hn hT P
  have o1 := O.2.1
  have p1 := P.2.1
  have ti := hT (V i 1).toNat (by omega)
  have tj := hT (V j 1).toNat (by omega)
  unfold clP clM spF paF
  by_cases g1 : t < V i 4
  · rw [if_pos g1, if_pos g1]
    by_cases g2 : t < V j 4
    · rw [if_pos g2, if_pos g2]; omega
    · rw [if_neg g2, if_neg g2]; omega
  · rw [if_neg g1, if_neg g1]
    by_cases g2 : t < V j 4
    · rw [if_pos g2, if_pos g2]; omega
    · rw [if_neg g2, if_neg g2]; omega
theorem c_cl_in (h : Bs ω) (hw : isW W) (h6n : cn ω W ≤ 6) (hT : Tok (cT ω W)) {K : Nat} (hK : ck ω W = (K : Int)) (h6 : K ≤ 6) (O : OV (cn ω W) (cT ω W) K (cV ω W)) {t : Int} (ht : 0 ≤ t ∧ t ≤ 1000) {i : Nat} (hi : i < K) : ∀ d j, j + d = K → ∀ o4 : Option am_V, ((∃ j', j ≤ j' ∧ j' < K ∧ clP (cT ω W) (cV ω W) t i j') → am_run (79, 0) 14 ([some (.inr (.inr W)), some (.inl t), some (.inl ((i : Int))), some (.inl ((j : Int))), o4], [], ω) = some (some (.inl 1), ω)) ∧ ((∀ j', j ≤ j' → j' < K → ¬ clP (cT ω W) (cV ω W) t i j') → ∃ o', am_run (79, 0) 14 ([some (.inr (.inr W)), some (.inl t), some (.inl ((i : Int))), some (.inl ((j : Int))), o4], [], ω) = am_run (79, 0) 2 ([some (.inr (.inr W)), some (.inl t), some (.inl (((i + 1 : Nat) : Int))), some (.inl ((K : Int))), o'], [], ω)) := by
  have hK' : am_get ω W.toNat 3 = (K : Int) := hK
  intro d
  induction d with
  | zero =>
    intro j hj o4
    obtain rfl : j = K := by omega
    refine ⟨fun ⟨j', h1, h2, _⟩ => by omega, fun _ => ⟨o4, ?_⟩⟩
    rw [pX5_isClashBehind_14 _ _ _ _ _ _ (w_is h hw), hK', if_pos (by omega), am_w_s (by omega) (by omega), show (i : Int) + 1 = ((i + 1 : Nat) : Int) by omega]
  | succ d ih =>
    intro j hj o4
    have s1 := c_spotBehind h hw h6n hT (is_V h hw (i := i) (by omega)) (O i hi) ht
    have s2 := c_spotBehind h hw h6n hT (is_V h hw (i := j) (by omega)) (O j (by omega)) ht
    have v0 : am_get ω (W + 4 + (i : Int)).toNat = cV ω W i := rfl
    have u0 : am_get ω (W + 4 + (j : Int)).toNat = cV ω W j := rfl
    rw [v0] at s1
    rw [u0] at s2
    have q := pX5_isClashBehind_14 W t i j o4 ω (w_is h hw)
    simp only [hK', if_neg (show ¬ (K : Int) ≤ (j : Int) by omega), w_S h hw, ina_S h hw (i := (i : Int)) (by omega) (by omega), ina_S h hw (i := (j : Int)) (by omega) (by omega), if_true, Int.toNat_natCast, w_V h hw (i := i) (by omega), w_V h hw (i := j) (by omega), s1, s2, am_bi_s, w_is h hw, am_w_s (z := (j : Int) + 1) (by omega) (by omega)] at q
    rw [show (j : Int) + 1 = ((j + 1 : Nat) : Int) by omega] at q
    obtain ⟨i1, i2⟩ := ih (j + 1) (by omega) (some (.inl (spF (cT ω W) (cV ω W i) t)))
    by_cases g : clP (cT ω W) (cV ω W) t i j
    · rw [if_neg g.1, if_neg (fun z => z g.2)] at q
      exact ⟨fun _ => q, fun z => absurd g (z j (by omega) (by omega))⟩
    · have q' : am_run (79, 0) 14 ([some (.inr (.inr W)), some (.inl t), some (.inl ((i : Int))), some (.inl ((j : Int))), o4], [], ω) = am_run (79, 0) 14 ([some (.inr (.inr W)), some (.inl t), some (.inl ((i : Int))), some (.inl (((j + 1 : Nat) : Int))), some (.inl (spF (cT ω W) (cV ω W i) t))], [], ω) := by
        rw [q]
        by_cases g1 : spF (cT ω W) (cV ω W i) t = -1
        · rw [if_pos g1]
        · rw [if_neg g1, if_pos (fun z => g ⟨g1, z⟩)]
      rw [q']
      refine ⟨fun ⟨j', h1, h2, h3⟩ => i1 ⟨j', ?_, h2, h3⟩, fun z => i2 (fun j' h1 h2 => z j' (by omega) h2)⟩
      by_cases e : j' = j
      · exact absurd (e ▸ h3) g
      · omega
theorem c_isClash (h : Bs ω) (hw : isW W) (h6n : cn ω W ≤ 6) (hT : Tok (cT ω W)) {K : Nat} (hK : ck ω W = (K : Int)) (h6 : K ≤ 6) (O : OV (cn ω W) (cT ω W) K (cV ω W)) {t : Int} (ht : 0 ≤ t ∧ t ≤ 1000) : am_run (79, 0) 0 ([some (.inr (.inr W)), some (.inl t), none, none, none], [], ω) = some (some (.inl (b01 (∃ i j, i < j ∧ j < K ∧ clP (cT ω W) (cV ω W) t i j))), ω) := by
  have hK' : am_get ω W.toNat 3 = (K : Int) := hK
  have lp : ∀ d i : Nat, i + d = K → ∀ o3 o4 : Option am_V, am_run (79, 0) 2 ([some (.inr (.inr W)), some (.inl t), some (.inl ((i : Int))), o3, o4], [], ω) = some (some (.inl (b01 (∃ i' j, i ≤ i' ∧ i' < j ∧ j < K ∧ clP (cT ω W) (cV ω W) t i' j))), ω) := by
    intro d
    induction d with
    | zero =>
      intro i hi o3 o4
      rw [pX5_isClashBehind_2 _ _ _ _ _ _ (w_is h hw), hK', if_pos (by omega), b01_neg (fun ⟨i', j, h1, h2, h3, _⟩ => by omega)]
    | succ d ih =>
      intro i hi o3 o4
      rw [pX5_isClashBehind_2 _ _ _ _ _ _ (w_is h hw), hK', if_neg (by omega), am_w_s (by omega) (by omega), show (i : Int) + 1 = ((i + 1 : Nat) : Int) by omega]
      obtain ⟨i1, i2⟩ := c_cl_in h hw h6n hT hK h6 O ht (i := i) (by omega) (K - (i + 1)) (i + 1) (by omega) o4
      by_cases g : ∃ j', i + 1 ≤ j' ∧ j' < K ∧ clP (cT ω W) (cV ω W) t i j'
      · rw [i1 g]
        obtain ⟨j', g1, g2, g3⟩ := g
        rw [b01_pos ⟨i, j', by omega, by omega, g2, g3⟩]
      · obtain ⟨o', ho⟩ := i2 (fun j' h1 h2 h3 => g ⟨j', h1, h2, h3⟩)
        rw [ho, ih (i + 1) (by omega)]
        congr 4
        refine b01_c ⟨fun ⟨i', j, h1, h2, h3, h4⟩ => ⟨i', j, by omega, h2, h3, h4⟩, fun ⟨i', j, h1, h2, h3, h4⟩ => ⟨i', j, ?_, h2, h3, h4⟩⟩
        by_cases e : i' = i
        · exact absurd ⟨j, by omega, h3, e ▸ h4⟩ g
        · omega
  refine (pX5_isClashBehind_0 W t ω).trans ((lp K 0 (by omega) none none).trans ?_)
  congr 4
  exact b01_c ⟨fun ⟨i', j, _, h2⟩ => ⟨i', j, h2⟩, fun ⟨i', j, h2⟩ => ⟨i', j, by omega, h2⟩⟩
theorem m_cl_in (h : Bs ω) (h6n : mn ω ≤ 6) (hT : Tok (mT ω)) {K : Nat} (h6 : K ≤ 6) (O : OV (mn ω) (mT ω) K (mV ω)) (l1 : Int) {t : Int} (ht : 0 ≤ t ∧ t ≤ 1000) {s : Nat} (hs : s < K) : ∀ d o, o + d = s → ((∃ o', o ≤ o' ∧ o' < s ∧ clM (mT ω) (mV ω) t s o') → am_run (217, 0) 37 ([some (.inr (.inr 53)), some (.inl l1), some (.inl t), some (.inl ((s : Int))), some (.inl ((o : Int)))], [], ω) = some (some (.inl t), ω)) ∧ ((∀ o', o ≤ o' → o' < s → ¬ clM (mT ω) (mV ω) t s o') → am_run (217, 0) 37 ([some (.inr (.inr 53)), some (.inl l1), some (.inl t), some (.inl ((s : Int))), some (.inl ((o : Int)))], [], ω) = am_run (217, 0) 26 ([some (.inr (.inr 53)), some (.inl l1), some (.inl t), some (.inl (((s + 1 : Nat) : Int))), some (.inl ((s : Int)))], [], ω)) := by
  intro d
  induction d with
  | zero =>
    intro o ho
    obtain rfl : o = s := by omega
    refine ⟨fun ⟨o', h1, h2, _⟩ => by omega, fun _ => ?_⟩
    rw [pX7_clash_37 _ _ _ _ _ _ (i_53 h), if_pos (by omega), am_w_s (by omega) (by omega), show (o : Int) + 1 = ((o + 1 : Nat) : Int) by omega]
  | succ d ih =>
    intro o ho
    have s1 := m_placeAt h h6n hT (i := s) (by omega) (O s hs) ht
    have s2 := m_placeAt h h6n hT (i := o) (by omega) (O o (by omega)) ht
    have y1 : am_get ω 60 s = mV ω s 1 := rfl
    have y2 : am_get ω 60 o = mV ω o 1 := rfl
    have q := pX7_clash_37 53 l1 t s o ω (i_53 h)
    simp only [if_neg (show ¬ (s : Int) ≤ (o : Int) by omega), am_bi_s, am_bl_s, am_ba_s, am_bv_s, Int.toNat_zero, Int.reduceToNat, Int.toNat_natCast, if_true, if_false, not_true, not_false_eq_true, Int.reduceEq, Int.reduceLT, Int.reduceLE, i_53 h, f_53_0 h, f_53_1 h, f_53_2 h, f_53_4 h, f_53_5 h, f_53_7 h, f_53_8 h, f_53_9 h, f_53_10 h, f_53_11 h, n_60 h (i := (s : Int)) (by omega) (by omega), n_60 h (i := (o : Int)) (by omega) (by omega), y1, y2, s1, s2, am_w_s (z := (o : Int) + 1) (by omega) (by omega)] at q
    rw [show (o : Int) + 1 = ((o + 1 : Nat) : Int) by omega] at q
    obtain ⟨i1, i2⟩ := ih (o + 1) (by omega)
    by_cases g : clM (mT ω) (mV ω) t s o
    · rw [if_neg (fun z => z g.1), if_neg g.2.1, if_neg (fun z => z g.2.2)] at q
      exact ⟨fun _ => q, fun z => absurd g (z o (by omega) (by omega))⟩
    · have q' : am_run (217, 0) 37 ([some (.inr (.inr 53)), some (.inl l1), some (.inl t), some (.inl ((s : Int))), some (.inl ((o : Int)))], [], ω) = am_run (217, 0) 37 ([some (.inr (.inr 53)), some (.inl l1), some (.inl t), some (.inl ((s : Int))), some (.inl (((o + 1 : Nat) : Int)))], [], ω) := by
        rw [q]
        by_cases g0 : mV ω s 1 = mV ω o 1
        · rw [if_neg (fun z => z g0)]
          by_cases g1 : paF (mT ω) (mV ω s) t = -1
          · rw [if_pos g1]
          · rw [if_neg g1, if_pos (fun z => g ⟨g0, g1, z⟩)]
        · rw [if_pos g0]
      rw [q']
      refine ⟨fun ⟨o', h1, h2, h3⟩ => i1 ⟨o', ?_, h2, h3⟩, fun z => i2 (fun o' h1 h2 => z o' (by omega) h2)⟩
      by_cases e : o' = o
      · exact absurd (e ▸ h3) g
      · omega
theorem m_cl_s (h : Bs ω) (h6n : mn ω ≤ 6) (hT : Tok (mT ω)) {K : Nat} (hK : mk ω = (K : Int)) (h6 : K ≤ 6) (O : OV (mn ω) (mT ω) K (mV ω)) (l1 : Int) {t : Int} (ht : 0 ≤ t ∧ t ≤ 1000) : ∀ d s, s + d = K → ∀ o4 : Option am_V, ((∃ s' o, s ≤ s' ∧ s' < K ∧ o < s' ∧ clM (mT ω) (mV ω) t s' o) → am_run (217, 0) 26 ([some (.inr (.inr 53)), some (.inl l1), some (.inl t), some (.inl ((s : Int))), o4], [], ω) = some (some (.inl t), ω)) ∧ ((¬ ∃ s' o, s ≤ s' ∧ s' < K ∧ o < s' ∧ clM (mT ω) (mV ω) t s' o) → ∃ o', am_run (217, 0) 26 ([some (.inr (.inr 53)), some (.inl l1), some (.inl t), some (.inl ((s : Int))), o4], [], ω) = am_run (217, 0) 19 ([some (.inr (.inr 53)), some (.inl l1), some (.inl (t + 1)), some (.inl ((K : Int))), o'], [], ω)) := by
  have hK' : am_get ω 53 6 = (K : Int) := hK
  intro d
  induction d with
  | zero =>
    intro s hs o4
    obtain rfl : s = K := by omega
    refine ⟨fun ⟨s', o, h1, h2, _⟩ => by omega, fun _ => ⟨o4, ?_⟩⟩
    rw [pX7_clash_26 _ _ _ _ _ _ (i_53 h)]
    simp only [Int.reduceToNat, hK']
    rw [if_pos (by omega), am_w_s (by omega) (by omega)]
  | succ d ih =>
    intro s hs o4
    obtain ⟨i1, i2⟩ := m_cl_in h h6n hT h6 O l1 ht (s := s) (by omega) s 0 (by omega)
    obtain ⟨k1, k2⟩ := ih (s + 1) (by omega) (some (.inl (s : Int)))
    have q := pX7_clash_26 53 l1 t s o4 ω (i_53 h)
    simp only [Int.reduceToNat, hK'] at q
    rw [if_neg (by omega)] at q
    by_cases g : ∃ o', 0 ≤ o' ∧ o' < s ∧ clM (mT ω) (mV ω) t s o'
    · refine ⟨fun _ => q.trans (i1 g), fun z => ?_⟩
      obtain ⟨o', _, h2, h3⟩ := g
      exact absurd ⟨s, o', by omega, by omega, h2, h3⟩ z
    · have r := q.trans (i2 (fun o' h1 h2 h3 => g ⟨o', h1, h2, h3⟩))
      refine ⟨fun ⟨s', o, h1, h2, h3, h4⟩ => r.trans (k1 ⟨s', o, ?_, h2, h3, h4⟩), fun z => ?_⟩
      · by_cases e : s' = s
        · exact absurd ⟨o, by omega, e ▸ h3, e ▸ h4⟩ g
        · omega
      · obtain ⟨o', ho⟩ := k2 (fun ⟨s', o, h1, h2⟩ => z ⟨s', o, by omega, h2⟩)
        exact ⟨o', r.trans ho⟩
theorem c_steps {v : Int} : am_run (144, 0) 0 ([some (.inl v)], [], ω) = some (some (.inl (b01 (0 ≤ v ∧ v ≤ 60))), ω) := by
  rw [pX6_areSteps_0]
  by_cases h1 : v < 0
  · rw [if_pos h1, b01_neg (by omega)]
  · rw [if_neg h1]
    by_cases h2 : 60 < v
    · rw [if_pos h2, b01_neg (by omega)]
    · rw [if_neg h2, b01_pos (by omega)]
theorem k_clash (h : Inv ω) (t : Int) : Pair 116 217 [some (.inr (.inr 0)), some (.inl t), none] [some (.inr (.inr 53)), some (.inl t), none, none, none] ω := by
  have h0 := h.1
  obtain ⟨e1, e2, e3, e4⟩ := inv_k h
  have b := fun k => rfz_bs (k := k) h0
  have p1 := pX6_clash_0 0 t ω
  simp only [am_bi_s, am_bl_s, am_ba_s, am_bv_s, Int.toNat_zero, Int.reduceToNat, Int.toNat_natCast, if_true, if_false, not_true, not_false_eq_true, Int.reduceEq, Int.reduceLT, Int.reduceLE, i_0 h0, i_1 h0, f_0_0 h0, f_0_3 h0, f_0_4 h0, f_1_1 h0, f_1_2 h0, f_1_4 h0, c_steps, c_r2 h0] at p1
  by_cases ht : 0 ≤ t ∧ t ≤ 60
  · obtain ⟨N, rfl⟩ : ∃ N : Nat, t = N := ⟨t.toNat, by omega⟩
    obtain ⟨K, hK⟩ : ∃ K : Nat, ck ω 1 = K := ⟨(ck ω 1).toNat, by omega⟩
    have O : OV (cn ω 1) (cT ω 1) K (cV ω 1) := fun i hi => by
      have := inv_O h (i := i) (by omega)
      rw [← V_at] at this
      exact this
    have mO : OV (mn ω) (mT ω) K (mV ω) := fun i hi => inv_mO h (by omega)
    rw [b01_pos ht] at p1
    simp only [am_bi_s, am_bl_s, am_ba_s, am_bv_s, Int.toNat_zero, Int.reduceToNat, Int.toNat_natCast, if_true, if_false, not_true, not_false_eq_true, Int.reduceEq, Int.reduceLT, Int.reduceLE] at p1
    have cl : ∀ d s : Nat, s + d = N + 1 → am_run (116, 0) 16 ([some (.inr (.inr 0)), some (.inl ((N : Int))), some (.inl ((s : Int)))], [], ω) = some (some (.inl (ff (fun s => ∃ i j, i < j ∧ j < K ∧ clP (cT ω 1) (cV ω 1) (s : Int) i j) s d)), ω) := by
      intro d
      induction d with
      | zero =>
        intro s hs
        rw [pX6_clash_16 _ _ _ _ (i_0 h0) (by simp only [Int.toNat_zero, f_0_0 h0]; exact i_1 h0), if_pos (by omega)]
        rfl
      | succ d ih =>
        intro s hs
        rw [pX6_clash_16 _ _ _ _ (i_0 h0) (by simp only [Int.toNat_zero, f_0_0 h0]; exact i_1 h0), if_neg (by omega)]
        simp only [am_bi_s, am_bl_s, am_ba_s, am_bv_s, Int.toNat_zero, Int.reduceToNat, Int.toNat_natCast, if_true, if_false, not_true, not_false_eq_true, Int.reduceEq, Int.reduceLT, Int.reduceLE, i_0 h0, i_1 h0, f_0_0 h0, f_0_3 h0, f_0_4 h0, f_1_1 h0, f_1_2 h0, f_1_4 h0, c_isClash h0 W1 e4.2 (inv_Tok h) hK (by omega) O (t := (s : Int)) (by omega), am_w_s (z := (s : Int) + 1) (by omega) (by omega)]
        by_cases g : ∃ i j, i < j ∧ j < K ∧ clP (cT ω 1) (cV ω 1) (s : Int) i j
        · rw [b01_pos g, if_neg (by omega), ff_y (p := fun s : Nat => ∃ i j, i < j ∧ j < K ∧ clP (cT ω 1) (cV ω 1) (s : Int) i j) g]
        · rw [b01_neg g, if_pos rfl, ff_n (p := fun s : Nat => ∃ i j, i < j ∧ j < K ∧ clP (cT ω 1) (cV ω 1) (s : Int) i j) g, ← ih (s + 1) (by omega)]
          rfl
    have ml : ∀ d s : Nat, s + d = N + 1 → ∀ o3 o4 : Option am_V, am_run (217, 0) 19 ([some (.inr (.inr 53)), some (.inl ((N : Int))), some (.inl ((s : Int))), o3, o4], [], ω) = some (some (.inl (ff (fun s => ∃ s' o, 0 ≤ s' ∧ s' < K ∧ o < s' ∧ clM (mT ω) (mV ω) (s : Int) s' o) s d)), ω) := by
      intro d
      induction d with
      | zero =>
        intro s hs o3 o4
        rw [pX7_clash_19, if_pos (by omega)]
        rfl
      | succ d ih =>
        intro s hs o3 o4
        obtain ⟨k1, k2⟩ := m_cl_s h0 (by rw [e2]; exact e4.2) (inv_mTok h) (K := K) (e1.trans hK) (by omega) mO (N : Int) (t := (s : Int)) (by omega) K 0 (by omega) o4
        rw [pX7_clash_19, if_neg (by omega)]
        by_cases g : ∃ s' o, 0 ≤ s' ∧ s' < K ∧ o < s' ∧ clM (mT ω) (mV ω) (s : Int) s' o
        · rw [ff_y (p := fun s : Nat => ∃ s' o, 0 ≤ s' ∧ s' < K ∧ o < s' ∧ clM (mT ω) (mV ω) (s : Int) s' o) g]
          exact k1 g
        · obtain ⟨o', ho⟩ := k2 g
          rw [ff_n (p := fun s : Nat => ∃ s' o, 0 ≤ s' ∧ s' < K ∧ o < s' ∧ clM (mT ω) (mV ω) (s : Int) s' o) g, ← ih (s + 1) (by omega) (some (.inl (K : Int))) o']
          exact ho
    have c0 := cl (N + 1) 0 (by omega)
    have m0 := ml (N + 1) 0 (by omega) none none
    have ee : ff (fun s => ∃ s' o, 0 ≤ s' ∧ s' < K ∧ o < s' ∧ clM (mT ω) (mV ω) (s : Int) s' o) 0 (N + 1) = ff (fun s => ∃ i j, i < j ∧ j < K ∧ clP (cT ω 1) (cV ω 1) (s : Int) i j) 0 (N + 1) := by
      refine ff_c _ _ (fun x _ _ => ?_)
      have key : ∀ i j, i < K → j < K → (clP (cT ω 1) (cV ω 1) (x : Int) i j ↔ clM (mT ω) (mV ω) (x : Int) j i) := fun i j hi hj => by
        rw [cl_eq e4.2 (inv_Tok h) (O i hi) (O j hj)]
        unfold clM
        have E := fun i (hi : i < K) => (fun f hf => (inv_V h (i := i) (f := f) (by omega) hf).symm : E5 (cV ω 1 i) (mV ω i))
        rw [pa_c e4.2 (O i hi) (E i hi) (inv_E6 h), pa_c e4.2 (O j hj) (E j hj) (inv_E6 h), E i hi 1 (by omega), E j hj 1 (by omega)]
      constructor
      · rintro ⟨s', o, _, h2, h3, h4⟩
        exact ⟨o, s', h3, h2, (key o s' (by omega) h2).mpr h4⟩
      · rintro ⟨i, j, h1, h2, h3⟩
        exact ⟨j, i, by omega, h2, h1, (key i j (by omega) h2).mp h3⟩
    rw [ee] at m0
    have p2 := pX7_clash_0 53 (N : Int) ω
    simp only [m_in1, b01_pos ht, am_bi_s, am_bl_s, am_ba_s, am_bv_s, Int.toNat_zero, Int.reduceToNat, Int.toNat_natCast, if_true, if_false, not_true, not_false_eq_true, Int.reduceEq, Int.reduceLT, Int.reduceLE] at p2
    exact pair_same h (p1.trans c0) (p2.trans m0)
  · rw [b01_neg ht] at p1
    simp only [am_bi_s, am_bl_s, am_ba_s, am_bv_s, Int.toNat_zero, Int.reduceToNat, Int.toNat_natCast, if_true, if_false, not_true, not_false_eq_true, Int.reduceEq, Int.reduceLT, Int.reduceLE] at p1
    refine pair_ref h 0 (by omega) p1 ?_
    rw [pX7_clash_0]
    simp only [m_in1, b01_neg ht, am_bi_s, am_bl_s, am_ba_s, am_bv_s, Int.toNat_zero, Int.reduceToNat, Int.toNat_natCast, if_true, if_false, not_true, not_false_eq_true, Int.reduceEq, Int.reduceLT, Int.reduceLE, i_53 (b 0), m_r2 (b 0)]
end K34
