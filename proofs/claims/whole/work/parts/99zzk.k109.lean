/-! ===== world: the draft and the model's sky ===== -/
section K109
variable {ωc ωm : am_W} {L : Nat → Int} {n : Nat}
def SD (ωc ωm : am_W) : Prop := (∀ i, i < 6 → ∀ f, f < 5 → am_get ωm (59 + f) i = am_get ωc (27 + i) f) ∧ (∀ j, j < 6 → am_get ωm 57 j = am_get ωc 24 j) ∧ (∀ j, j < 5 → am_get ωm 58 j = am_get ωc 25 j) ∧ am_get ωm 53 3 = am_get ωc 23 0 ∧ am_get ωm 53 6 = am_get ωc 23 3 ∧ am_get ωm 53 12 = am_get ωc 23 5 ∧ am_get ωm 53 13 = am_get ωc 23 6 ∧ am_get ωm 53 14 = am_get ωc 23 7
theorem SD.kp {ωc' ωm' : am_W} (h : SD ωc ωm) (ec : ∀ a k, 23 ≤ a → a ≤ 32 → am_get ωc' a k = am_get ωc a k) (em : ∀ a k, (57 ≤ a ∧ a ≤ 63) ∨ (a = 53 ∧ k < 15) → am_get ωm' a k = am_get ωm a k) : SD ωc' ωm' := by
  obtain ⟨q1, q2, q3, q4, q5, q6, q7, q8⟩ := h
  exact ⟨fun i hi f hf => (em _ _ (by omega)).trans ((q1 i hi f hf).trans (ec _ _ (by omega) (by omega)).symm), fun j hj => (em _ _ (by omega)).trans ((q2 j hj).trans (ec _ _ (by omega) (by omega)).symm), fun j hj => (em _ _ (by omega)).trans ((q3 j hj).trans (ec _ _ (by omega) (by omega)).symm), (em _ _ (by omega)).trans (q4.trans (ec _ _ (by omega) (by omega)).symm), (em _ _ (by omega)).trans (q5.trans (ec _ _ (by omega) (by omega)).symm), (em _ _ (by omega)).trans (q6.trans (ec _ _ (by omega) (by omega)).symm), (em _ _ (by omega)).trans (q7.trans (ec _ _ (by omega) (by omega)).symm), (em _ _ (by omega)).trans (q8.trans (ec _ _ (by omega) (by omega)).symm)⟩
theorem SD.f {ωc' ωm' : am_W} (h : SD ωc ωm) (fc : F21 ωc ωc') (fm : F53 ωm ωm') : SD ωc' ωm' := h.kp (fun a k h1 h2 => fc.2 a k (by omega)) (fun a k z => fm.2 a k (by omega))
theorem osky_f {ωc' : am_W} (h : O_sky ωc.2.1 23) (ec : ∀ a k, 23 ≤ a → a ≤ 32 → am_get ωc' a k = am_get ωc a k) : O_sky ωc'.2.1 23 := osky_cp (m := ωc.2.1) (w := 23) (ec 23 0 (by omega) (by omega)) (ec 23 3 (by omega) (by omega)) (ec 23 6 (by omega) (by omega)) (fun j hj => ec 24 j (by omega) (by omega)) (fun j hj => ec 25 j (by omega) (by omega)) (fun i hi f hf => ec (23 + 4 + i) f (by omega) (by omega)) h
/-- what a statement may change -/
def Fc (ω ω' : am_W) : Prop := Dc ω ω' ∧ ∀ a k, ¬ (a = 21 ∧ 3 ≤ k) → ¬ (23 ≤ a ∧ a ≤ 32) → am_get ω' a k = am_get ω a k
def Fm (ω ω' : am_W) : Prop := Dc ω ω' ∧ ∀ a k, ¬ (57 ≤ a ∧ a ≤ 63) → ¬ (a = 53 ∧ (k = 3 ∨ k = 6 ∨ k = 12 ∨ k = 13 ∨ k = 14 ∨ (17 ≤ k ∧ k ≤ 20))) → am_get ω' a k = am_get ω a k
theorem Fc.tr {ω ω1 ω2 : am_W} (h : Fc ω ω1) (g : Fc ω1 ω2) : Fc ω ω2 := ⟨h.1.tr g.1, fun a k z y => (g.2 a k z y).trans (h.2 a k z y)⟩
theorem Fm.tr {ω ω1 ω2 : am_W} (h : Fm ω ω1) (g : Fm ω1 ω2) : Fm ω ω2 := ⟨h.1.tr g.1, fun a k z y => (g.2 a k z y).trans (h.2 a k z y)⟩
theorem F21.c {ω ω' : am_W} (h : F21 ω ω') : Fc ω ω' := ⟨h.1, fun a k z _ => h.2 a k z⟩
theorem F53.m {ω ω' : am_W} (h : F53 ω ω') : Fm ω ω' := ⟨h.1, fun a k _ z => h.2 a k (fun y => z ⟨y.1, by omega⟩)⟩
theorem CS.d {ω ω' : am_W} {s : Int} {b e : Nat} {f : Int} (h : CS ω L n s b e f) (d : Dc ω ω') (q : ∀ a k, a = 21 ∨ a = 22 → am_get ω' a k = am_get ω a k) : CS ω' L n s b e f := ⟨⟨h.1.1.dc d, h.1.2.1, (q _ _ (by omega)).trans h.1.2.2.1, fun j hj => (q _ _ (by omega)).trans (h.1.2.2.2 j hj)⟩, (q _ _ (by omega)).trans h.2.1, (q _ _ (by omega)).trans h.2.2.1, (q _ _ (by omega)).trans h.2.2.2.1, (q _ _ (by omega)).trans h.2.2.2.2⟩
theorem MA.d {ω ω' : am_W} (h : MA ω L n) (d : Dc ω ω') (q : ∀ a k, a = 64 ∨ (a = 53 ∧ 15 ≤ k ∧ k ≤ 20) → am_get ω' a k = am_get ω a k) : MA ω' L n := ⟨h.1.dc d, h.2.1, (q _ _ (by omega)).trans h.2.2.1, fun j hj => (q _ _ (by omega)).trans (h.2.2.2 j hj)⟩
/-- a statement that is told, or the same fault -/
def StR (L : Nat → Int) (n : Nat) (ωc ωm : am_W) (e : Nat) (rc rm : Option (Option am_V × am_W)) : Prop := (∃ (ωc' ωm' : am_W) (j' : Nat) (s' : Int) (b' e' : Nat), rc = some (none, ωc') ∧ rm = some (some (.inl 1), ωm') ∧ e ≤ j' ∧ Tk L n j' s' b' e' ∧ CS ωc' L n s' b' e' (-1) ∧ MT ωm' L n s' b' e' ∧ SD ωc' ωm' ∧ O_sky ωc'.2.1 23 ∧ am_get ωc 23 3 ≤ am_get ωc' 23 3 ∧ Fc ωc ωc' ∧ Fm ωm ωm') ∨ ∃ (ωc' ωm' : am_W) (f : Nat), rc = some (none, ωc') ∧ rm = some (some (.inl 0), ωm') ∧ am_get ωc' 21 6 = (f : Int) ∧ am_get ωm' 53 18 = (f : Int) ∧ Fc ωc ωc' ∧ Fm ωm ωm'
/-- what there is before a statement -/
def Pre (L : Nat → Int) (n : Nat) (ωc ωm : am_W) (s : Int) (b e : Nat) : Prop := CS ωc L n s b e (-1) ∧ MT ωm L n s b e ∧ SD ωc ωm ∧ O_sky ωc.2.1 23 ∧ b ≤ e ∧ e ≤ n
variable {s : Int} {b e : Nat}
abbrev Wd (L : Nat → Int) (s : Int) (b e k : Nat) : Prop := IsW L s b e (am_texts.getD k [])
theorem wd_x {k k' : Nat} (hk : k < 6) (hk' : k' < 6) (ne : k ≠ k') (h : Wd L s b e k) : ¬ Wd L s b e k' := by
  intro h'
  have D : ∀ k, k < 6 → ∀ k', k' < 6 → k ≠ k' → (am_texts.getD k []).length ≠ (am_texts.getD k' []).length ∨ ∃ i, i < 7 ∧ i < (am_texts.getD k []).length ∧ (am_texts.getD k []).getD i 0 ≠ (am_texts.getD k' []).getD i 0 := by decide
  obtain ⟨_, h2, h3⟩ := h
  obtain ⟨_, h2', h3'⟩ := h'
  rcases D k hk k' hk' ne with z | ⟨i, _, z1, z2⟩
  · omega
  · exact z2 ((h3 i z1).symm.trans (h3' i (by omega)))
/-- a fault at the word itself -/
theorem st_0 (h : Pre L n ωc ωm s b e) {rc rm : Option (Option am_V × am_W)} (hc : rc = some (none, am_put ωc 21 6 (b : Int))) (hm : rm = some (some (.inl 0), ωm)) : StR L n ωc ωm e rc rm := by
  obtain ⟨h1, h2, h3, h4, h5, h6⟩ := h
  exact Or.inr ⟨_, _, b, hc, hm, gp_same, h2.2.2.1, (f21_put h1.1.1 (by omega)).c, ⟨Dc.rf _, fun _ _ _ _ => rfl⟩⟩
/-- the model finds no statement -/
theorem m_39n (h : MT ωm L n s b e) (be : b ≤ e) (en : e ≤ n) (w1 : ¬ Wd L s b e 1) (w2 : ¬ Wd L s b e 2) (w5 : ¬ Wd L s b e 5) (w3 : ¬ Wd L s b e 3 ∨ 6 ≤ am_get ωm 53 6) : am_run (178, 0) 39 ([some (.inr (.inr 53)), none, none, none], [], ωm) = some (some (.inl 0), ωm) := by
  have B := h.1.1
  have q39 := pX7_statement_39 53 none none none ωm (i_53 B)
  rw [bi_v (m_isWord h be en (k := 1) (by omega)), b01_neg w1, if_pos rfl, if_pos (i_53 B), bi_v (m_isWord h be en (k := 2) (by omega)), b01_neg w2, if_pos rfl] at q39
  have q160 := pX7_statement_160 53 none none none ωm (i_53 B)
  rw [bi_v (m_isWord h be en (k := 5) (by omega)), b01_neg w5, if_pos rfl, if_pos (i_53 B), bi_v (m_isWord h be en (k := 3) (by omega))] at q160
  rw [q39, q160]
  by_cases g : Wd L s b e 3
  · rw [b01_pos g, if_neg (by omega), if_pos (i_53 B), show (53 : Int).toNat = 53 from rfl, if_pos (w3.resolve_left (fun z => z g))]
  · rw [b01_neg g, if_pos rfl]
theorem st_circles (h : Pre L n ωc ωm s b e) (w : Wd L s b e 0) : StR L n ωc ωm e (am_run (36, 0) 0 ([some (.inr (.inr 21)), none], [], ωc)) (am_run (178, 0) 0 ([some (.inr (.inr 53)), none, none, none], [], ωm)) := by
  obtain ⟨h1, h2, h3, h4, h5, h6⟩ := id h
  have B := h1.1.1
  have Bm := h2.1.1
  have sh : am_get ωm 53 6 = am_get ωc 23 3 := h3.2.2.2.2.1
  have k0 : 0 ≤ am_get ωc 23 3 ∧ am_get ωc 23 3 ≤ 6 := h4.2.1
  have Q := pX7_statement_0 53 ωm (i_53 Bm)
  rw [bi_v (m_isWord h2 h5 h6 (k := 0) (by omega)), b01_pos w, if_neg (by omega), if_pos (i_53 Bm)] at Q
  have q := pX3_readCircles_0 21 ωc (i_21 B) (by rw [show (21 : Int).toNat = 21 from rfl, f_21_2 B]; exact i_23 B)
  simp only [Int.reduceToNat, f_21_2 B, h1.2.2.1] at q
  rw [show (53 : Int).toNat = 53 from rfl, sh] at Q
  by_cases g : am_get ωc 23 3 ≤ 0
  · rw [if_neg (by omega)] at Q
    rw [if_pos g] at q
    obtain ⟨ωc1, s1, b1, e1, r1, T1, C1, f1⟩ := c_take1 h1 h6
    rw [bv_v r1, if_pos (i_21 C1.1.1)] at q
    rcases num_pair C1 h2.1 h2.2.1 T1 (lo := 2) (hi := 6) (by omega) (by omega) with ⟨v, ωc2, ωm2, s2, b2, e2, v1, v2, rc, rm, T2, C2, M2, v20, f2, fm2⟩ | ⟨ωm2, rc, rm, x18, fm2⟩
    · have B2 := C2.1.1
      have Bm2 := M2.1.1
      rw [bi_v rc, if_pos (i_21 B2), C2.2.2.2.2, if_neg (fun z => z rfl), f_21_2 B2, if_pos (i_23 B2), show (23 : Int).toNat = 23 from rfl] at q
      rw [bi_v rm, if_pos (by omega), if_pos (i_53 Bm2), v20] at Q
      have dm : Dc ωm2 (am_put ωm2 53 3 v) := Dc.put (am_rp_at (bs_sh Bm2 (a := 53) rfl))
      have dc : Dc ωc2 (am_put ωc2 23 0 v) := Dc.put (am_rp_at (bs_sh B2 (a := 23) rfl))
      have M3 := M2.1.d dm (fun a k z => if_neg (by omega))
      obtain ⟨ωm4, r4, M4, f4⟩ := m_next1 M3 ((gp_place (by omega)).trans M2.2.1) T2
      rw [bv_v r4] at Q
      have fc12 := f1.tr f2
      have ec : ∀ a k, 23 ≤ a → a ≤ 32 → am_get ωc2 a k = am_get ωc a k := fun a k z1 z2 => fc12.2 a k (by omega)
      have sd := h3.f fc12 fm2
      obtain ⟨q1, q2, q3, q4, q5, q6, q7, q8⟩ := sd
      left
      refine ⟨_, ωm4, e1, s2, b2, e2, q, Q, by have := T1.1; have := T1.2.2.2.2.2.1; omega, T2, C2.d dc (fun a k z => if_neg (by omega)), M4, ?_, ?_, ?_, fc12.c.tr ⟨dc, fun a k z1 z2 => if_neg (by omega)⟩, (fm2.m.tr ⟨dm, fun a k z1 z2 => if_neg (by omega)⟩).tr f4.m⟩
      · have em : ∀ a k, (57 ≤ a ∧ a ≤ 63) ∨ (a = 53 ∧ k < 15 ∧ k ≠ 3) → am_get ωm4 a k = am_get ωm2 a k := fun a k z => (f4.2 a k (by omega)).trans (if_neg (by omega))
        have eo : ∀ a k, ¬ (a = 23 ∧ k = 0) → am_get (am_put ωc2 23 0 v) a k = am_get ωc2 a k := fun a k z => if_neg z
        refine ⟨fun i hi f hf => (em _ _ (by omega)).trans ((q1 i hi f hf).trans (eo _ _ (by omega)).symm), fun j hj => (em _ _ (by omega)).trans ((q2 j hj).trans (eo _ _ (by omega)).symm), fun j hj => (em _ _ (by omega)).trans ((q3 j hj).trans (eo _ _ (by omega)).symm), ?_, (em _ _ (by omega)).trans (q5.trans (eo _ _ (by omega)).symm), (em _ _ (by omega)).trans (q6.trans (eo _ _ (by omega)).symm), (em _ _ (by omega)).trans (q7.trans (eo _ _ (by omega)).symm), (em _ _ (by omega)).trans (q8.trans (eo _ _ (by omega)).symm)⟩
        rw [f4.2 53 3 (by omega), gp_same, gp_same]
      · have o := osky_f h4 ec
        obtain ⟨o1, o2, o3, o4, o5, o6⟩ := o
        have g0 : (am_put ωc2 23 0 v).2.1 23 0 = v := gp_same
        have go : ∀ a k, ¬ (a = 23 ∧ k = 0) → (am_put ωc2 23 0 v).2.1 a k = ωc2.2.1 a k := fun a k z => if_neg z
        have z3 : ωc2.2.1 23 3 = am_get ωc 23 3 := ec 23 3 (by omega) (by omega)
        unfold O_sky
        rw [g0, go 23 3 (by omega), go 23 6 (by omega)]
        refine ⟨⟨v1, v2⟩, o2, fun j hj => ?_, fun j hj => ?_, fun i hi => ?_, o6⟩
        · rw [go (23 + 1) j (by omega)]; exact o3 j hj
        · rw [go (23 + 2) j (by omega)]; exact o4 j hj
        · omega
      · rw [gp_place (by omega), ec 23 3 (by omega) (by omega)]
        exact Int.le_refl _
    · have f6 := f21_put C1.1.1 (k := 6) (v := (b1 : Int)) (by omega)
      have B3 := C1.1.1.dc f6.1
      have k6 : ¬ am_get (am_put ωc1 21 6 (b1 : Int)) 21 6 = -1 := by rw [gp_same]; omega
      rw [bi_v rc, if_pos (i_21 B3), if_pos k6] at q
      rw [bi_v rm, if_neg (fun z => z rfl)] at Q
      exact Or.inr ⟨_, _, b1, q, Q, gp_same, x18, (f1.tr f6).c, fm2.m⟩
  · rw [if_pos (by omega)] at Q
    rw [if_neg g] at q
    exact st_0 h q (Q.trans (m_39n h2 h5 h6 (wd_x (by omega) (by omega) (by omega) w) (wd_x (by omega) (by omega) (by omega) w) (wd_x (by omega) (by omega) (by omega) w) (Or.inl (wd_x (by omega) (by omega) (by omega) w))))
end K109
