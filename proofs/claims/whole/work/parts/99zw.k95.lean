/-! ===== the way: the table, the model ===== -/
section K95
variable {ω : am_W} {n : Int} {T C : Nat → Int} {K : Int} {i o g G : Nat} {u : Nat → Int}
def F7 (ω ω' : am_W) : Prop := Dc ω ω' ∧ ∀ a k, a ≠ 70 → a ≠ 71 → am_get ω' a k = am_get ω a k
theorem F7.rf : F7 ω ω := ⟨Dc.rf ω, fun _ _ _ _ => rfl⟩
theorem F7.tr {ω1 ω2 : am_W} (h : F7 ω ω1) (k : F7 ω1 ω2) : F7 ω ω2 := ⟨h.1.tr k.1, fun a j z y => (k.2 a j z y).trans (h.2 a j z y)⟩
theorem f7_0 (h : Bs ω) {k : Nat} {v : Int} : F7 ω (am_put ω 70 k v) := ⟨Dc.put (am_rp_at (bs_sh h (a := 70) rfl)), fun a j z _ => gp_cell z⟩
theorem f7_1 (h : Bs ω) {k : Nat} {v : Int} : F7 ω (am_put ω 71 k v) := ⟨Dc.put (am_rp_at (bs_sh h (a := 71) rfl)), fun a j _ z => gp_cell z⟩
/-- all that the model's way needs -/
def WS (ω : am_W) (i o : Nat) (n : Int) (T C : Nat → Int) (K : Int) (u : Nat → Int) (g G : Nat) : Prop := Bs ω ∧ MP ω i n T C K ∧ o < 6 ∧ E5 u (mV ω o) ∧ O_ship n T u ∧ spF T u (G : Int) = (g : Int) ∧ G ≤ 60
theorem WS.kp {ω' : am_W} (h : WS ω i o n T C K u g G) (f : F7 ω ω') : WS ω' i o n T C K u g G := by
  obtain ⟨h1, h2, h3, h4, h5, h6, h7⟩ := h
  exact ⟨h1.dc f.1, h2.kp (fun a k ha => f.2 a k (by omega) (by omega)), h3, fun j hj => (h4 j hj).trans (f.2 _ _ (by omega) (by omega)).symm, h5, h6, h7⟩
theorem AH_t (hc : Cht (cvd n T) (cok n C K) (ctg T) (cln T) (cpc n C K)) {k q b d : Nat} (hq : cvd n T q) : (((False ∨ AH n T C K g k q b 0 d) ∨ AH n T C K g k q b 1 d) ∨ AH n T C K g k q b 2 d) ↔ TgF n T C K g (k + 1) q b d := by
  by_cases gb : b = 0
  · subst gb
    rw [show TgF n T C K g (k + 1) q 0 d ↔ _ from BY_t (ch_l hc) hq]
    constructor
    · rintro (((z | ⟨z, _⟩ | ⟨_, z⟩) | ⟨z, _⟩ | ⟨_, z⟩) | ⟨z, _⟩ | ⟨_, z⟩)
      · exact z.elim
      · omega
      · exact ⟨0, by omega, z⟩
      · omega
      · exact ⟨1, by omega, z⟩
      · omega
      · exact ⟨2, by omega, z⟩
    · rintro ⟨x, hx, z⟩
      rcases (show x = 0 ∨ x = 1 ∨ x = 2 by omega) with rfl | rfl | rfl
      · exact Or.inl (Or.inl (Or.inr (Or.inr ⟨rfl, z⟩)))
      · exact Or.inl (Or.inr (Or.inr ⟨rfl, z⟩))
      · exact Or.inr (Or.inr ⟨rfl, z⟩)
  · constructor
    · rintro (((z | ⟨_, _, z⟩ | ⟨z, _⟩) | ⟨_, z, _⟩ | ⟨z, _⟩) | ⟨_, z, _⟩ | ⟨z, _⟩)
      · exact z.elim
      · exact Tg_s.mpr ⟨q, b - 1, 0, d, Or.inl ⟨by omega, rfl, by omega, rfl⟩, z, by omega⟩
      · exact absurd z gb
      · omega
      · exact absurd z gb
      · omega
      · exact absurd z gb
    · intro h
      obtain ⟨q', b', e, d', s, h2, h3⟩ := Tg_s.mp h
      rcases s with ⟨s1, rfl, s3, rfl⟩ | ⟨s1, _⟩
      · refine Or.inl (Or.inl (Or.inr (Or.inl ⟨by omega, rfl, ?_⟩)))
        rw [show b - 1 = b' by omega, show d = d' by omega]
        exact h2
      · exact absurd s1 gb
/-- one number of the table -/
theorem m_entry (w : WS ω i o n T C K u g G) {t c r b : Nat} (ht : t ≤ G) (L : t < G → LR n T C K g (G - t - 1) (am_get ω 70) (t + 1)) (hc : (c : Int) < n) (hr : (r : Int) < T c) (hb : b ≤ 10) {l3 : Int} {o10 o11 : Option am_V} : ∃ (v : Int) (o10' o11' : Option am_V), am_run (209, 0) 143 ([some (.inr (.inr 53)), some (.inl ((i : Int))), some (.inl ((o : Int))), some (.inl l3), some (.inl ((G : Int))), some (.inl (stf K)), some (.inl ((t : Int))), some (.inl ((c : Int))), some (.inl ((r : Int))), some (.inl ((b : Int))), o10, o11], [], ω) = am_run (209, 0) 143 ([some (.inr (.inr 53)), some (.inl ((i : Int))), some (.inl ((o : Int))), some (.inl l3), some (.inl ((G : Int))), some (.inl (stf K)), some (.inl ((t : Int))), some (.inl ((c : Int))), some (.inl ((r : Int))), some (.inl (((b + 1 : Nat) : Int))), o10', o11'], [], (am_put ω 70 (lfI t (c * 20 + r) b) v)) ∧ LT (fun d => TgF n T C K g (G - t) (c * 20 + r) b d) 10000 v := by
  obtain ⟨h, mp, o6, hu, O, hg, hG⟩ := w
  obtain ⟨on, oT, oC, oK, i6, e1, e2, e3, e4⟩ := id mp
  have hch := mp_c mp
  have tc := oT c (by omega)
  have hq : cvd n T (c * 20 + r) := by unfold cvd; rw [show (c * 20 + r) / 20 = c by omega, show (c * 20 + r) % 20 = r by omega]; exact ⟨hc, hr⟩
  have la := m_leftAt (ω := ω) (t := t) (c := c) (r := r) (b := b) (by omega) (by omega) (by omega) hb
  have lt : ((lfI t (c * 20 + r) b : Nat) : Int) < 80520 := Int.ofNat_lt.mpr (lfI_lt (by omega) (hch _ hq).1 hb)
  have n70 := n_70 h (Int.natCast_nonneg _) lt
  have b1 : ∀ _ : Unit, am_w ((b : Int) + 1) = ((b + 1 : Nat) : Int) := fun _ => (am_w_s (by omega) (by omega)).trans (by omega)
  have Q := pX7_way_143 53 i o l3 G (stf K) t c r b o10 o11 ω (i_53 h)
  rw [if_neg (by omega)] at Q
  by_cases gt : t = G
  · subst gt
    rw [if_neg (fun z => z rfl)] at Q
    have e6 : E6 T (mT ω) := fun j hj => (e2 j hj).symm
    have mO : O_ship (mn ω) (mT ω) (mV ω o) := by
      obtain ⟨p0, p1, p2, p3, p4⟩ := O
      rw [e1]
      rw [hu 0 (by omega)] at p0
      rw [hu 1 (by omega)] at p1 p2
      rw [hu 2 (by omega)] at p2
      rw [hu 3 (by omega)] at p3
      rw [hu 4 (by omega)] at p4
      refine ⟨p0, p1, ?_, p3, p4⟩
      rw [← e6 _ (by omega)]
      exact p2
    have pa := m_placeAt h (by rw [e1]; exact on.2) (fun j hj => by rw [e2 j hj]; exact oT j hj) o6 mO (t := (t : Int)) ⟨by omega, by omega⟩
    rw [← pa_c on.2 O hu e6] at pa
    have g4 : ¬ (t : Int) < u 4 := fun z => by
      unfold spF at hg
      rw [if_pos z] at hg
      omega
    have es : u 1 * 20 + plF T u (t : Int) = (g : Int) := by
      unfold spF at hg
      rw [if_neg g4] at hg
      exact hg
    have pl := pl_ok (t := (t : Int)) on.2 oT O
    have o1 := O.2.1
    have tt := oT (u 1).toNat (by omega)
    unfold paF at pa
    rw [if_neg g4] at pa
    have u1 : am_get ω 60 o = u 1 := (hu 1 (by omega)).symm
    have n60 := n_60 h (i := (o : Int)) (by omega) (by omega)
    have fail : ¬ (c * 20 + r = g ∧ b = 0) → LT (fun d => TgF n T C K g (t - t) (c * 20 + r) b d) 10000 10000 := by
      intro z
      rw [Nat.sub_self]
      exact LT_no (fun d y => z ⟨y.1, y.2.1⟩)
    by_cases gb : b = 0
    · rw [if_neg (by omega)] at Q
      simp only [am_bi_s, am_bl_s, am_ba_s, am_bv_s, Int.toNat_zero, Int.reduceToNat, Int.toNat_natCast, if_true, if_false, not_true, not_false_eq_true, Int.reduceEq, Int.reduceLT, Int.reduceLE, f_53_8 h, n60, u1, pa, i_53 h, la, f_53_27 h, n70, b1 ()] at Q
      by_cases gc : (c : Int) = u 1
      · rw [if_neg (fun z => z gc)] at Q
        by_cases gr : (r : Int) = plF T u (t : Int)
        · rw [if_neg (fun z => z gr)] at Q
          refine ⟨0, _, _, Q, ?_⟩
          rw [Nat.sub_self]
          exact Or.inr ⟨0, rfl, by omega, ⟨by omega, gb, rfl⟩, fun _ _ => Nat.zero_le _⟩
        · rw [if_pos gr] at Q
          exact ⟨10000, _, _, Q, fail (by omega)⟩
      · rw [if_pos gc] at Q
        exact ⟨10000, _, _, Q, fail (by omega)⟩
    · rw [if_pos (by omega)] at Q
      simp only [am_bi_s, am_bl_s, am_ba_s, am_bv_s, Int.toNat_zero, Int.reduceToNat, Int.toNat_natCast, if_true, if_false, not_true, not_false_eq_true, Int.reduceEq, Int.reduceLT, Int.reduceLE, la, f_53_27 h, n70, b1 ()] at Q
      exact ⟨10000, _, _, Q, fail (by omega)⟩
  · rw [if_pos (by omega)] at Q
    have L1 := L (by omega)
    obtain ⟨v0, r0, l0⟩ := m_ahead h mp (k := G - t - 1) (x := 0) (by omega) (by omega) L1 hc hr hb (by omega)
    obtain ⟨v1, r1, l1⟩ := m_ahead h mp (k := G - t - 1) (x := 1) (by omega) (by omega) L1 hc hr hb (by omega)
    obtain ⟨v2, r2, l2⟩ := m_ahead h mp (k := G - t - 1) (x := 2) (by omega) (by omega) L1 hc hr hb (by omega)
    have r0' : am_run (210, 0) 0 ([some (.inr (.inr 53)), some (.inl ((i : Int))), some (.inl ((t : Int))), some (.inl ((c : Int))), some (.inl ((r : Int))), some (.inl ((b : Int))), some (.inl 0), some (.inl (stf K)), none], [], ω) = _ := r0
    have r1' : am_run (210, 0) 0 ([some (.inr (.inr 53)), some (.inl ((i : Int))), some (.inl ((t : Int))), some (.inl ((c : Int))), some (.inl ((r : Int))), some (.inl ((b : Int))), some (.inl 1), some (.inl (stf K)), none], [], ω) = _ := r1
    have r2' : am_run (210, 0) 0 ([some (.inr (.inr 53)), some (.inl ((i : Int))), some (.inl ((t : Int))), some (.inl ((c : Int))), some (.inl ((r : Int))), some (.inl ((b : Int))), some (.inl 2), some (.inl (stf K)), none], [], ω) = _ := r2
    have w1 : ∀ _ : Unit, am_w ((0 : Int) + 1) = 1 := fun _ => am_w_s (by omega) (by omega)
    have w2 : ∀ _ : Unit, am_w ((1 : Int) + 1) = 2 := fun _ => am_w_s (by omega) (by omega)
    have w3 : ∀ _ : Unit, am_w ((2 : Int) + 1) = 3 := fun _ => am_w_s (by omega) (by omega)
    rw [pX7_way_199 _ _ _ _ _ _ _ _ _ _ _ _ _ (i_53 h), if_neg (by decide), bi_v r0', bi_v j_min, w1 (), pX7_way_199 _ _ _ _ _ _ _ _ _ _ _ _ _ (i_53 h), if_neg (by decide), bi_v r1', bi_v j_min, w2 (), pX7_way_199 _ _ _ _ _ _ _ _ _ _ _ _ _ (i_53 h), if_neg (by decide), bi_v r2', bi_v j_min, w3 (), pX7_way_199 _ _ _ _ _ _ _ _ _ _ _ _ _ (i_53 h), if_pos (by decide), bi_v la] at Q
    simp only [am_bi_s, am_bl_s, am_ba_s, am_bv_s, Int.toNat_zero, Int.reduceToNat, Int.toNat_natCast, if_true, if_false, not_true, not_false_eq_true, Int.reduceEq, Int.reduceLT, Int.reduceLE, f_53_27 h, n70, b1 ()] at Q
    refine ⟨_, _, _, Q, ?_⟩
    have z0 : LT (fun _ => False) 10000 10000 := LT_no (fun _ z => z)
    have a := LT_or (LT_or (LT_or z0 l0) l1) l2
    refine LT_c (fun d => ?_) a
    rw [show G - t = G - t - 1 + 1 by omega]
    exact AH_t hch hq
/-- the table: the rows behind t are there, and of row t the first D -/
def LB (n : Int) (T C : Nat → Int) (K : Int) (g G : Nat) (R : Nat → Int) (t D : Nat) : Prop := (∀ t', t < t' → t' ≤ G → LR n T C K g (G - t') R t') ∧ ∀ q b, cvd n T q → b ≤ 10 → q * 11 + b < D → LT (fun d => TgF n T C K g (G - t) q b d) 10000 (R (lfI t q b))
theorem LB.sk {R : Nat → Int} {t D E : Nat} (h : LB n T C K g G R t D) (s : ∀ q b, cvd n T q → b ≤ 10 → q * 11 + b < E → q * 11 + b < D) : LB n T C K g G R t E := ⟨h.1, fun q b hq hb z => h.2 q b hq hb (s q b hq hb z)⟩
theorem LB.put {t q b : Nat} {v : Int} (hch : Cht (cvd n T) (cok n C K) (ctg T) (cln T) (cpc n C K)) (h : LB n T C K g G (am_get ω 70) t (q * 11 + b)) (hq : cvd n T q) (hb : b ≤ 10) (l : LT (fun d => TgF n T C K g (G - t) q b d) 10000 v) : LB n T C K g G (am_get (am_put ω 70 (lfI t q b) v) 70) t (q * 11 + b + 1) := by
  have q1 := (hch q hq).1
  refine ⟨fun t' h1 h2 q' b' hq' hb' => ?_, fun q' b' hq' hb' z => ?_⟩
  · rw [gp_place (fun e => by have := (lfI_inj (hch q' hq').1 hb' q1 hb e).1; omega)]
    exact h.1 t' h1 h2 q' b' hq' hb'
  · by_cases y : lfI t q' b' = lfI t q b
    · obtain ⟨_, rfl, rfl⟩ := lfI_inj (hch q' hq').1 hb' q1 hb y
      rw [gp_same]
      exact l
    · rw [gp_place y]
      refine h.2 q' b' hq' hb' ?_
      unfold lfI at y
      omega
theorem m_wb (w : WS ω i o n T C K u g G) {t c r : Nat} (ht : t ≤ G) (hc : (c : Int) < n) (hr : (r : Int) < T c) {l3 : Int} : ∀ k b, b + k = 11 → ∀ ω1 (o10 o11 : Option am_V), F7 ω ω1 → LB n T C K g G (am_get ω1 70) t ((c * 20 + r) * 11 + b) → ∃ (ω2 : am_W) (o9' o10' o11' : Option am_V), am_run (209, 0) 143 ([some (.inr (.inr 53)), some (.inl ((i : Int))), some (.inl ((o : Int))), some (.inl l3), some (.inl ((G : Int))), some (.inl (stf K)), some (.inl ((t : Int))), some (.inl ((c : Int))), some (.inl ((r : Int))), some (.inl ((b : Int))), o10, o11], [], ω1) = am_run (209, 0) 128 ([some (.inr (.inr 53)), some (.inl ((i : Int))), some (.inl ((o : Int))), some (.inl l3), some (.inl ((G : Int))), some (.inl (stf K)), some (.inl ((t : Int))), some (.inl ((c : Int))), some (.inl (((r + 1 : Nat) : Int))), o9', o10', o11'], [], ω2) ∧ F7 ω ω2 ∧ LB n T C K g G (am_get ω2 70) t ((c * 20 + (r + 1)) * 11) := by
  have mp := w.2.1
  have hch := mp_c mp
  have tc := mp.2.1 c (by have := mp.1.2; omega)
  have hq : cvd n T (c * 20 + r) := by unfold cvd; rw [show (c * 20 + r) / 20 = c by omega, show (c * 20 + r) % 20 = r by omega]; exact ⟨hc, hr⟩
  intro k
  induction k with
  | zero =>
    intro b hb ω1 o10 o11 f B
    obtain rfl : b = 11 := by omega
    have Q := pX7_way_143 53 i o l3 G (stf K) t c r ((11 : Nat) : Int) o10 o11 ω1 (i_53 (w.kp f).1)
    rw [if_pos (by omega), am_w_s (by omega) (by omega), show (r : Int) + 1 = ((r + 1 : Nat) : Int) by omega] at Q
    exact ⟨ω1, _, _, _, Q, f, B.sk (fun q b _ _ z => by omega)⟩
  | succ k ih =>
    intro b hb ω1 o10 o11 f B
    have w1 := w.kp f
    obtain ⟨v, a1, a2, r2, l2⟩ := m_entry w1 ht (b := b) (fun z => by have := B.1 (t + 1) (by omega) (by omega); rw [show G - (t + 1) = G - t - 1 by omega] at this; exact this) hc hr (by omega) (l3 := l3) (o10 := o10) (o11 := o11)
    obtain ⟨ω3, b1, b2, b3, r3, rest⟩ := ih (b + 1) (by omega) _ a1 a2 (f.tr (f7_0 w1.1)) (B.put hch hq (by omega) l2)
    exact ⟨ω3, b1, b2, b3, r2.trans r3, rest⟩
theorem m_wr (w : WS ω i o n T C K u g G) {t c : Nat} (ht : t ≤ G) (hc : (c : Int) < n) {l3 : Int} : ∀ k r : Nat, ((r + k : Nat) : Int) = T c → ∀ ω1 (o9 o10 o11 : Option am_V), F7 ω ω1 → LB n T C K g G (am_get ω1 70) t ((c * 20 + r) * 11) → ∃ (ω2 : am_W) (o8' o9' o10' o11' : Option am_V), am_run (209, 0) 128 ([some (.inr (.inr 53)), some (.inl ((i : Int))), some (.inl ((o : Int))), some (.inl l3), some (.inl ((G : Int))), some (.inl (stf K)), some (.inl ((t : Int))), some (.inl ((c : Int))), some (.inl ((r : Int))), o9, o10, o11], [], ω1) = am_run (209, 0) 116 ([some (.inr (.inr 53)), some (.inl ((i : Int))), some (.inl ((o : Int))), some (.inl l3), some (.inl ((G : Int))), some (.inl (stf K)), some (.inl ((t : Int))), some (.inl (((c + 1 : Nat) : Int))), o8', o9', o10', o11'], [], ω2) ∧ F7 ω ω2 ∧ LB n T C K g G (am_get ω2 70) t ((c + 1) * 20 * 11) := by
  obtain ⟨on, oT, oC, oK, i6, e1, e2, e3, e4⟩ := id w.2.1
  have tc := oT c (by omega)
  intro k
  induction k with
  | zero =>
    intro r hr ω1 o9 o10 o11 f B
    have er : (r : Int) = T c := hr
    have B1 := (w.kp f).1
    have t57 : am_get ω1 57 c = T c := (f.2 57 c (by omega) (by omega)).trans (e2 c (by omega))
    have Q := pX7_way_128 53 i o l3 G (stf K) t c r o9 o10 o11 ω1 (i_53 B1)
    simp only [am_bi_s, am_bl_s, am_ba_s, am_bv_s, Int.toNat_zero, Int.reduceToNat, Int.toNat_natCast, if_true, if_false, not_true, not_false_eq_true, Int.reduceEq, Int.reduceLT, Int.reduceLE, f_53_4 B1, n_57 B1 (i := (c : Int)) (by omega) (by omega), t57, er, Int.le_refl] at Q
    rw [am_w_s (by omega) (by omega), show (c : Int) + 1 = ((c + 1 : Nat) : Int) by omega, ← er] at Q
    refine ⟨ω1, _, _, _, _, Q, f, B.sk (fun q b hq hb hE => ?_)⟩
    obtain ⟨z1, z2⟩ := hq
    by_cases y : q / 20 = c
    · rw [y] at z2; omega
    · omega
  | succ k ih =>
    intro r hr ω1 o9 o10 o11 f B
    have B1 := (w.kp f).1
    have rT : (r : Int) < T c := by omega
    have nT : ¬ T c ≤ (r : Int) := by omega
    have t57 : am_get ω1 57 c = T c := (f.2 57 c (by omega) (by omega)).trans (e2 c (by omega))
    have Q := pX7_way_128 53 i o l3 G (stf K) t c r o9 o10 o11 ω1 (i_53 B1)
    simp only [am_bi_s, am_bl_s, am_ba_s, am_bv_s, Int.toNat_zero, Int.reduceToNat, Int.toNat_natCast, if_true, if_false, not_true, not_false_eq_true, Int.reduceEq, Int.reduceLT, Int.reduceLE, f_53_4 B1, n_57 B1 (i := (c : Int)) (by omega) (by omega), t57, if_neg nT] at Q
    obtain ⟨ω2, a1, a2, a3, r2, f2, B2⟩ := m_wb w ht hc rT 11 0 (by omega) ω1 o10 o11 f B (l3 := l3)
    obtain ⟨ω3, b1, b2, b3, b4, r3, rest⟩ := ih (r + 1) (by omega) ω2 a1 a2 a3 f2 B2
    exact ⟨ω3, b1, b2, b3, b4, Q.trans (r2.trans r3), rest⟩
theorem m_wc (w : WS ω i o n T C K u g G) {t : Nat} (ht : t ≤ G) {l3 : Int} : ∀ k c : Nat, ((c + k : Nat) : Int) = n → ∀ ω1 (o8 o9 o10 o11 : Option am_V), F7 ω ω1 → LB n T C K g G (am_get ω1 70) t (c * 20 * 11) → ∃ (ω2 : am_W) (o7' o8' o9' o10' o11' : Option am_V), am_run (209, 0) 116 ([some (.inr (.inr 53)), some (.inl ((i : Int))), some (.inl ((o : Int))), some (.inl l3), some (.inl ((G : Int))), some (.inl (stf K)), some (.inl ((t : Int))), some (.inl ((c : Int))), o8, o9, o10, o11], [], ω1) = am_run (209, 0) 108 ([some (.inr (.inr 53)), some (.inl ((i : Int))), some (.inl ((o : Int))), some (.inl l3), some (.inl ((G : Int))), some (.inl (stf K)), some (.inl ((t : Int) - 1)), o7', o8', o9', o10', o11'], [], ω2) ∧ F7 ω ω2 ∧ LR n T C K g (G - t) (am_get ω2 70) t ∧ ∀ t', t < t' → t' ≤ G → LR n T C K g (G - t') (am_get ω2 70) t' := by
  obtain ⟨on, oT, oC, oK, i6, e1, e2, e3, e4⟩ := id w.2.1
  have hG := w.2.2.2.2.2.2
  intro k
  induction k with
  | zero =>
    intro c hc ω1 o8 o9 o10 o11 f B
    have ec : (c : Int) = n := hc
    have B1 := (w.kp f).1
    have n3 : am_get ω1 53 3 = n := (f.2 53 3 (by omega) (by omega)).trans e1
    have Q := pX7_way_116 53 i o l3 G (stf K) t c o8 o9 o10 o11 ω1 (i_53 B1)
    simp only [am_bi_s, am_bl_s, am_ba_s, am_bv_s, Int.toNat_zero, Int.reduceToNat, Int.toNat_natCast, if_true, if_false, not_true, not_false_eq_true, Int.reduceEq, Int.reduceLT, Int.reduceLE, n3, ec, Int.le_refl] at Q
    rw [am_w_s (by omega) (by omega), show (t : Int) + -1 = (t : Int) - 1 by omega] at Q
    refine ⟨ω1, _, _, _, _, _, by rw [ec]; exact Q, f, fun q b hq hb => B.2 q b hq hb ?_, B.1⟩
    obtain ⟨z1, z2⟩ := hq
    omega
  | succ k ih =>
    intro c hc ω1 o8 o9 o10 o11 f B
    have B1 := (w.kp f).1
    have cn1 : (c : Int) < n := by omega
    have nc : ¬ n ≤ (c : Int) := by omega
    have tc := oT c (by omega)
    have n3 : am_get ω1 53 3 = n := (f.2 53 3 (by omega) (by omega)).trans e1
    have Q := pX7_way_116 53 i o l3 G (stf K) t c o8 o9 o10 o11 ω1 (i_53 B1)
    simp only [am_bi_s, am_bl_s, am_ba_s, am_bv_s, Int.toNat_zero, Int.reduceToNat, Int.toNat_natCast, if_true, if_false, not_true, not_false_eq_true, Int.reduceEq, Int.reduceLT, Int.reduceLE, n3, if_neg nc] at Q
    obtain ⟨ω2, a1, a2, a3, a4, r2, f2, B2⟩ := m_wr w ht cn1 (T c).toNat 0 (by omega) ω1 o9 o10 o11 f (by rw [Nat.add_zero]; exact B) (l3 := l3)
    obtain ⟨ω3, b1, b2, b3, b4, b5, r3, rest⟩ := ih (c + 1) (by omega) ω2 a1 a2 a3 a4 f2 B2
    exact ⟨ω3, b1, b2, b3, b4, b5, Q.trans (r2.trans r3), rest⟩
/-- the whole table -/
theorem m_wt (w : WS ω i o n T C K u g G) {c r b : Nat} (v1 : mV ω i 1 = (c : Int)) (v2 : mV ω i 2 = (r : Int)) (v4 : mV ω i 4 = (b : Int)) {l3 : Int} : ∀ k : Nat, k ≤ G + 1 → ∀ ω1 (o7 o8 o9 o10 o11 : Option am_V), F7 ω ω1 → (∀ t', k ≤ t' → t' ≤ G → LR n T C K g (G - t') (am_get ω1 70) t') → ∃ (ω2 : am_W) (o10' o11' : Option am_V), am_run (209, 0) 108 ([some (.inr (.inr 53)), some (.inl ((i : Int))), some (.inl ((o : Int))), some (.inl l3), some (.inl ((G : Int))), some (.inl (stf K)), some (.inl ((k : Int) - 1)), o7, o8, o9, o10, o11], [], ω1) = am_run (209, 0) 304 ([some (.inr (.inr 53)), some (.inl ((i : Int))), some (.inl ((o : Int))), some (.inl l3), some (.inl ((G : Int))), some (.inl (stf K)), some (.inl ((c : Int))), some (.inl ((r : Int))), some (.inl ((b : Int))), some (.inl 0), o10', o11'], [], ω2) ∧ F7 ω ω2 ∧ ∀ t', t' ≤ G → LR n T C K g (G - t') (am_get ω2 70) t' := by
  obtain ⟨on, oT, oC, oK, i6, e1, e2, e3, e4⟩ := id w.2.1
  intro k
  induction k with
  | zero =>
    intro hk ω1 o7 o8 o9 o10 o11 f B
    have B1 := (w.kp f).1
    have x1 : am_get ω1 60 i = (c : Int) := (f.2 _ _ (by omega) (by omega)).trans v1
    have x2 : am_get ω1 61 i = (r : Int) := (f.2 _ _ (by omega) (by omega)).trans v2
    have x4 : am_get ω1 63 i = (b : Int) := (f.2 _ _ (by omega) (by omega)).trans v4
    have i0 : (0 : Int) ≤ (i : Int) := by omega
    have i6' : (i : Int) < 6 := by omega
    have Q := pX7_way_108 53 i o l3 G (stf K) (((0 : Nat) : Int) - 1) o7 o8 o9 o10 o11 ω1 (i_53 B1)
    rw [if_pos (by omega)] at Q
    simp only [am_bi_s, am_bl_s, am_ba_s, am_bv_s, Int.toNat_zero, Int.reduceToNat, Int.toNat_natCast, if_true, if_false, not_true, not_false_eq_true, Int.reduceEq, Int.reduceLT, Int.reduceLE, f_53_8 B1, f_53_9 B1, f_53_11 B1, n_60 B1 i0 i6', n_61 B1 i0 i6', n_63 B1 i0 i6', x1, x2, x4] at Q
    exact ⟨ω1, _, _, Q, f, fun t' h => B t' (by omega) h⟩
  | succ k ih =>
    intro hk ω1 o7 o8 o9 o10 o11 f B
    have B1 := (w.kp f).1
    have Q := pX7_way_108 53 i o l3 G (stf K) (((k + 1 : Nat) : Int) - 1) o7 o8 o9 o10 o11 ω1 (i_53 B1)
    rw [if_neg (by omega), show ((k + 1 : Nat) : Int) - 1 = (k : Int) by omega] at Q
    obtain ⟨ω2, a1, a2, a3, a4, a5, r2, f2, B2, B3⟩ := m_wc w (t := k) (by omega) n.toNat 0 (by omega) ω1 o8 o9 o10 o11 f ⟨fun t' h1 h2 => B t' (by omega) h2, fun q b _ _ z => by omega⟩ (l3 := l3)
    obtain ⟨ω3, b1, b2, r3, rest⟩ := ih (by omega) ω2 a1 a2 a3 a4 a5 f2 (fun t' h1 h2 => by
      by_cases z : t' = k
      · rw [z]; exact B2
      · exact B3 t' (by omega) h2)
    rw [show ((k + 1 : Nat) : Int) - 1 = (k : Int) by omega]
    exact ⟨ω3, b1, b2, Q.trans (r2.trans r3), rest⟩
end K95
