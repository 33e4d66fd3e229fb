/-! ===== the way: the codes, the model ===== -/
section K96
variable {ω : am_W} {n : Int} {T C : Nat → Int} {K : Int} {i o g G : Nat} {u : Nat → Int}
noncomputable abbrev AnF (n : Int) (T C : Nat → Int) (K : Int) (g k q b j : Nat) : Nat := An (cok n C K) (ctg T) (cln T) (cpc n C K) g k q b j
/-- where code x leads to -/
def Nx (n : Int) (T : Nat → Int) (c r b x c' r' b' : Nat) : Prop := (c' : Int) < n ∧ (r' : Int) < T c' ∧ ((0 < b ∧ x = 0 ∧ c' * 20 + r' = c * 20 + r ∧ b' + 1 = b) ∨ (b = 0 ∧ c' * 20 + r' = ctg T x (c * 20 + r) ∧ b' + 1 = cln T x (c * 20 + r)))
theorem m_387 (h : Bs ω) (mp : MP ω i n T C K) {t c r c' : Nat} (ht : t < 60) (hc : (c : Int) < n) (hr : (r : Int) < T c) (hc' : (c' : Int) < n) {l2 l3 l4 l5 l10 : Int} {o11 : Option am_V} : ∃ o11' : Option am_V, am_run (209, 0) 387 ([some (.inr (.inr 53)), some (.inl ((i : Int))), some (.inl l2), some (.inl l3), some (.inl l4), some (.inl l5), some (.inl ((c : Int))), some (.inl ((r : Int))), some (.inl 0), some (.inl ((t : Int))), some (.inl l10), o11], [(.inl ((c' : Int)))], ω) = am_run (209, 0) 304 ([some (.inr (.inr 53)), some (.inl ((i : Int))), some (.inl l2), some (.inl l3), some (.inl l4), some (.inl l5), some (.inl ((c' : Int))), some (.inl ((((fL (r : Int) (T c) (T c')).toNat : Nat) : Int))), some (.inl ((((T c / 2).toNat - 1 : Nat) : Int))), some (.inl (((t + 1 : Nat) : Int))), some (.inl l10), o11'], [], ω) := by
  obtain ⟨on, oT, oC, oK, i6, e1, e2, e3, e4⟩ := id mp
  have tc := oT c (by omega)
  have tn := oT c' (by omega)
  have fl := fL_ok (p := (r : Int)) (a := T c) tn.1
  have ac := m_across h (by rw [e1]; exact on.2) (fun j hj => by rw [e2 j hj]; exact oT j hj) (c := (c : Int)) (p := (r : Int)) (t := (c' : Int)) (by rw [e1]; omega) (by rw [e1]; omega) (by omega)
  rw [Int.toNat_natCast, Int.toNat_natCast, e2 _ (by omega), e2 _ (by omega)] at ac
  have ef : fL (r : Int) (T c) (T c') = (((fL (r : Int) (T c) (T c')).toNat : Nat) : Int) := by omega
  have hh := m_halfOf (ω := ω) tc
  have eb : ∀ _ : Unit, am_w (T c / 2 - 1) = (((T c / 2).toNat - 1 : Nat) : Int) := fun _ => (am_w_s (by omega) (by omega)).trans (by omega)
  have t1 : ∀ _ : Unit, am_w ((t : Int) + 1) = ((t + 1 : Nat) : Int) := fun _ => (am_w_s (by omega) (by omega)).trans (by omega)
  have t57 : am_get ω 57 c = T c := e2 c (by omega)
  have Q := pX7_way_387 53 i l2 l3 l4 l5 c r 0 t l10 c' o11 ω (i_53 h)
  rw [bi_v ac, if_pos (i_53 h), ef] at Q
  simp only [am_bi_s, am_bl_s, am_ba_s, am_bv_s, Int.toNat_zero, Int.reduceToNat, Int.toNat_natCast, if_true, if_false, not_true, not_false_eq_true, Int.reduceEq, Int.reduceLT, Int.reduceLE, f_53_4 h, n_57 h (i := (c : Int)) (by omega) (by omega), t57, hh, eb (), t1 ()] at Q
  exact ⟨_, Q⟩
/-- code x is taken, or the next is looked at -/
theorem m_314 (w : WS ω i o n T C K u g G) {k t c r b x : Nat} (hk : t + (k + 1) = G) (L : ∀ t', t' ≤ G → LR n T C K g (G - t') (am_get ω 70) t') (hc : (c : Int) < n) (hr : (r : Int) < T c) (hb : b ≤ 10) (hx : x < 3) (e : ∃ d, TgF n T C K g (k + 1) (c * 20 + r) b d) {l3 : Int} {o11 : Option am_V} : ((∃ d, AH n T C K g k (c * 20 + r) b x d ∧ ∀ d', TgF n T C K g (k + 1) (c * 20 + r) b d' → d ≤ d') → ∃ (c' r' b' : Nat) (o11' : Option am_V), am_run (209, 0) 314 ([some (.inr (.inr 53)), some (.inl ((i : Int))), some (.inl ((o : Int))), some (.inl l3), some (.inl ((G : Int))), some (.inl (stf K)), some (.inl ((c : Int))), some (.inl ((r : Int))), some (.inl ((b : Int))), some (.inl ((t : Int))), some (.inl ((x : Int))), o11], [], ω) = am_run (209, 0) 304 ([some (.inr (.inr 53)), some (.inl ((i : Int))), some (.inl ((o : Int))), some (.inl l3), some (.inl ((G : Int))), some (.inl (stf K)), some (.inl ((c' : Int))), some (.inl ((r' : Int))), some (.inl ((b' : Int))), some (.inl (((t + 1 : Nat) : Int))), some (.inl ((x : Int))), o11'], [], (am_put ω 71 t (x : Int))) ∧ Nx n T c r b x c' r' b') ∧ ((¬ ∃ d, AH n T C K g k (c * 20 + r) b x d ∧ ∀ d', TgF n T C K g (k + 1) (c * 20 + r) b d' → d ≤ d') → am_run (209, 0) 314 ([some (.inr (.inr 53)), some (.inl ((i : Int))), some (.inl ((o : Int))), some (.inl l3), some (.inl ((G : Int))), some (.inl (stf K)), some (.inl ((c : Int))), some (.inl ((r : Int))), some (.inl ((b : Int))), some (.inl ((t : Int))), some (.inl ((x : Int))), o11], [], ω) = am_run (209, 0) 314 ([some (.inr (.inr 53)), some (.inl ((i : Int))), some (.inl ((o : Int))), some (.inl l3), some (.inl ((G : Int))), some (.inl (stf K)), some (.inl ((c : Int))), some (.inl ((r : Int))), some (.inl ((b : Int))), some (.inl ((t : Int))), some (.inl (((x + 1 : Nat) : Int))), o11], [], ω)) := by
  have w1 := w.kp (f7_1 w.1 (k := t) (v := (x : Int)))
  obtain ⟨h, mp, o6, hu, O, hg, hG⟩ := w
  obtain ⟨on, oT, oC, oK, i6, e1, e2, e3, e4⟩ := id mp
  have hch := mp_c mp
  have tc := oT c (by omega)
  have hq : cvd n T (c * 20 + r) := by unfold cvd; rw [show (c * 20 + r) / 20 = c by omega, show (c * 20 + r) % 20 = r by omega]; exact ⟨hc, hr⟩
  have la := m_leftAt (ω := ω) (t := t) (c := c) (r := r) (b := b) (by omega) (by omega) (by omega) hb
  have lt : ((lfI t (c * 20 + r) b : Nat) : Int) < 80520 := Int.ofNat_lt.mpr (lfI_lt (by omega) (hch _ hq).1 hb)
  have n70 := n_70 h (Int.natCast_nonneg _) lt
  have L1 := L (t + 1) (by omega)
  have L0 := L t (by omega) (c * 20 + r) b hq hb
  rw [show G - (t + 1) = k by omega] at L1
  rw [show G - t = k + 1 by omega] at L0
  obtain ⟨v, r0, l0⟩ := m_ahead h mp (k := k) (x := x) (by omega) (by omega) L1 hc hr hb hx
  have iff := LT_eq (fun d hd => (AH_t (g := g) (k := k) (b := b) (d := d) hch hq).mp (by
    rcases (show x = 0 ∨ x = 1 ∨ x = 2 by omega) with rfl | rfl | rfl
    · exact Or.inl (Or.inl (Or.inr hd))
    · exact Or.inl (Or.inr hd)
    · exact Or.inr hd)) l0 L0 e
  have x1 : ∀ _ : Unit, am_w ((x : Int) + 1) = ((x + 1 : Nat) : Int) := fun _ => (am_w_s (by omega) (by omega)).trans (by omega)
  have t1 : ∀ _ : Unit, am_w ((t : Int) + 1) = ((t + 1 : Nat) : Int) := fun _ => (am_w_s (by omega) (by omega)).trans (by omega)
  have Q := pX7_way_314 53 i o l3 G (stf K) c r b t x o11 ω (i_53 h)
  rw [bi_v r0, if_pos (i_53 h), bi_v la] at Q
  simp only [am_bi_s, am_bl_s, am_ba_s, am_bv_s, Int.toNat_zero, Int.reduceToNat, Int.toNat_natCast, if_true, if_false, not_true, not_false_eq_true, Int.reduceEq, Int.reduceLT, Int.reduceLE, f_53_27 h, n70] at Q
  refine ⟨fun z => ?_, fun z => ?_⟩
  · obtain ⟨d, hd, _⟩ := id z
    rw [if_pos (iff.mpr z)] at Q
    simp only [i_53 h, f_53_28 h, n_71 h (i := (t : Int)) (by omega) (by omega), am_bi_s, am_bl_s, am_ba_s, am_bv_s, Int.toNat_zero, Int.reduceToNat, Int.toNat_natCast, if_true, if_false, not_true, not_false_eq_true, Int.reduceEq, Int.reduceLT, Int.reduceLE] at Q
    have B1 := w1.1
    have mp1 := w1.2.1
    obtain ⟨_, _, _, _, _, e1', e2', e3', e4'⟩ := id mp1
    have t57 : am_get (am_put ω 71 t (x : Int)) 57 c = T c := e2' c (by omega)
    have tc0 : ¬ T c = 0 := by omega
    have n57 := n_57 B1 (i := (c : Int)) (by omega) (by omega)
    by_cases gx : x = 0
    · subst gx
      rw [if_pos (by omega)] at Q
      by_cases gb : b = 0
      · subst gb
        obtain ⟨v1, v2, v3⟩ := mv_0 (n := n) (C := C) (K := K) oT (c := c) (by omega) hr
        have m0 := Int.emod_nonneg ((r : Int) + 1) (show T c ≠ 0 by omega)
        have m2 := Int.emod_lt_of_pos ((r : Int) + 1) (show 0 < T c by omega)
        have rm : ∀ _ : Unit, (am_w ((r : Int) + 1)).tmod (T c) = (((((r : Int) + 1) % T c).toNat : Nat) : Int) := fun _ => by
          rw [am_w_s (by omega) (by omega), Int.tmod_eq_emod_of_nonneg (by omega)]
          omega
        rw [if_pos (by omega)] at Q
        simp only [am_bi_s, am_bl_s, am_ba_s, am_bv_s, Int.toNat_zero, Int.reduceToNat, Int.toNat_natCast, if_true, if_false, not_true, not_false_eq_true, Int.reduceEq, Int.reduceLT, Int.reduceLE, f_53_4 B1, n57, t57, if_neg tc0, rm (), t1 ()] at Q
        exact ⟨c, _, 0, _, Q, hc, by omega, Or.inr ⟨rfl, v1.symm, v2.symm⟩⟩
      · have bw : ∀ _ : Unit, am_w ((b : Int) + -1) = ((b - 1 : Nat) : Int) := fun _ => (am_w_s (by omega) (by omega)).trans (by omega)
        rw [if_neg (by omega), bw (), t1 ()] at Q
        exact ⟨c, r, b - 1, _, Q, hc, hr, Or.inl ⟨by omega, rfl, rfl, by omega⟩⟩
    · rw [if_neg (by omega)] at Q
      rcases hd with ⟨_, y, _⟩ | ⟨gb, y, _⟩
      · exact absurd y gx
      · subst gb
        rcases (show x = 1 ∨ x = 2 by omega) with rfl | rfl
        · have hs := (ok_1 (K := K) on.2 oC (r := r) (by omega)).mp y
          obtain ⟨u1, u2, u3⟩ := mv_1 (K := K) on.2 oT oC hs.2 hr
          have tn := oT (c + 1) (by omega)
          have fl := fL_ok (p := (r : Int)) (a := T c) tn.1
          have c1 : ∀ _ : Unit, am_w ((c : Int) + 1) = ((c + 1 : Nat) : Int) := fun _ => (am_w_s (by omega) (by omega)).trans (by omega)
          rw [if_neg (fun y => y rfl), c1 ()] at Q
          obtain ⟨o', r3⟩ := m_387 B1 mp1 (t := t) (c := c) (r := r) (c' := c + 1) (by omega) hc hr (by omega) (l2 := (o : Int)) (l3 := l3) (l4 := (G : Int)) (l5 := stf K) (l10 := ((1 : Nat) : Int)) (o11 := o11)
          exact ⟨c + 1, _, _, _, Q.trans r3, by omega, by omega, Or.inr ⟨rfl, u1.symm, by rw [u2]; omega⟩⟩
        · have hs := (ok_2 (K := K) on.2 oC (r := r) (by omega) hc).mp y
          obtain ⟨u1, u2, u3⟩ := mv_2 (K := K) on.2 oT oC hs.2 hc hr
          have tn := oT (c - 1) (by omega)
          have fl := fL_ok (p := (r : Int)) (a := T c) tn.1
          have c1 : ∀ _ : Unit, am_w ((c : Int) - 1) = ((c - 1 : Nat) : Int) := fun _ => (am_w_s (by omega) (by omega)).trans (by omega)
          rw [if_pos (by omega), c1 ()] at Q
          obtain ⟨o', r3⟩ := m_387 B1 mp1 (t := t) (c := c) (r := r) (c' := c - 1) (by omega) hc hr (by omega) (l2 := (o : Int)) (l3 := l3) (l4 := (G : Int)) (l5 := stf K) (l10 := ((2 : Nat) : Int)) (o11 := o11)
          exact ⟨c - 1, _, _, _, Q.trans r3, by omega, by omega, Or.inr ⟨rfl, u1.symm, by rw [u2]; omega⟩⟩
  · rw [if_neg (fun y => z (iff.mp y)), x1 ()] at Q
    exact Q
/-- one code of the way -/
theorem m_code (w : WS ω i o n T C K u g G) {k t c r b : Nat} (hk : t + (k + 1) = G) (L : ∀ t', t' ≤ G → LR n T C K g (G - t') (am_get ω 70) t') (hc : (c : Int) < n) (hr : (r : Int) < T c) (hb : b ≤ 10) (e : ∃ d, TgF n T C K g (k + 1) (c * 20 + r) b d) {l3 : Int} {o11 : Option am_V} : ∃ (c' r' b' x : Nat) (o11' : Option am_V), am_run (209, 0) 314 ([some (.inr (.inr 53)), some (.inl ((i : Int))), some (.inl ((o : Int))), some (.inl l3), some (.inl ((G : Int))), some (.inl (stf K)), some (.inl ((c : Int))), some (.inl ((r : Int))), some (.inl ((b : Int))), some (.inl ((t : Int))), some (.inl 0), o11], [], ω) = am_run (209, 0) 304 ([some (.inr (.inr 53)), some (.inl ((i : Int))), some (.inl ((o : Int))), some (.inl l3), some (.inl ((G : Int))), some (.inl (stf K)), some (.inl ((c' : Int))), some (.inl ((r' : Int))), some (.inl ((b' : Int))), some (.inl (((t + 1 : Nat) : Int))), some (.inl ((x : Int))), o11'], [], (am_put ω 71 t (x : Int))) ∧ Nx n T c r b x c' r' b' ∧ (x = if 0 < b then 0 else fb (cok n C K) (ctg T) (cln T) (cpc n C K) g k (c * 20 + r)) ∧ ∃ d, TgF n T C K g k (c' * 20 + r') b' d := by
  have mp := w.2.1
  have hch := mp_c mp
  have tc := mp.2.1 c (by have := mp.1.2; omega)
  have hq : cvd n T (c * 20 + r) := by unfold cvd; rw [show (c * 20 + r) / 20 = c by omega, show (c * 20 + r) % 20 = r by omega]; exact ⟨hc, hr⟩
  have one := fun x (hx : x < 3) => m_314 w hk L hc hr hb hx e (l3 := l3) (o11 := o11)
  have z0 := one 0 (by omega)
  have z1 := one 1 (by omega)
  have z2 := one 2 (by omega)
  by_cases gb : 0 < b
  · have hyp : ∃ d, AH n T C K g k (c * 20 + r) b 0 d ∧ ∀ d', TgF n T C K g (k + 1) (c * 20 + r) b d' → d ≤ d' := by
      obtain ⟨d, hd⟩ := e
      have key : ∀ N d, d ≤ N → TgF n T C K g (k + 1) (c * 20 + r) b d → ∃ d0, TgF n T C K g (k + 1) (c * 20 + r) b d0 ∧ ∀ d', TgF n T C K g (k + 1) (c * 20 + r) b d' → d0 ≤ d' := by
        intro N
        induction N with
        | zero => intro d hd hT; exact ⟨d, hT, fun d' _ => by omega⟩
        | succ N ih =>
          intro d hd hT
          by_cases z : ∃ d', d' ≤ N ∧ TgF n T C K g (k + 1) (c * 20 + r) b d'
          · obtain ⟨d', z1, z2⟩ := z
            exact ih d' z1 z2
          · exact ⟨d, hT, fun d' hd' => Nat.le_of_not_lt fun y => z ⟨d', by omega, hd'⟩⟩
      obtain ⟨d0, h0, hm⟩ := key d d (Nat.le_refl _) hd
      refine ⟨d0, ?_, hm⟩
      rcases (AH_t hch hq).mpr h0 with ((z | z) | ⟨_, z, _⟩ | ⟨z, _⟩) | ⟨_, z, _⟩ | ⟨z, _⟩
      · exact z.elim
      · exact z
      · omega
      · omega
      · omega
      · omega
    obtain ⟨c', r', b', o', r3, nx⟩ := z0.1 hyp
    refine ⟨c', r', b', 0, o', r3, nx, by rw [if_pos gb], ?_⟩
    obtain ⟨_, _, ⟨_, _, n3, n4⟩ | ⟨n1, _⟩⟩ := nx
    · obtain ⟨d, ⟨_, _, y⟩ | ⟨y, _⟩, _⟩ := hyp
      · rw [n3, show b' = b - 1 by omega]
        exact ⟨d, y⟩
      · omega
    · omega
  · obtain rfl : b = 0 := by omega
    obtain ⟨f3, f1, f2⟩ := fb_ok (ch_l hch) hq e
    have cv : ∀ x, bst (cok n C K) (ctg T) (cln T) (cpc n C K) g k (c * 20 + r) x ↔ ∃ d, AH n T C K g k (c * 20 + r) 0 x d ∧ ∀ d', TgF n T C K g (k + 1) (c * 20 + r) 0 d' → d ≤ d' := by
      intro x
      constructor
      · rintro ⟨d, y1, y2⟩
        exact ⟨d, Or.inr ⟨rfl, y1⟩, y2⟩
      · rintro ⟨d, y1, y2⟩
        exact ⟨d, y1.elim (fun y => absurd y.1 (Nat.lt_irrefl 0)) (fun y => y.2), y2⟩
    have go : ∀ x c' r' b', bst (cok n C K) (ctg T) (cln T) (cpc n C K) g k (c * 20 + r) x → Nx n T c r 0 x c' r' b' → ∃ d, TgF n T C K g k (c' * 20 + r') b' d := by
      intro x c' r' b' hbx nx
      obtain ⟨_, d, hd⟩ := bst_n hbx
      obtain ⟨_, _, ⟨y, _⟩ | ⟨_, n3, n4⟩⟩ := nx
      · omega
      · rw [n3, show b' = cln T x (c * 20 + r) - 1 by omega]
        exact ⟨d, hd⟩
    obtain ⟨x, hx⟩ : ∃ x, x = fb (cok n C K) (ctg T) (cln T) (cpc n C K) g k (c * 20 + r) := ⟨_, rfl⟩
    rw [← hx] at f1 f2 f3
    rw [if_neg gb, ← hx]
    rcases (show x = 0 ∨ x = 1 ∨ x = 2 by omega) with y | y | y
    · rw [y] at f1 f2 ⊢
      obtain ⟨c', r', b', o', r3, nx⟩ := z0.1 ((cv 0).mp f1)
      exact ⟨c', r', b', 0, o', r3, nx, rfl, go _ _ _ _ f1 nx⟩
    · rw [y] at f1 f2 ⊢
      obtain ⟨c', r', b', o', r3, nx⟩ := z1.1 ((cv 1).mp f1)
      exact ⟨c', r', b', 1, o', (z0.2 (fun q => f2 0 (by omega) ((cv 0).mpr q))).trans r3, nx, rfl, go _ _ _ _ f1 nx⟩
    · rw [y] at f1 f2 ⊢
      obtain ⟨c', r', b', o', r3, nx⟩ := z2.1 ((cv 2).mp f1)
      exact ⟨c', r', b', 2, o', (z0.2 (fun q => f2 0 (by omega) ((cv 0).mpr q))).trans ((z1.2 (fun q => f2 1 (by omega) ((cv 1).mpr q))).trans r3), nx, rfl, go _ _ _ _ f1 nx⟩
theorem m_walk (w : WS ω i o n T C K u g G) {j : Nat} (hj : j < G) : ∀ k t, t + k = G → ∀ (ω1 : am_W) (c r b : Nat) (o10 o11 : Option am_V), F7 ω ω1 → (∀ t', t' ≤ G → LR n T C K g (G - t') (am_get ω1 70) t') → (c : Int) < n → (r : Int) < T c → b ≤ 10 → (∃ d, TgF n T C K g k (c * 20 + r) b d) → ∃ ω2, am_run (209, 0) 304 ([some (.inr (.inr 53)), some (.inl ((i : Int))), some (.inl ((o : Int))), some (.inl ((j : Int))), some (.inl ((G : Int))), some (.inl (stf K)), some (.inl ((c : Int))), some (.inl ((r : Int))), some (.inl ((b : Int))), some (.inl ((t : Int))), o10, o11], [], ω1) = some (some (.inl (if j < t then am_get ω1 71 j else (AnF n T C K g k (c * 20 + r) b (j - t) : Int))), ω2) ∧ F7 ω ω2 := by
  have hG := w.2.2.2.2.2.2
  have hch := mp_c w.2.1
  intro k
  induction k with
  | zero =>
    intro t ht ω1 c r b o10 o11 f L hc hr hb e
    have B1 := (w.kp f).1
    have Q := pX7_way_304 53 i o j G (stf K) c r b t o10 o11 ω1 (i_53 B1)
    rw [if_pos (by omega)] at Q
    simp only [am_bi_s, am_bl_s, am_ba_s, am_bv_s, Int.toNat_zero, Int.reduceToNat, Int.toNat_natCast, if_true, if_false, not_true, not_false_eq_true, Int.reduceEq, Int.reduceLT, Int.reduceLE, f_53_28 B1, n_71 B1 (i := (j : Int)) (by omega) (by omega)] at Q
    rw [if_pos (by omega)]
    exact ⟨ω1, Q, f⟩
  | succ k ih =>
    intro t ht ω1 c r b o10 o11 f L hc hr hb e
    have w1 := w.kp f
    have B1 := w1.1
    have Q := pX7_way_304 53 i o j G (stf K) c r b t o10 o11 ω1 (i_53 B1)
    rw [if_neg (by omega)] at Q
    obtain ⟨c', r', b', x, o', r2, nx, ex, e'⟩ := m_code w1 ht L hc hr hb e (l3 := (j : Int)) (o11 := o11)
    have hq : cvd n T (c * 20 + r) := by
      have tc := w.2.1.2.1 c (by have := w.2.1.1.2; omega)
      unfold cvd; rw [show (c * 20 + r) / 20 = c by omega, show (c * 20 + r) % 20 = r by omega]; exact ⟨hc, hr⟩
    have b10 : b' ≤ 10 := by
      obtain ⟨_, _, ⟨_, _, _, n4⟩ | ⟨n1, n3, n4⟩⟩ := id nx
      · omega
      · subst n1
        rw [if_neg (Nat.lt_irrefl 0)] at ex
        obtain ⟨f3, f1, f2⟩ := fb_ok (ch_l hch) hq e
        have ex' : x = fb (cok n C K) (ctg T) (cln T) (cpc n C K) g k (c * 20 + r) := ex
        rw [← ex'] at f1 f3
        have := ((hch _ hq).2.2 x f3 (bst_n f1).1).2.2.1
        omega
    obtain ⟨ω3, r3, f3⟩ := ih (t + 1) (by omega) _ c' r' b' _ _ (f.tr (f7_1 B1 (k := t) (v := (x : Int)))) (fun t' h => by
      have := L t' h
      intro q b hq hb
      rw [gp_cell (by decide)]
      exact this q b hq hb) nx.1 nx.2.1 b10 e'
    refine ⟨ω3, Q.trans (r2.trans (r3.trans ?_)), f3⟩
    congr 3
    by_cases z1 : j < t
    · rw [if_pos (by omega), if_pos z1, gp_place (by omega)]
    · rw [if_neg z1]
      by_cases z2 : j = t
      · rw [if_pos (by omega), z2, gp_same, Nat.sub_self, ex]
        rfl
      · rw [if_neg (by omega)]
        obtain ⟨m, hm⟩ : ∃ m, j - t = m + 1 := ⟨j - t - 1, by omega⟩
        rw [show j - (t + 1) = m by omega, hm]
        refine congrArg (fun y : Nat => (Sum.inl (y : Int) : am_V)) ?_
        obtain ⟨_, _, ⟨n1, n2, n3, n4⟩ | ⟨n1, n3, n4⟩⟩ := nx
        · rw [n3, show b' = b - 1 by omega]
          exact (if_pos n1).symm
        · subst n1
          rw [if_neg (Nat.lt_irrefl 0)] at ex
          rw [n3, show b' = cln T x (c * 20 + r) - 1 by omega, ex]
          exact An_s.symm
end K96
