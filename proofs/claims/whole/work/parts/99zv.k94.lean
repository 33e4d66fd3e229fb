/-! ===== the way: what is left by a code, the model ===== -/
section K94
variable {ω : am_W} {n : Int} {T C : Nat → Int} {K : Int} {i g : Nat}
def lfI (t q b : Nat) : Nat := (t * 120 + q) * 11 + b
theorem lfI_lt {t q b : Nat} (ht : t ≤ 60) (hq : q < 120) (hb : b ≤ 10) : lfI t q b < 80520 := by unfold lfI; omega
theorem lfI_inj {t q b t' q' b' : Nat} (hq : q < 120) (hb : b ≤ 10) (hq' : q' < 120) (hb' : b' ≤ 10) (e : lfI t q b = lfI t' q' b') : t = t' ∧ q = q' ∧ b = b' := by unfold lfI at e; omega
theorem m_leftAt {t c r b : Nat} (ht : t ≤ 61) (hc : c < 6) (hr : r < 20) (hb : b ≤ 10) : am_run (208, 0) 0 ([some (.inl ((t : Int))), some (.inl ((c : Int))), some (.inl ((r : Int))), some (.inl ((b : Int)))], [], ω) = some (some (.inl (lfI t (c * 20 + r) b : Int)), ω) := by
  rw [pX7_leftAt_0, am_w_s (z := (t : Int) * 6) (by omega) (by omega), am_w_s (z := (t : Int) * 6 + (c : Int)) (by omega) (by omega), am_w_s (z := ((t : Int) * 6 + (c : Int)) * 220) (by omega) (by omega), am_w_s (z := (r : Int) * 11) (by omega) (by omega), am_w_s (z := ((t : Int) * 6 + (c : Int)) * 220 + (r : Int) * 11) (by omega) (by omega), am_w_s (by omega) (by omega)]
  congr 4
  unfold lfI
  omega
abbrev TgF (n : Int) (T C : Nat → Int) (K : Int) (g k q b d : Nat) : Prop := Tg (cok n C K) (ctg T) (cln T) (cpc n C K) g k q b d
/-- the row of what is left behind the step -/
def LR (n : Int) (T C : Nat → Int) (K : Int) (g k : Nat) (R : Nat → Int) (t : Nat) : Prop := ∀ q b, cvd n T q → b ≤ 10 → LT (fun d => TgF n T C K g k q b d) 10000 (R (lfI t q b))
def AH (n : Int) (T C : Nat → Int) (K : Int) (g k q b x d : Nat) : Prop := (0 < b ∧ x = 0 ∧ TgF n T C K g k q (b - 1) d) ∨ (b = 0 ∧ BY (cok n C K) (ctg T) (cln T) (cpc n C K) g k q x d)
theorem LT_no {P : Nat → Prop} {F : Int} (h : ∀ d, ¬ P d) : LT P F F := Or.inl ⟨rfl, h⟩
theorem m_62 (h : Bs ω) (mp : MP ω i n T C K) {k t c r x c' lo : Nat} (hk : k ≤ 60) (ht : t < 60) (L : LR n T C K g k (am_get ω 70) (t + 1)) (hc : (c : Int) < n) (hr : (r : Int) < T c) (hc' : (c' : Int) < n) (hs : K = 0 ∨ K = 1 ∨ K = 5) (hx : x < 3) (hlo : mi2 (c : Int) (c' : Int) = (lo : Int)) (l5 : lo < 5) (ok : cok n C K x (c * 20 + r)) (v1 : ctg T x (c * 20 + r) = c' * 20 + (fL r (T c) (T c')).toNat) (v2 : cln T x (c * 20 + r) = (T c / 2).toNat) (v3 : cpc n C K x (c * 20 + r) = (fP K (C lo)).toNat) {l6 : Int} : ∃ v : Int, am_run (210, 0) 62 ([some (.inr (.inr 53)), some (.inl ((i : Int))), some (.inl ((t : Int))), some (.inl ((c : Int))), some (.inl ((r : Int))), some (.inl 0), some (.inl l6), some (.inl (stf K)), none], [(.inl ((c' : Int)))], ω) = some (some (.inl v), ω) ∧ LT (BY (cok n C K) (ctg T) (cln T) (cpc n C K) g k (c * 20 + r) x) 10000 v := by
  obtain ⟨on, oT, oC, oK, i6, e1, e2, e3, e4⟩ := id mp
  have hch := mp_c mp
  have tc := oT c (by omega)
  have tn := oT c' (by omega)
  have hq : cvd n T (c * 20 + r) := by unfold cvd; rw [show (c * 20 + r) / 20 = c by omega, show (c * 20 + r) % 20 = r by omega]; exact ⟨hc, hr⟩
  obtain ⟨y1, y2, y3, y4⟩ := (hch _ hq).2.2 x hx ok
  have fl := fL_ok (p := (r : Int)) (a := T c) tn.1
  have pb := fP_b (K := K) (oC lo l5)
  have ac := m_across h (by rw [e1]; exact on.2) (fun j hj => by rw [e2 j hj]; exact oT j hj) (c := (c : Int)) (p := (r : Int)) (t := (c' : Int)) (by rw [e1]; omega) (by rw [e1]; omega) (by omega)
  rw [Int.toNat_natCast, Int.toNat_natCast, e2 _ (by omega), e2 _ (by omega)] at ac
  have pr := m_price h (fun j hj => by rw [e3 j hj]; exact oC j hj) i6 (l := (lo : Int)) (by omega) (by omega)
  rw [Int.toNat_natCast, e3 _ l5, e4] at pr
  have hh := m_halfOf (ω := ω) tc
  have ef : fL (r : Int) (T c) (T c') = (((fL (r : Int) (T c) (T c')).toNat : Nat) : Int) := by omega
  have ff : (fL (r : Int) (T c) (T c')).toNat < 20 := by omega
  have eb : ∀ _ : Unit, am_w (T c / 2 - 1) = (((T c / 2).toNat - 1 : Nat) : Int) := fun _ => (am_w_s (by omega) (by omega)).trans (by omega)
  have t1 : ∀ _ : Unit, am_w ((t : Int) + 1) = ((t + 1 : Nat) : Int) := fun _ => (am_w_s (by omega) (by omega)).trans (by omega)
  have la := m_leftAt (ω := ω) (t := t + 1) (c := c') (r := (fL (r : Int) (T c) (T c')).toNat) (b := (T c / 2).toNat - 1) (by omega) (by omega) ff (by omega)
  rw [← v1] at la
  have l1 := L _ ((T c / 2).toNat - 1) y1 (by omega)
  have lt : ((lfI (t + 1) (ctg T x (c * 20 + r)) ((T c / 2).toNat - 1) : Nat) : Int) < 80520 := Int.ofNat_lt.mpr (lfI_lt (by omega) (hch _ y1).1 (by omega))
  obtain ⟨w, hw⟩ : ∃ w, w = am_get ω 70 (lfI (t + 1) (ctg T x (c * 20 + r)) ((T c / 2).toNat - 1)) := ⟨_, rfl⟩
  rw [← hw] at l1
  have wr := LT_r l1 (by omega)
  have sm : ∀ _ : Unit, am_w (fP K (C lo) + w) = ((cpc n C K x (c * 20 + r) : Nat) : Int) + w := fun _ => by rw [v3]; exact (am_w_s (by omega) (by omega)).trans (by omega)
  have Q := pX7_ahead_62 53 i t c r 0 l6 (stf K) c' none ω (i_53 h)
  rw [if_neg (by rw [show stf K = 1 from b01_pos hs]; omega), if_neg (by omega), bi_v (m_isCircle h (by rw [e1]; exact on)), b01_pos (by rw [e1]; omega), if_pos (by omega), bi_v j_min, hlo, if_pos (i_53 h), bi_v pr, if_pos (i_53 h), bi_v ac, if_pos (i_53 h)] at Q
  have t57 : am_get ω 57 c = T c := e2 c (by omega)
  rw [ef] at Q
  simp only [am_bi_s, am_bl_s, am_ba_s, am_bv_s, Int.toNat_zero, Int.reduceToNat, Int.toNat_natCast, if_true, if_false, not_true, not_false_eq_true, Int.reduceEq, Int.reduceLT, Int.reduceLE, f_53_4 h, n_57 h (i := (c : Int)) (by omega) (by omega), t57, hh, eb (), t1 (), la, f_53_27 h, n_70 h (Int.natCast_nonneg _) lt, ← hw, sm (), bi_v j_min] at Q
  refine ⟨_, Q, ?_⟩
  have r1 := LT_by (c := cpc n C K x (c * 20 + r)) l1 (fun d hd => by have := Tg_bd hch _ _ _ _ y1 (by omega) hd; omega) (by omega)
  refine LT_c (fun d => ?_) r1
  unfold BY
  rw [v2]
  exact ⟨fun z => ⟨ok, z⟩, fun z => z.2⟩
theorem m_ahead (h : Bs ω) (mp : MP ω i n T C K) {k t c r b x : Nat} (hk : k ≤ 60) (ht : t < 60) (L : LR n T C K g k (am_get ω 70) (t + 1)) (hc : (c : Int) < n) (hr : (r : Int) < T c) (hb : b ≤ 10) (hx : x < 3) : ∃ v : Int, am_run (210, 0) 0 ([some (.inr (.inr 53)), some (.inl ((i : Int))), some (.inl ((t : Int))), some (.inl ((c : Int))), some (.inl ((r : Int))), some (.inl ((b : Int))), some (.inl ((x : Int))), some (.inl (stf K)), none], [], ω) = some (some (.inl v), ω) ∧ LT (AH n T C K g k (c * 20 + r) b x) 10000 v := by
  obtain ⟨on, oT, oC, oK, i6, e1, e2, e3, e4⟩ := id mp
  have hch := mp_c mp
  have tc := oT c (by omega)
  have hq : cvd n T (c * 20 + r) := by unfold cvd; rw [show (c * 20 + r) / 20 = c by omega, show (c * 20 + r) % 20 = r by omega]; exact ⟨hc, hr⟩
  have t57 : am_get ω 57 c = T c := e2 c (by omega)
  have tc0 : ¬ T c = 0 := by omega
  have n57 := n_57 h (i := (c : Int)) (by omega) (by omega)
  have t1 : ∀ _ : Unit, am_w ((t : Int) + 1) = ((t + 1 : Nat) : Int) := fun _ => (am_w_s (by omega) (by omega)).trans (by omega)
  have Q := pX7_ahead_0 53 i t c r b x (stf K) ω (i_53 h)
  rcases (show x = 0 ∨ x = 1 ∨ x = 2 by omega) with rfl | rfl | rfl
  · rw [if_neg (fun z => z rfl)] at Q
    by_cases gb : b = 0
    · subst gb
      obtain ⟨v1, v2, v3⟩ := mv_0 (n := n) (C := C) (K := K) oT (c := c) (by omega) hr
      have m0 := Int.emod_nonneg ((r : Int) + 1) (show T c ≠ 0 by omega)
      have m2 := Int.emod_lt_of_pos ((r : Int) + 1) (show 0 < T c by omega)
      have rm : ∀ _ : Unit, (am_w ((r : Int) + 1)).tmod (T c) = (((((r : Int) + 1) % T c).toNat : Nat) : Int) := fun _ => by
        rw [am_w_s (by omega) (by omega), Int.tmod_eq_emod_of_nonneg (by omega)]
        omega
      have mx : mx0 (am_w (((0 : Nat) : Int) - 1)) = ((0 : Nat) : Int) := rfl
      have la := m_leftAt (ω := ω) (t := t + 1) (c := c) (r := (((r : Int) + 1) % T c).toNat) (b := 0) (by omega) (by omega) (by omega) (by omega)
      rw [← v1] at la
      obtain ⟨y1, _⟩ := (hch _ hq).2.2 0 (by omega) (Or.inl rfl)
      have lt : ((lfI (t + 1) (ctg T 0 (c * 20 + r)) 0 : Nat) : Int) < 80520 := Int.ofNat_lt.mpr (lfI_lt (by omega) (hch _ y1).1 (by omega))
      have l1 := L _ 0 y1 (by omega)
      rw [if_pos (by omega)] at Q
      simp only [am_bi_s, am_bl_s, am_ba_s, am_bv_s, Int.toNat_zero, Int.reduceToNat, Int.toNat_natCast, if_true, if_false, not_true, not_false_eq_true, Int.reduceEq, Int.reduceLT, Int.reduceLE, f_53_4 h, n57, t57, if_neg tc0, j_max0, mx, rm (), t1 (), la, f_53_27 h, n_70 h (Int.natCast_nonneg _) lt] at Q
      refine ⟨_, Q, LT_c (fun d => ?_) l1⟩
      constructor
      · intro z
        refine Or.inr ⟨rfl, Or.inl rfl, d, ?_, by rw [v3]; omega⟩
        rw [v2]
        exact z
      · rintro (⟨z, _⟩ | ⟨_, _, d', z1, z2⟩)
        · omega
        · rw [v2] at z1
          rw [v3] at z2
          obtain rfl : d = d' := by omega
          exact z1
    · have la := m_leftAt (ω := ω) (t := t + 1) (c := c) (r := r) (b := b - 1) (by omega) (by omega) (by omega) (by omega)
      have bw : am_w ((b : Int) - 1) = (b : Int) - 1 := am_w_s (by omega) (by omega)
      have mx : mx0 (am_w ((b : Int) - 1)) = ((b - 1 : Nat) : Int) := by
        rw [bw]
        clear bw
        unfold mx0
        by_cases z : 0 < (b : Int) - 1
        · rw [if_pos z]; omega
        · rw [if_neg z]; omega
      clear bw
      have lt : ((lfI (t + 1) (c * 20 + r) (b - 1) : Nat) : Int) < 80520 := Int.ofNat_lt.mpr (lfI_lt (by clear mx; omega) (hch _ hq).1 (by clear mx; omega))
      have l1 := L _ (b - 1) hq (by clear mx; omega)
      rw [if_neg (by clear mx; omega)] at Q
      simp only [am_bi_s, am_bl_s, am_ba_s, am_bv_s, Int.toNat_zero, Int.reduceToNat, Int.toNat_natCast, if_true, if_false, not_true, not_false_eq_true, Int.reduceEq, Int.reduceLT, Int.reduceLE, j_max0, mx, t1 (), la, f_53_27 h, n_70 h (Int.natCast_nonneg _) lt] at Q
      clear mx
      refine ⟨_, Q, LT_c (fun d => ?_) l1⟩
      constructor
      · intro z
        exact Or.inl ⟨by omega, rfl, z⟩
      · rintro (⟨_, _, z⟩ | ⟨z, _⟩)
        · exact z
        · exact absurd z gb
  · rw [if_pos (by omega), if_neg (fun z => z rfl)] at Q
    have c1 : ∀ _ : Unit, am_w ((c : Int) + 1) = ((c + 1 : Nat) : Int) := fun _ => (am_w_s (by omega) (by omega)).trans (by omega)
    rw [c1 ()] at Q
    by_cases gb : b = 0
    · subst gb
      by_cases hs : (K = 0 ∨ K = 1 ∨ K = 5) ∧ (c : Int) < n - 1
      · have ok := (ok_1 (K := K) on.2 oC (r := r) (by omega)).mpr hs
        obtain ⟨u1, u2, u3⟩ := mv_1 (K := K) on.2 oT oC hs.2 hr
        obtain ⟨v, r2, l2⟩ := m_62 h mp hk ht L hc hr (x := 1) (c' := c + 1) (lo := c) (by omega) hs.1 (by omega) (by unfold mi2; rw [if_neg (by omega)]) (by omega) ok u1 u2 u3 (l6 := ((1 : Nat) : Int))
        exact ⟨v, Q.trans r2, LT_c (fun d => ⟨fun z => Or.inr ⟨rfl, z⟩, fun z => z.elim (fun y => absurd y.1 (Nat.lt_irrefl 0)) (fun y => y.2)⟩) l2⟩
      · refine ⟨10000, Q.trans ?_, LT_no (fun d z => z.elim (fun y => absurd y.1 (Nat.lt_irrefl 0)) (fun y => hs ((ok_1 on.2 oC (by omega)).mp y.2.1)))⟩
        rw [pX7_ahead_62 _ _ _ _ _ _ _ _ _ _ _ (i_53 h)]
        by_cases s1 : K = 0 ∨ K = 1 ∨ K = 5
        · rw [if_neg (by rw [show stf K = 1 from b01_pos s1]; omega), if_neg (by omega), bi_v (m_isCircle h (by rw [e1]; exact on)), b01_neg (by rw [e1]; intro z; exact hs ⟨s1, by omega⟩), if_neg (fun z => z rfl)]
        · rw [if_pos (show stf K = 0 from b01_neg s1)]
    · refine ⟨10000, Q.trans ?_, LT_no (fun d z => z.elim (fun y => absurd y.2.1 (by omega)) (fun y => gb y.1))⟩
      rw [pX7_ahead_62 _ _ _ _ _ _ _ _ _ _ _ (i_53 h)]
      by_cases s1 : stf K = 0
      · rw [if_pos s1]
      · rw [if_neg s1, if_pos (by omega)]
  · rw [if_pos (by omega), if_pos (by omega)] at Q
    by_cases gb : b = 0
    · subst gb
      by_cases hs : (K = 0 ∨ K = 1 ∨ K = 5) ∧ 0 < c
      · have c1 : ∀ _ : Unit, am_w ((c : Int) - 1) = ((c - 1 : Nat) : Int) := fun _ => (am_w_s (by omega) (by omega)).trans (by omega)
        rw [c1 ()] at Q
        have ok := (ok_2 (K := K) on.2 oC (r := r) (by omega) hc).mpr hs
        obtain ⟨u1, u2, u3⟩ := mv_2 (K := K) on.2 oT oC hs.2 hc hr
        obtain ⟨v, r2, l2⟩ := m_62 h mp hk ht L hc hr (x := 2) (c' := c - 1) (lo := c - 1) (by omega) hs.1 (by omega) (by unfold mi2; rw [if_pos (by omega)]) (by omega) ok u1 u2 u3 (l6 := ((2 : Nat) : Int))
        exact ⟨v, Q.trans r2, LT_c (fun d => ⟨fun z => Or.inr ⟨rfl, z⟩, fun z => z.elim (fun y => absurd y.1 (Nat.lt_irrefl 0)) (fun y => y.2)⟩) l2⟩
      · refine ⟨10000, Q.trans ?_, LT_no (fun d z => z.elim (fun y => absurd y.1 (Nat.lt_irrefl 0)) (fun y => hs ((ok_2 on.2 oC (by omega) hc).mp y.2.1)))⟩
        rw [pX7_ahead_62 _ _ _ _ _ _ _ _ _ _ _ (i_53 h)]
        by_cases s1 : K = 0 ∨ K = 1 ∨ K = 5
        · rw [if_neg (by rw [show stf K = 1 from b01_pos s1]; omega), if_neg (by omega), bi_v (m_isCircle h (by rw [e1]; exact on)), am_w_s (by omega) (by omega), b01_neg (by intro z; exact hs ⟨s1, by omega⟩), if_neg (fun z => z rfl)]
        · rw [if_pos (show stf K = 0 from b01_neg s1)]
    · refine ⟨10000, Q.trans ?_, LT_no (fun d z => z.elim (fun y => absurd y.2.1 (by omega)) (fun y => gb y.1))⟩
      rw [pX7_ahead_62 _ _ _ _ _ _ _ _ _ _ _ (i_53 h)]
      by_cases s1 : stf K = 0
      · rw [if_pos s1]
      · rw [if_neg s1, if_pos (by omega)]
end K94
