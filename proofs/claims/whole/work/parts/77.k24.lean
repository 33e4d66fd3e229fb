/-! ===== steps in truth: the model's; step ===== -/
section K24
variable {ω : am_W}
theorem put_put {a k : Nat} {x y : Int} : am_put (am_put ω a k x) a k y = am_put ω a k y := by
  refine Prod.ext rfl (Prod.ext (funext fun a' => funext fun k' => ?_) rfl)
  show (if a' = a ∧ k' = k then y else if a' = a ∧ k' = k then x else ω.2.1 a' k') = if a' = a ∧ k' = k then y else ω.2.1 a' k'
  by_cases g : a' = a ∧ k' = k
  · rw [if_pos g, if_pos g]
  · rw [if_neg g, if_neg g, if_neg g]
theorem put_self {a k : Nat} {x : Int} (hx : am_get ω a k = x) : am_put ω a k x = ω := by
  subst hx
  refine Prod.ext rfl (Prod.ext (funext fun a' => funext fun k' => ?_) rfl)
  show (if a' = a ∧ k' = k then ω.2.1 a k else ω.2.1 a' k') = ω.2.1 a' k'
  by_cases g : a' = a ∧ k' = k
  · rw [if_pos g, g.1, g.2]
  · rw [if_neg g]
/-- only the model's ships have changed -/
def FrM (ω ω' : am_W) : Prop := Dc ω ω' ∧ ∀ a, ¬ (59 ≤ a ∧ a ≤ 63) → am_get ω' a = am_get ω a
theorem FrM.rf : FrM ω ω := ⟨Dc.rf ω, fun _ _ => rfl⟩
theorem FrM.tr {ω1 ω2 : am_W} (h : FrM ω ω1) (g : FrM ω1 ω2) : FrM ω ω2 := ⟨h.1.tr g.1, fun a ha => (g.2 a ha).trans (h.2 a ha)⟩
theorem FrM.set (h : Bs ω) {i : Nat} {u : Nat → Int} : FrM ω (setM ω i u) := ⟨setM_dc h, fun a ha => funext fun k => setM_o (fun q => ha q.1)⟩
theorem FrM.rd {ω1 : am_W} (h : FrM ω ω1) : mn ω1 = mn ω ∧ mk ω1 = mk ω ∧ mT ω1 = mT ω ∧ mC ω1 = mC ω := ⟨congrFun (h.2 53 (by omega)) 3, congrFun (h.2 53 (by omega)) 6, h.2 57 (by omega), h.2 58 (by omega)⟩
theorem m_driftAll {n : Int} {T : Nat → Int} {K : Nat} (h6 : K ≤ 6) (hn : n ≤ 6) (hT : Tok T) (l1 l2 l3 : Int) (o5 : Option am_V) : ∀ d j, j + d = K → ∀ ω V, Bs ω → mn ω = n → E6 T (mT ω) → mk ω = (K : Int) → OV n T K V → EV 6 V (mV ω) → ∃ ω', am_run (221, 0) 15 ([some (.inr (.inr 53)), some (.inl l1), some (.inl l2), some (.inl l3), some (.inl ((j : Int))), o5], [], ω) = am_run (221, 0) 15 ([some (.inr (.inr 53)), some (.inl l1), some (.inl l2), some (.inl l3), some (.inl ((K : Int))), o5], [], ω') ∧ FrM ω ω' ∧ EV 6 (fun i => if j ≤ i ∧ i < K then drF T (V i) else V i) (mV ω') := by
  intro d
  induction d with
  | zero =>
    intro j hj ω V h e1 e2 e3 O E
    obtain rfl : j = K := by omega
    exact ⟨ω, rfl, FrM.rf, fun i hi => by dsimp only; rw [if_neg (by omega)]; exact E i hi⟩
  | succ d ih =>
    intro j hj ω V h e1 e2 e3 O E
    have e3' : am_get ω 53 6 = (K : Int) := e3
    have Oj := O_c hn (E j (by omega)) e2 (O j (by omega))
    have s := m_driftM h (by rw [e1]; exact hn) (fun k hk => by rw [← e2 k hk]; exact hT k hk) (i := j) (by omega) (by rw [e1]; exact Oj)
    have F := FrM.set h (i := j) (u := drF (mT ω) (mV ω j))
    obtain ⟨g1, g2, g3, g4⟩ := F.rd
    have dj := dr_c hn (O j (by omega)) (E j (by omega)) e2
    obtain ⟨ω', r, F', c'⟩ := ih (j + 1) (by omega) _ (fun i => if i = j then drF T (V i) else V i) (h.dc F.1) (g1.trans e1) (by rw [g3]; exact e2) (g2.trans e3) (fun i hi => by
      dsimp only
      by_cases q : i = j
      · rw [if_pos q]; exact dr_O hn hT (O i hi)
      · rw [if_neg q]; exact O i hi) (fun i hi f hf => by
      dsimp only
      by_cases q : i = j
      · rw [if_pos q, q, setM_V hf]; exact dj f hf
      · rw [if_neg q, setM_Vo q]; exact E i hi f hf)
    refine ⟨ω', ?_, F.tr F', fun i hi f hf => ?_⟩
    · rw [← r, pX7_steps_15 _ _ _ _ _ _ _ (i_53 h)]
      simp only [Int.reduceToNat, e3']
      rw [if_neg (by omega), bv_v s, am_w_s (by omega) (by omega), show (j : Int) + 1 = ((j + 1 : Nat) : Int) by omega]
    · rw [← c' i hi f hf]
      dsimp only
      by_cases q : i = j
      · rw [if_pos (by omega), if_neg (by omega), if_pos q]
      · by_cases q2 : j ≤ i ∧ i < K
        · rw [if_pos q2, if_pos (by omega), if_neg q]
        · rw [if_neg q2, if_neg (by omega), if_neg q]
theorem m_hit_in (h : Bs ω) {K : Nat} (h6 : K ≤ 6) {s : Nat} (hs : s < K) (l1 l2 l3 h0 : Int) : ∀ d o, o + d = s → ∀ c : Int, am_run (221, 0) 51 ([some (.inr (.inr 53)), some (.inl l1), some (.inl l2), some (.inl l3), some (.inl ((s : Int))), some (.inl ((o : Int)))], [], (am_put ω 53 13 (am_w (h0 + c)))) = am_run (221, 0) 39 ([some (.inr (.inr 53)), some (.inl l1), some (.inl l2), some (.inl l3), some (.inl (((s + 1 : Nat) : Int))), some (.inl ((s : Int)))], [], (am_put ω 53 13 (am_w (h0 + (c + sm (fun x => b01 (hit (mV ω) s (o + x))) d))))) := by
  have bb : ∀ x, Bs (am_put ω 53 13 x) := fun x => h.dc (Dc.put (am_rp_at (bs_sh h (a := 53) rfl)))
  have eM : ∀ x, mV (am_put ω 53 13 x) = mV ω := fun x => funext fun i => funext fun f => gp_cell (by omega)
  intro d
  induction d with
  | zero =>
    intro o ho c
    obtain rfl : o = s := by omega
    rw [pX7_steps_51 _ _ _ _ _ _ _ (i_53 (bb _)), if_pos (by omega), am_w_s (z := (o : Int) + 1) (by omega) (by omega), show (o : Int) + 1 = ((o + 1 : Nat) : Int) by omega, show sm (fun x => b01 (hit (mV ω) o (o + x))) 0 = 0 from rfl, Int.add_zero]
  | succ d ih =>
    intro o ho c
    have k1 : ∀ x, am_get (am_put ω 53 13 x) 59 s = mV ω s 0 := fun x => gp_cell (by omega)
    have k2 : ∀ x, am_get (am_put ω 53 13 x) 59 o = mV ω o 0 := fun x => gp_cell (by omega)
    have mt := fun x => m_meet (bb x) (i := s) (j := o) (by omega) (by omega)
    simp only [eM] at mt
    have key : am_run (221, 0) 51 ([some (.inr (.inr 53)), some (.inl l1), some (.inl l2), some (.inl l3), some (.inl ((s : Int))), some (.inl ((o : Int)))], [], (am_put ω 53 13 (am_w (h0 + c)))) = am_run (221, 0) 51 ([some (.inr (.inr 53)), some (.inl l1), some (.inl l2), some (.inl l3), some (.inl ((s : Int))), some (.inl (((o + 1 : Nat) : Int)))], [], (am_put ω 53 13 (am_w (h0 + (c + b01 (hit (mV ω) s o)))))) := by
      rw [pX7_steps_51 _ _ _ _ _ _ _ (i_53 (bb _)), if_neg (by omega)]
      simp only [Int.reduceToNat, f_53_7 (bb _), n_59 (bb _) (i := (s : Int)) (by omega) (by omega), n_59 (bb _) (i := (o : Int)) (by omega) (by omega), if_true, Int.toNat_natCast, k1, k2, mt, am_bi_s, i_53 (bb _), gp_same, put_put, am_w_s (z := (o : Int) + 1) (by omega) (by omega), am_w_add]
      rw [show (o : Int) + 1 = ((o + 1 : Nat) : Int) by omega]
      by_cases gW : fW (mV ω s) (mV ω o)
      · rw [b01_pos gW]
        by_cases g1 : mV ω s 0 = 3
        · rw [if_pos g1, if_neg (by omega), b01_pos (show hit (mV ω) s o from ⟨Or.inl g1, gW⟩), Int.add_assoc]
        · rw [if_neg g1]
          by_cases g2 : mV ω o 0 = 3
          · rw [if_neg (fun z => z g2), if_neg (by omega), b01_pos (show hit (mV ω) s o from ⟨Or.inr g2, gW⟩), Int.add_assoc]
          · rw [if_pos g2, b01_neg (show ¬ hit (mV ω) s o from fun z => z.1.elim g1 g2), Int.add_zero]
      · rw [b01_neg gW, b01_neg (show ¬ hit (mV ω) s o from fun z => gW z.2), Int.add_zero]
        by_cases g1 : mV ω s 0 = 3
        · rw [if_pos g1, if_pos rfl]
        · rw [if_neg g1]
          by_cases g2 : mV ω o 0 = 3
          · rw [if_neg (fun z => z g2), if_pos rfl]
          · rw [if_pos g2]
    rw [key, ih (o + 1) (by omega), sm_head (m := d)]
    rw [sm_c (f := fun x => b01 (hit (mV ω) s (o + 1 + x))) (g := fun x => b01 (hit (mV ω) s (o + (x + 1)))) (fun x _ => by rw [show o + 1 + x = o + (x + 1) by omega])]
    rw [show o + 0 = o from rfl, Int.add_assoc c]
theorem m_hits (h : Bs ω) {K : Nat} (hK : mk ω = (K : Int)) (h6 : K ≤ 6) (l1 l2 l3 h0 : Int) : ∀ d s, s + d = K → ∀ (c : Int) (o5 : Option am_V), ∃ o5', am_run (221, 0) 39 ([some (.inr (.inr 53)), some (.inl l1), some (.inl l2), some (.inl l3), some (.inl ((s : Int))), o5], [], (am_put ω 53 13 (am_w (h0 + c)))) = am_run (221, 0) 7 ([some (.inr (.inr 53)), some (.inl l1), some (.inl l2), some (.inl (am_w (l3 + 1))), some (.inl ((K : Int))), o5'], [], (am_put ω 53 13 (am_w (h0 + (c + sm (fun y => sm (fun o => b01 (hit (mV ω) (s + y) o)) (s + y)) d))))) := by
  have bb : ∀ x, Bs (am_put ω 53 13 x) := fun x => h.dc (Dc.put (am_rp_at (bs_sh h (a := 53) rfl)))
  have eK : ∀ x, am_get (am_put ω 53 13 x) 53 6 = (K : Int) := fun x => (gp_place (by omega)).trans hK
  intro d
  induction d with
  | zero =>
    intro s hs c o5
    obtain rfl : s = K := by omega
    refine ⟨o5, ?_⟩
    rw [pX7_steps_39 _ _ _ _ _ _ _ (i_53 (bb _))]
    simp only [Int.reduceToNat, eK]
    rw [if_pos (by omega), show sm (fun y => sm (fun o => b01 (hit (mV ω) (s + y) o)) (s + y)) 0 = 0 from rfl, Int.add_zero]
  | succ d ih =>
    intro s hs c o5
    have a := m_hit_in h h6 (s := s) (by omega) l1 l2 l3 h0 s 0 (by omega) c
    obtain ⟨o', ho⟩ := ih (s + 1) (by omega) (c + sm (fun x => b01 (hit (mV ω) s (0 + x))) s) (some (.inl (s : Int)))
    refine ⟨o', ?_⟩
    rw [pX7_steps_39 _ _ _ _ _ _ _ (i_53 (bb _))]
    simp only [Int.reduceToNat, eK]
    rw [if_neg (by omega)]
    refine a.trans (ho.trans ?_)
    rw [sm_head (m := d)]
    rw [sm_c (f := fun y => sm (fun o => b01 (hit (mV ω) (s + 1 + y) o)) (s + 1 + y)) (g := fun y => sm (fun o => b01 (hit (mV ω) (s + (y + 1)) o)) (s + (y + 1))) (fun y _ => by rw [show s + 1 + y = s + (y + 1) by omega])]
    rw [show s + 0 = s from rfl, Int.add_assoc c]
    simp only [Nat.zero_add]
/-- the model's ships, clock and hits have changed -/
def FrB (ω ω' : am_W) : Prop := Dc ω ω' ∧ ∀ a k, ¬ (59 ≤ a ∧ a ≤ 63) → ¬ (a = 53 ∧ (k = 12 ∨ k = 13)) → am_get ω' a k = am_get ω a k
theorem FrB.tr {ω1 ω2 : am_W} (h : FrB ω ω1) (g : FrB ω1 ω2) : FrB ω ω2 := ⟨h.1.tr g.1, fun a k h1 h2 => (g.2 a k h1 h2).trans (h.2 a k h1 h2)⟩
theorem FrB.ofM {ω1 : am_W} (h : FrM ω ω1) : FrB ω ω1 := ⟨h.1, fun a k h1 _ => congrFun (h.2 a h1) k⟩
theorem FrB.put (h : Bs ω) {k : Nat} (hk : k = 12 ∨ k = 13) {x : Int} : FrB ω (am_put ω 53 k x) := by
  refine ⟨Dc.put ?_, fun a k' h1 h2 => if_neg (fun q => h2 ⟨q.1, by rw [q.2]; exact hk⟩)⟩
  rcases hk with rfl | rfl
  · exact am_rp_at (bs_sh h (a := 53) rfl)
  · exact am_rp_at (bs_sh h (a := 53) rfl)
theorem FrB.rd {ω1 : am_W} (h : FrB ω ω1) : mn ω1 = mn ω ∧ mk ω1 = mk ω ∧ mT ω1 = mT ω ∧ mC ω1 = mC ω := ⟨h.2 _ _ (by omega) (by omega), h.2 _ _ (by omega) (by omega), funext fun j => h.2 _ _ (by omega) (by omega), funext fun j => h.2 _ _ (by omega) (by omega)⟩
theorem m_steps {n : Int} {T : Nat → Int} {K N : Nat} (h6 : K ≤ 6) (hn : n ≤ 6) (hT : Tok T) (hN : N ≤ 60) (l2 : Int) : ∀ m t, t + m = N → ∀ ω V (o4 o5 : Option am_V), Bs ω → mn ω = n → E6 T (mT ω) → mk ω = (K : Int) → OV n T K V → EV 6 V (mV ω) → am_R32 (am_get ω 53 13) → ∃ ω', am_run (221, 0) 7 ([some (.inr (.inr 53)), some (.inl ((N : Int))), some (.inl l2), some (.inl ((t : Int))), o4, o5], [], ω) = some (some (.inl (am_w (am_get ω' 53 13 - l2))), ω') ∧ FrB ω ω' ∧ EV 6 (advV T K m V) (mV ω') ∧ am_get ω' 53 13 = advH T K m V (am_get ω 53 13) ∧ am_get ω' 53 12 = am_w (am_get ω 53 12 + (N : Int)) := by
  intro m
  induction m with
  | zero =>
    intro t ht ω V o4 o5 h e1 e2 e3 O E R
    obtain rfl : t = N := by omega
    refine ⟨am_put ω 53 12 (am_w (am_get ω 53 12 + (t : Int))), ?_, FrB.put h (Or.inl rfl), fun i hi f hf => ?_, gp_place (by omega), gp_same⟩
    · rw [pX7_steps_7 _ _ _ _ _ _ _ (i_53 h), if_pos (by omega)]
      rfl
    · rw [show mV (am_put ω 53 12 (am_w (am_get ω 53 12 + (t : Int)))) i f = mV ω i f from gp_cell (by omega)]
      exact E i hi f hf
  | succ m ih =>
    intro t ht ω V o4 o5 h e1 e2 e3 O E R
    obtain ⟨ω1, r1, F1, c1⟩ := m_driftAll h6 hn hT (N : Int) l2 (t : Int) o5 K 0 (by omega) ω V h e1 e2 e3 O E
    have h1 := h.dc F1.1
    obtain ⟨g1, g2, g3, g4⟩ := F1.rd
    have eD : EV 6 (drS T K V) (mV ω1) := fun i hi f hf => by
      rw [← c1 i hi f hf]
      unfold drS
      dsimp only
      by_cases q : i < K
      · rw [if_pos q, if_pos ⟨by omega, q⟩]
      · rw [if_neg q, if_neg (by omega)]
    have e3' : am_get ω1 53 6 = (K : Int) := g2.trans e3
    have g13 : am_get ω1 53 13 = am_get ω 53 13 := congrFun (F1.2 53 (by omega)) 13
    have s0 : am_put ω1 53 13 (am_w (am_get ω1 53 13 + 0)) = ω1 := put_self (by rw [Int.add_zero, g13]; exact (am_w_id R).symm)
    obtain ⟨o', r2⟩ := m_hits h1 (K := K) e3' h6 (N : Int) l2 (t : Int) (am_get ω1 53 13) K 0 (by omega) 0 o5
    rw [s0] at r2
    have eH : (0 : Int) + sm (fun y => sm (fun o => b01 (hit (mV ω1) (0 + y) o)) (0 + y)) K = cHit (drS T K V) K := by
      simp only [Nat.zero_add, Int.zero_add]
      rw [hits_eq, mHit_c (V' := mV ω1) (fun i hi => eD i (by omega))]
      rfl
    rw [eH, g13] at r2
    have F2 := FrB.put h1 (k := 13) (Or.inr rfl) (x := am_w (am_get ω 53 13 + cHit (drS T K V) K))
    obtain ⟨k1, k2, k3, k4⟩ := F2.rd
    have e12 : ∀ x, mV (am_put ω1 53 13 x) = mV ω1 := fun x => funext fun i => funext fun f => gp_cell (by omega)
    obtain ⟨ω', r, F', c', hh, hc⟩ := ih (t + 1) (by omega) _ (drS T K V) (some (.inl (K : Int))) o' (h1.dc F2.1) (k1.trans (g1.trans e1)) (by rw [k3, g3]; exact e2) (k2.trans (g2.trans e3)) (drS_O hn hT O) (by rw [e12]; exact eD) (by rw [gp_same]; exact am_w_R _)
    refine ⟨ω', ?_, (FrB.ofM F1).tr (F2.tr F'), c', ?_, ?_⟩
    · rw [← r, pX7_steps_7 _ _ _ _ _ _ _ (i_53 h), if_neg (by omega)]
      refine r1.trans ?_
      rw [pX7_steps_15 _ _ _ _ _ _ _ (i_53 h1)]
      simp only [Int.reduceToNat, e3']
      rw [if_pos (by omega)]
      refine r2.trans ?_
      rw [am_w_s (z := (t : Int) + 1) (by omega) (by omega), show (t : Int) + 1 = ((t + 1 : Nat) : Int) by omega]
    · rw [hh, gp_same]
      rfl
    · rw [hc, gp_place (by omega), show am_get ω1 53 12 = am_get ω 53 12 from congrFun (F1.2 53 (by omega)) 12]
/-- the present and the model's behind steps -/
theorem inv_adv {ω1 ω2 : am_W} (h : Inv ω) {K m N : Nat} (hK : ck ω 1 = (K : Int)) (F1 : FrA 1 ω ω1) (c1 : ∀ i, cV ω1 1 i = advV (cT ω 1) K m (cV ω 1) i) (a1 : am_get ω1 1 6 = advH (cT ω 1) K m (cV ω 1) (am_get ω 1 6)) (t1 : am_get ω1 1 5 = am_w (am_get ω 1 5 + (N : Int))) (F2 : FrB ω1 ω2) (c2 : EV 6 (advV (cT ω 1) K m (cV ω 1)) (mV ω2)) (a2 : am_get ω2 53 13 = advH (cT ω 1) K m (cV ω 1) (am_get ω1 53 13)) (t2 : am_get ω2 53 12 = am_w (am_get ω1 53 12 + (N : Int))) : Inv ω2 := by
  obtain ⟨e1, e2, e3, e4⟩ := inv_k h
  have O : OV (cn ω 1) (cT ω 1) K (cV ω 1) := fun i hi => by
    have := inv_O h (i := i) (by omega)
    rw [← V_at] at this
    exact this
  obtain ⟨-, -, O'⟩ := adv_c (K := K) e4.2 (inv_Tok h) (fun _ _ => rfl : E6 (cT ω 1) (cT ω 1)) m (cV ω 1) (cV ω 1) 0 O (fun _ _ _ _ => rfl)
  have vc : ∀ i, am_get ω1 (5 + i) = advV (cT ω 1) K m (cV ω 1) i := fun i => by
    rw [← c1 i, ← V_at]
    rfl
  have vv : ∀ i, i < 6 → am_get ω2 (5 + i) = advV (cT ω 1) K m (cV ω 1) i := fun i hi => by
    rw [← vc i]
    exact funext fun k => F2.2 _ _ (by omega) (by omega)
  have e : ∀ a k, ¬ ((5 ≤ a ∧ a ≤ 10) ∨ (59 ≤ a ∧ a ≤ 63) ∨ (a = 1 ∧ (k = 5 ∨ k = 6)) ∨ (a = 53 ∧ (k = 12 ∨ k = 13))) → am_get ω2 a k = am_get ω a k := fun a k g => (F2.2 a k (by omega) (by omega)).trans (F1.2 a k (by omega) (by omega))
  have w5 : am_get ω2 1 5 = am_get ω1 1 5 := F2.2 _ _ (by omega) (by omega)
  have w6 : am_get ω2 1 6 = am_get ω1 1 6 := F2.2 _ _ (by omega) (by omega)
  have m5 : am_get ω1 53 12 = am_get ω 53 12 := F1.2 _ _ (by omega) (by omega)
  have m6 : am_get ω1 53 13 = am_get ω 53 13 := F1.2 _ _ (by omega) (by omega)
  refine inv_kp _ h (F1.1.tr F2.1) e (Or.inr ?_) (Or.inr ?_) (Or.inl (fun a k s b => by unfold S_tape at s; omega)) (Or.inl (fun a k s b => by unfold S_shelf at s; omega)) (Or.inl (fun a k s b => by unfold S_ref at s; omega)) (Or.inl (fun a k s b => by unfold S_img at s; omega))
  · obtain ⟨q1, q2, q3, q4, q5, q6, q7, q8⟩ := h.2.1
    refine ⟨fun i hi f hf => ?_, fun j hj => ?_, fun j hj => ?_, ?_, ?_, ?_, ?_, ?_⟩
    · exact (c2 i hi f hf).symm.trans (congrFun (vv i hi) f).symm
    · exact (e _ _ (by omega)).trans ((q2 j hj).trans (e _ _ (by omega)).symm)
    · exact (e _ _ (by omega)).trans ((q3 j hj).trans (e _ _ (by omega)).symm)
    · exact (e _ _ (by omega)).trans (q4.trans (e _ _ (by omega)).symm)
    · exact (e _ _ (by omega)).trans (q5.trans (e _ _ (by omega)).symm)
    · show am_get ω2 53 12 = am_get ω2 1 5
      rw [t2, w5, t1, m5, show am_get ω 53 12 = am_get ω 1 5 from q6]
    · show am_get ω2 53 13 = am_get ω2 1 6
      rw [a2, w6, a1, m6, show am_get ω 53 13 = am_get ω 1 6 from q7]
    · exact (e _ _ (by omega)).trans (q8.trans (e _ _ (by omega)).symm)
  · obtain ⟨q1, q2, q3, q4, q5, q6⟩ := h.2.2.1
    have eT : ω2.2.1 (1 + 1) = ω.2.1 (1 + 1) := funext fun k => e _ _ (by omega)
    unfold O_sky
    rw [show ω2.2.1 1 0 = ω.2.1 1 0 from e _ _ (by omega), show ω2.2.1 1 3 = ω.2.1 1 3 from e _ _ (by omega), eT]
    refine ⟨q1, q2, q3, fun j hj => by rw [show ω2.2.1 (1 + 2) j = ω.2.1 (1 + 2) j from e _ _ (by omega)]; exact q4 j hj, fun i hi => ?_, ?_⟩
    · have hi' : (i : Int) < ck ω 1 := hi
      have := vv i (by omega)
      rw [show 5 + i = 1 + 4 + i by omega] at this
      rw [show ω2.2.1 (1 + 4 + i) = advV (cT ω 1) K m (cV ω 1) i from this]
      exact O' i (by omega)
    · show am_R32 (am_get ω2 1 6)
      rw [w6, a1]
      exact advH_R _ _ _ q6
theorem k_step (h : Inv ω) (n : Int) : Pair 119 222 [some (.inr (.inr 0)), some (.inl n)] [some (.inr (.inr 53)), some (.inl n)] ω := by
  have h0 := h.1
  obtain ⟨e1, e2, e3, e4⟩ := inv_k h
  have b := fun k => rfz_bs (k := k) h0
  by_cases hn : 1 ≤ n ∧ n ≤ 60
  · obtain ⟨N, rfl⟩ : ∃ N : Nat, n = N := ⟨n.toNat, by omega⟩
    obtain ⟨K, hK⟩ : ∃ K : Nat, ck ω 1 = K := ⟨(ck ω 1).toNat, by omega⟩
    have O : OV (cn ω 1) (cT ω 1) K (cV ω 1) := fun i hi => by
      have := inv_O h (i := i) (by omega)
      rw [← V_at] at this
      exact this
    obtain ⟨ω1, r1, F1, c1, a1, t1⟩ := c_advance W1 (K := K) (N := N) (by omega) e4.2 (inv_Tok h) (by omega) (am_get ω 1 6) N 0 (by omega) ω none h0 rfl rfl hK O
    have b1 := h0.dc F1.1
    have m13 : am_get ω1 53 13 = am_get ω 53 13 := F1.2 _ _ (by omega) (by omega)
    have eH : am_get ω 53 13 = am_get ω 1 6 := h.2.1.2.2.2.2.2.2.1
    have mV1 : mV ω1 = mV ω := funext fun i => funext fun f => F1.2 _ _ (by omega) (by omega)
    have mT1 : mT ω1 = mT ω := funext fun i => F1.2 _ _ (by omega) (by omega)
    have mn1 : mn ω1 = mn ω := F1.2 _ _ (by omega) (by omega)
    have mk1 : mk ω1 = mk ω := F1.2 _ _ (by omega) (by omega)
    obtain ⟨ω2, r2, F2, c2, a2, t2⟩ := m_steps (K := K) (N := N) (n := cn ω 1) (T := cT ω 1) (by omega) e4.2 (inv_Tok h) (by omega) (am_get ω 1 6) N 0 (by omega) ω1 (cV ω 1) none none b1 (mn1.trans e2) (by rw [mT1]; exact inv_E6 h) (mk1.trans (e1.trans hK)) O (by rw [mV1]; exact fun i hi f hf => (inv_V h hi hf).symm) (by rw [m13, eH]; exact h.2.2.1.2.2.2.2.2)
    have p1 := pX6_step_0 0 (N : Int) ω (i_0 h0) (by simp only [Int.toNat_zero, f_0_0 h0]; exact i_1 h0)
    have p2 := pX7_step_0 53 (N : Int) ω1
    have q1 := pX5_advance_0 1 (N : Int) ω (i_1 h0)
    have q2 := pX7_steps_0 53 (N : Int) ω1 (i_53 b1)
    simp only [Int.reduceToNat, m13, eH] at q1 q2 r1 r2
    rw [show (some (.inl 0) : Option am_V) = some (.inl ((0 : Nat) : Int)) from rfl, r1] at q1
    rw [show (some (.inl 0) : Option am_V) = some (.inl ((0 : Nat) : Int)) from rfl, r2] at q2
    simp only [am_bi_s, am_bl_s, am_ba_s, am_bv_s, Int.toNat_zero, Int.reduceToNat, Int.toNat_natCast, if_true, if_false, not_true, not_false_eq_true, Int.reduceEq, Int.reduceLT, Int.reduceLE, i_0 h0, i_1 h0, f_0_0 h0, f_0_3 h0, f_0_4 h0, f_1_1 h0, f_1_2 h0, f_1_4 h0, if_neg (show ¬ (N : Int) < 1 by omega), if_pos hn.2, q1] at p1
    simp only [m_in1, b01_pos hn, am_bi_s, am_bl_s, am_ba_s, am_bv_s, Int.toNat_zero, Int.reduceToNat, Int.toNat_natCast, if_true, if_false, not_true, not_false_eq_true, Int.reduceEq, Int.reduceLT, Int.reduceLE, i_53 b1, q2] at p2
    rw [a2, m13, eH] at p2
    simp only [Int.reduceToNat] at a1 t1
    rw [a1] at p1
    exact ⟨_, _, _, p1, b1, F1.1.2.1, p2, F2.1.2.1.trans F1.1.2.1, inv_adv h hK F1 c1 a1 t1 F2 c2 a2 t2⟩
  · have p1 := pX6_step_0 0 n ω (i_0 h0) (by simp only [Int.toNat_zero, f_0_0 h0]; exact i_1 h0)
    have p1' : am_run (119, 0) 0 ([some (.inr (.inr 0)), some (.inl n)], [], ω) = some (some (.inl (-2)), rfz ω 0) := by
      rw [p1]
      simp only [am_bi_s, am_bl_s, am_ba_s, am_bv_s, Int.toNat_zero, Int.reduceToNat, Int.toNat_natCast, if_true, if_false, not_true, not_false_eq_true, Int.reduceEq, Int.reduceLT, Int.reduceLE, i_0 h0, i_1 h0, f_0_0 h0, f_0_3 h0, f_0_4 h0, f_1_1 h0, f_1_2 h0, f_1_4 h0, c_r2 h0]
      by_cases g : n < 1
      · rw [if_pos g]
      · rw [if_neg g, if_neg (by omega)]
    refine pair_ref h 0 (by omega) p1' ?_
    rw [pX7_step_0]
    simp only [m_in1, b01_neg hn, am_bi_s, am_bl_s, am_ba_s, am_bv_s, Int.toNat_zero, Int.reduceToNat, Int.toNat_natCast, if_true, if_false, not_true, not_false_eq_true, Int.reduceEq, Int.reduceLT, Int.reduceLE, i_53 (b 0), m_r2 (b 0)]
end K24
