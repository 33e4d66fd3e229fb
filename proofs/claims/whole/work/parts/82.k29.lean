/-! ===== bolts ===== -/
section K29
variable {ω : am_W} {W : Int}
theorem ushr16 (a : Int) : 0 ≤ am_ushr a 16 ∧ am_ushr a 16 < 65536 := by
  unfold am_ushr
  have e : (Int32.ofInt 16).toUInt32 &&& Int32.toUInt32 31 = 16 := by decide
  rw [e]
  have h1 : ((Int32.ofInt a).toUInt32 >>> (16 : UInt32)).toInt32.toInt = ((Int32.ofInt a).toUInt32 >>> (16 : UInt32)).toBitVec.toInt := rfl
  have h2 : ((Int32.ofInt a).toUInt32 >>> (16 : UInt32)).toBitVec.toNat < 65536 := by
    show ((Int32.ofInt a).toUInt32 >>> (16 : UInt32)).toNat < 65536
    rw [UInt32.toNat_shiftRight]
    have := (Int32.ofInt a).toUInt32.toNat_lt
    show (Int32.ofInt a).toUInt32.toNat >>> 16 < 65536
    rw [Nat.shiftRight_eq_div_pow]
    omega
  rw [h1, BitVec.toInt_eq_toNat_of_lt (by omega)]
  omega
def bz (sd : Int) : Int := am_w (am_w (sd * 1103515245) + 12345)
def bc (n sd : Int) : Int := am_ushr (bz sd) 16 % n
def bp (n : Int) (T : Nat → Int) (sd : Int) : Int := am_ushr (bz (bz sd)) 16 % T (bc n sd).toNat
def bS : Nat → Int → Int
  | 0, sd => sd
  | d + 1, sd => bS d (bz (bz sd))
def bV (n : Int) (T : Nat → Int) : Nat → Nat → Int → (Nat → Nat → Int) → Nat → Nat → Int
  | 0, _, _, V => V
  | d + 1, K, sd, V => bV n T d (K + 1) (bz (bz sd)) (fun i => if i = K then nv 3 (bc n sd) (bp n T sd) 0 else V i)
theorem bc_ok {n sd : Int} (hn : 2 ≤ n) : 0 ≤ bc n sd ∧ bc n sd < n := ⟨Int.emod_nonneg _ (by omega), Int.emod_lt_of_pos _ (by omega)⟩
theorem nv_O {n sd : Int} {T : Nat → Int} (hn : 2 ≤ n ∧ n ≤ 6) (hT : Tok T) : O_ship n T (nv 3 (bc n sd) (bp n T sd) 0) := by
  have c := bc_ok (sd := sd) hn.1
  have t := hT (bc n sd).toNat (by omega)
  refine ⟨by show (0 : Int) ≤ 3 ∧ (3 : Int) ≤ 5; omega, c, ⟨Int.emod_nonneg _ (by omega), Int.emod_lt_of_pos _ (by omega)⟩, by show (0 : Int) ≤ 0 ∧ (0 : Int) ≤ 99; omega, by show (0 : Int) ≤ 0 ∧ (0 : Int) ≤ 10; omega⟩
theorem bV_O {n : Int} {T : Nat → Int} (hn : 2 ≤ n ∧ n ≤ 6) (hT : Tok T) : ∀ (d K : Nat) (sd : Int) (V : Nat → Nat → Int), OV n T K V → OV n T (K + d) (bV n T d K sd V) := by
  intro d
  induction d with
  | zero => intro K sd V O; exact O
  | succ d ih =>
    intro K sd V O
    have := ih (K + 1) (bz (bz sd)) (fun i => if i = K then nv 3 (bc n sd) (bp n T sd) 0 else V i) (fun i hi => by
      dsimp only
      by_cases q : i = K
      · rw [if_pos q]; exact nv_O hn hT
      · rw [if_neg q]; exact O i (by omega))
    rw [show K + 1 + d = K + (d + 1) by omega] at this
    exact this
theorem c_draw (h : Bs ω) (hw : isW W) {t : Int} (ht : 2 ≤ t) : am_run (82, 0) 0 ([some (.inr (.inr W)), some (.inl t)], [], ω) = some (some (.inl (am_ushr (bz (am_get ω W.toNat 7)) 16 % t)), am_put ω W.toNat 7 (bz (am_get ω W.toNat 7))) := by
  rw [pX5_draw_0 _ _ _ (w_is h hw), gp_same]
  exact bi_v (c_modulo (ushr16 _).1 ht)
theorem m_draw (h : Bs ω) {t : Int} (ht : 2 ≤ t) : am_run (226, 0) 0 ([some (.inr (.inr 53)), some (.inl t)], [], ω) = some (some (.inl (am_ushr (bz (am_get ω 53 14)) 16 % t)), am_put ω 53 14 (bz (am_get ω 53 14))) := by
  rw [pX7_draw_0 _ _ _ (i_53 h), if_neg (by omega), gp_same, Int.tmod_eq_emod_of_nonneg (ushr16 _).1]
  rfl
def FrC (ω ω' : am_W) : Prop := Dc ω ω' ∧ ∀ a k, ¬ (5 ≤ a ∧ a ≤ 10) → ¬ (a = 1 ∧ (k = 3 ∨ k = 7)) → am_get ω' a k = am_get ω a k
def FrD (ω ω' : am_W) : Prop := Dc ω ω' ∧ ∀ a k, ¬ (59 ≤ a ∧ a ≤ 63) → ¬ (a = 53 ∧ (k = 6 ∨ k = 14)) → am_get ω' a k = am_get ω a k
theorem c_bolts {n : Int} {T : Nat → Int} {N : Nat} (hN : N ≤ 6) (hn : 2 ≤ n ∧ n ≤ 6) (hT : Tok T) : ∀ (d K : Nat) (ω : am_W) (md : Nat) (V : Nat → Nat → Int) (o3 o4 : Option am_V), Bs ω → cn ω 1 = n → cT ω 1 = T → ck ω 1 = (K : Int) → K + d ≤ 6 → md + d ≤ N → (md + d = N ∨ K + d = 6) → EV 6 V (cV ω 1) → ∃ ω', am_run (123, 0) 20 ([some (.inr (.inr 0)), some (.inl ((N : Int))), some (.inl ((md : Int))), o3, o4], [], ω) = some (some (.inl ((md + d : Nat) : Int)), ω') ∧ FrC ω ω' ∧ EV 6 (bV n T d K (am_get ω 1 7) V) (cV ω' 1) ∧ ck ω' 1 = ((K + d : Nat) : Int) ∧ am_get ω' 1 7 = bS d (am_get ω 1 7) := by
  intro d
  induction d with
  | zero =>
    intro K ω md V o3 o4 h e1 e2 e3 h6 hm hs E
    refine ⟨ω, ?_, ⟨Dc.rf ω, fun _ _ _ _ => rfl⟩, E, e3, rfl⟩
    rw [pX6_bolts_20 _ _ _ _ _ _ (i_0 h) (by simp only [Int.toNat_zero, f_0_0 h]; exact i_1 h)]
    simp only [am_bi_s, am_bl_s, am_ba_s, am_bv_s, Int.toNat_zero, Int.reduceToNat, Int.toNat_natCast, if_true, if_false, not_true, not_false_eq_true, Int.reduceEq, Int.reduceLT, Int.reduceLE, i_0 h, i_1 h, f_0_0 h, f_0_3 h, f_0_4 h, f_1_1 h, f_1_2 h, f_1_4 h, c_isFull h W1, e3, Nat.add_zero]
    by_cases q : (N : Int) ≤ (md : Int)
    · rw [if_pos q]
    · rw [if_neg q, b01_pos (by omega), if_pos (by omega)]
  | succ d ih =>
    intro K ω md V o3 o4 h e1 e2 e3 h6 hm hs E
    have y1 : ¬ (N : Int) ≤ (md : Int) := by omega
    have y2 : ¬ (6 : Int) ≤ (K : Int) := by omega
    have y3 : K + 1 + d ≤ 6 := by omega
    have y4 : md + 1 + d ≤ N := by omega
    have y5 : md + 1 + d = N ∨ K + 1 + d = 6 := by omega
    have y6 : md + 1 + d = md + (d + 1) := by omega
    have y7 : K + 1 + d = K + (d + 1) := by omega
    have y8 : K < 6 := by omega
    have y9 : (K : Int) + 1 = ((K + 1 : Nat) : Int) := by omega
    have m1 : am_w ((md : Int) + 1) = ((md + 1 : Nat) : Int) := (am_w_s (by omega) (by omega)).trans (by omega)
    have c0 := bc_ok (n := n) (sd := am_get ω 1 7) hn.1
    have tt := hT (bc n (am_get ω 1 7)).toNat (by omega)
    have D1 : ∀ x, Dc ω (am_put ω 1 7 x) := fun x => Dc.put (am_rp_at (bs_sh h (a := 1) rfl))
    have B1 := fun x => h.dc (D1 x)
    have dr1 := c_draw h W1 (t := n) hn.1
    have dr2 := fun x => c_draw (B1 x) W1 (t := T (bc n (am_get ω 1 7)).toNat) tt.1
    have tm := fun x => c_timeOf (B1 x) W1 (c := bc n (am_get ω 1 7)) c0.1 (by rw [show cn (am_put ω 1 7 x) 1 = cn ω 1 from gp_place (by omega), e1]; exact c0.2) (by rw [show cn (am_put ω 1 7 x) 1 = cn ω 1 from gp_place (by omega), e1]; exact hn.2)
    have tT : ∀ x, cT (am_put ω 1 7 x) 1 = T := fun x => (funext fun j => gp_cell (by decide)).trans e2
    have kk : ∀ x, ck (am_put ω 1 7 x) 1 = (K : Int) := fun x => (gp_place (by omega)).trans e3
    have cn' : am_get ω 1 0 = n := e1
    simp only [Int.reduceToNat, gp_same, put_put] at dr1 dr2
    simp only [tT] at tm
    have ad := fun x => c_addShip (B1 x) W1 (n := K) y8 (kk x) (k := 3) (c := bc n (am_get ω 1 7)) (p := bp n T (am_get ω 1 7)) (d := 0)
    have q := pX6_bolts_20 0 (N : Int) (md : Int) o3 o4 ω (i_0 h) (by simp only [Int.toNat_zero, f_0_0 h]; exact i_1 h)
    have dr1' : am_run (82, 0) 0 ([some (.inr (.inr 1)), some (.inl n)], [], ω) = some (some (.inl (bc n (am_get ω 1 7))), am_put ω 1 7 (bz (am_get ω 1 7))) := dr1
    have dr2' : am_run (82, 0) 0 ([some (.inr (.inr 1)), some (.inl (T (bc n (am_get ω 1 7)).toNat))], [], (am_put ω 1 7 (bz (am_get ω 1 7)))) = some (some (.inl (bp n T (am_get ω 1 7))), am_put ω 1 7 (bz (bz (am_get ω 1 7)))) := dr2 _
    simp only [am_bi_s, am_bl_s, am_ba_s, am_bv_s, Int.toNat_zero, Int.reduceToNat, Int.toNat_natCast, if_true, if_false, not_true, not_false_eq_true, Int.reduceEq, Int.reduceLT, Int.reduceLE, i_0 h, i_1 h, f_0_0 h, f_0_3 h, f_0_4 h, f_1_1 h, f_1_2 h, f_1_4 h, c_isFull h W1, e3, b01_neg y2, if_neg y1, cn', dr1', i_0 (B1 _), i_1 (B1 _), f_0_0 (B1 _), f_0_3 (B1 _), f_0_4 (B1 _), f_1_1 (B1 _), f_1_2 (B1 _), f_1_4 (B1 _), tm, dr2', ad, m1] at q
    have DA := addS_dc (B1 (bz (bz (am_get ω 1 7)))) W1 (n := K) y8 (k := 3) (c := bc n (am_get ω 1 7)) (p := bp n T (am_get ω 1 7)) (d := 0)
    have oA : ∀ a k, ¬ (5 ≤ a ∧ a ≤ 10) → ¬ (a = 1 ∧ (k = 3 ∨ k = 7)) → am_get (addS (am_put ω 1 7 (bz (bz (am_get ω 1 7)))) 1 K 3 (bc n (am_get ω 1 7)) (bp n T (am_get ω 1 7)) 0) a k = am_get ω a k := fun a k g1 g2 => (addS_o (by omega)).trans (if_neg (by omega))
    have sA : am_get (addS (am_put ω 1 7 (bz (bz (am_get ω 1 7)))) 1 K 3 (bc n (am_get ω 1 7)) (bp n T (am_get ω 1 7)) 0) 1 7 = bz (bz (am_get ω 1 7)) := (addS_o (by omega)).trans gp_same
    obtain ⟨ω', r, F, E', k', s'⟩ := ih (K + 1) _ (md + 1) (fun i => if i = K then nv 3 (bc n (am_get ω 1 7)) (bp n T (am_get ω 1 7)) 0 else V i) (some (.inl (bc n (am_get ω 1 7)))) (some (.inl (bp n T (am_get ω 1 7)))) ((B1 _).dc DA) ((oA _ _ (by decide) (by decide)).trans e1) ((funext fun j => oA _ _ (by decide) (fun z => absurd z.1 (by decide))).trans e2) (addS_k.trans y9) y3 y4 y5 (fun i hi f hf => by
      dsimp only
      by_cases g : i = K
      · rw [if_pos g, g]
        exact (addS_v W1 hf).symm
      · rw [if_neg g]
        refine (E i hi f hf).trans (Eq.symm ((addS_o (by omega)).trans (gp_cell (by omega)))))
    refine ⟨ω', ?_, ⟨(D1 _).tr (DA.tr F.1), fun a k g1 g2 => (F.2 a k g1 g2).trans (oA a k g1 g2)⟩, ?_, ?_, ?_⟩
    · rw [q, r, y6]
    · rw [sA] at E'
      exact E'
    · rw [k', y7]
    · rw [s', sA]
      rfl
theorem m_bolts {n : Int} {T : Nat → Int} {N : Nat} (hN : N ≤ 6) (hn : 2 ≤ n ∧ n ≤ 6) (hT : Tok T) : ∀ (d K : Nat) (ω : am_W) (md : Nat) (V : Nat → Nat → Int) (o3 : Option am_V), Bs ω → mn ω = n → E6 T (mT ω) → mk ω = (K : Int) → K + d ≤ 6 → md + d ≤ N → (md + d = N ∨ K + d = 6) → EV 6 V (mV ω) → ∃ ω', am_run (227, 0) 19 ([some (.inr (.inr 53)), some (.inl ((N : Int))), some (.inl ((md : Int))), o3], [], ω) = some (some (.inl ((md + d : Nat) : Int)), ω') ∧ FrD ω ω' ∧ EV 6 (bV n T d K (am_get ω 53 14) V) (mV ω') ∧ mk ω' = ((K + d : Nat) : Int) ∧ am_get ω' 53 14 = bS d (am_get ω 53 14) := by
  intro d
  induction d with
  | zero =>
    intro K ω md V o3 h e1 e2 e3 h6 hm hs E
    refine ⟨ω, ?_, ⟨Dc.rf ω, fun _ _ _ _ => rfl⟩, E, e3, rfl⟩
    have e3' : am_get ω 53 6 = (K : Int) := e3
    rw [pX7_bolts_19 _ _ _ _ _ (i_53 h)]
    simp only [am_bi_s, am_bl_s, am_ba_s, am_bv_s, Int.toNat_zero, Int.reduceToNat, Int.toNat_natCast, if_true, if_false, not_true, not_false_eq_true, Int.reduceEq, Int.reduceLT, Int.reduceLE, e3', Nat.add_zero]
    by_cases q : (N : Int) ≤ (md : Int)
    · rw [if_pos q]
    · rw [if_neg q, if_pos (by omega)]
  | succ d ih =>
    intro K ω md V o3 h e1 e2 e3 h6 hm hs E
    have y1 : ¬ (N : Int) ≤ (md : Int) := by omega
    have y2 : ¬ (6 : Int) ≤ (K : Int) := by omega
    have y3 : K + 1 + d ≤ 6 := by omega
    have y4 : md + 1 + d ≤ N := by omega
    have y5 : md + 1 + d = N ∨ K + 1 + d = 6 := by omega
    have y6 : md + 1 + d = md + (d + 1) := by omega
    have y7 : K + 1 + d = K + (d + 1) := by omega
    have y8 : K < 6 := by omega
    have y9 : (K : Int) + 1 = ((K + 1 : Nat) : Int) := by omega
    have m1 : am_w ((md : Int) + 1) = ((md + 1 : Nat) : Int) := (am_w_s (by omega) (by omega)).trans (by omega)
    have c0 := bc_ok (n := n) (sd := am_get ω 53 14) hn.1
    have tt := hT (bc n (am_get ω 53 14)).toNat (by omega)
    have D1 : ∀ x, Dc ω (am_put ω 53 14 x) := fun x => Dc.put (am_rp_at (bs_sh h (a := 53) rfl))
    have B1 := fun x => h.dc (D1 x)
    have dr1 := m_draw h (t := n) hn.1
    have dr2 := fun x => m_draw (B1 x) (t := T (bc n (am_get ω 53 14)).toNat) tt.1
    have gT : ∀ x, am_get (am_put ω 53 14 x) 57 (bc n (am_get ω 53 14)).toNat = T (bc n (am_get ω 53 14)).toNat := fun x => (gp_cell (by decide)).trans (e2 _ (by omega)).symm
    have kk : ∀ x, mk (am_put ω 53 14 x) = (K : Int) := fun x => (gp_place (by omega)).trans e3
    have cn' : am_get ω 53 3 = n := e1
    have ck' : am_get ω 53 6 = (K : Int) := e3
    simp only [gp_same, put_put] at dr2
    have ad := fun x => m_newShip (B1 x) (n := K) y8 (kk x) (k := 3) (c := bc n (am_get ω 53 14)) (p := bp n T (am_get ω 53 14)) (d := 0)
    have q := pX7_bolts_19 53 (N : Int) (md : Int) o3 ω (i_53 h)
    have dr1' : am_run (226, 0) 0 ([some (.inr (.inr 53)), some (.inl n)], [], ω) = some (some (.inl (bc n (am_get ω 53 14))), am_put ω 53 14 (bz (am_get ω 53 14))) := dr1
    have dr2' : am_run (226, 0) 0 ([some (.inr (.inr 53)), some (.inl (T (bc n (am_get ω 53 14)).toNat))], [], (am_put ω 53 14 (bz (am_get ω 53 14)))) = some (some (.inl (bp n T (am_get ω 53 14))), am_put ω 53 14 (bz (bz (am_get ω 53 14)))) := dr2 _
    simp only [am_bi_s, am_bl_s, am_ba_s, am_bv_s, Int.toNat_zero, Int.reduceToNat, Int.toNat_natCast, if_true, if_false, not_true, not_false_eq_true, Int.reduceEq, Int.reduceLT, Int.reduceLE, ck', if_neg y2, if_neg y1, cn', dr1', i_53 (B1 _), f_53_0 (B1 _), f_53_1 (B1 _), f_53_2 (B1 _), f_53_4 (B1 _), f_53_5 (B1 _), f_53_7 (B1 _), f_53_8 (B1 _), f_53_9 (B1 _), f_53_10 (B1 _), f_53_11 (B1 _), n_57 (B1 _) (i := bc n (am_get ω 53 14)) c0.1 (by omega), gT, dr2', ad, m1] at q
    have DA := newS_dc (B1 (bz (bz (am_get ω 53 14)))) (n := K) (k := 3) (c := bc n (am_get ω 53 14)) (p := bp n T (am_get ω 53 14)) (d := 0)
    have oA : ∀ a k, ¬ (59 ≤ a ∧ a ≤ 63) → ¬ (a = 53 ∧ (k = 6 ∨ k = 14)) → am_get (newS (am_put ω 53 14 (bz (bz (am_get ω 53 14)))) K 3 (bc n (am_get ω 53 14)) (bp n T (am_get ω 53 14)) 0) a k = am_get ω a k := fun a k g1 g2 => (newS_o (by omega)).trans (if_neg (by omega))
    have sA : am_get (newS (am_put ω 53 14 (bz (bz (am_get ω 53 14)))) K 3 (bc n (am_get ω 53 14)) (bp n T (am_get ω 53 14)) 0) 53 14 = bz (bz (am_get ω 53 14)) := (newS_o (by omega)).trans gp_same
    obtain ⟨ω', r, F, E', k', s'⟩ := ih (K + 1) _ (md + 1) (fun i => if i = K then nv 3 (bc n (am_get ω 53 14)) (bp n T (am_get ω 53 14)) 0 else V i) (some (.inl (bc n (am_get ω 53 14)))) ((B1 _).dc DA) ((oA _ _ (by decide) (by decide)).trans e1) (fun j hj => (e2 j hj).trans (oA _ _ (by decide) (fun z => absurd z.1 (by decide))).symm) (newS_k.trans y9) y3 y4 y5 (fun i hi f hf => by
      dsimp only
      by_cases g : i = K
      · rw [if_pos g, g]
        exact (newS_v hf).symm
      · rw [if_neg g]
        refine (E i hi f hf).trans (Eq.symm ((newS_o (by omega)).trans (gp_cell (by omega)))))
    refine ⟨ω', ?_, ⟨(D1 _).tr (DA.tr F.1), fun a k g1 g2 => (F.2 a k g1 g2).trans (oA a k g1 g2)⟩, ?_, ?_, ?_⟩
    · rw [q, r, y6]
    · rw [sA] at E'
      exact E'
    · rw [k', y7]
    · rw [s', sA]
      rfl
theorem k_bolts (h : Inv ω) (n : Int) : Pair 123 227 [some (.inr (.inr 0)), some (.inl n), none, none, none] [some (.inr (.inr 53)), some (.inl n), none, none] ω := by
  have h0 := h.1
  obtain ⟨e1, e2, e3, e4⟩ := inv_k h
  have b := fun k => rfz_bs (k := k) h0
  by_cases hn : 1 ≤ n ∧ n ≤ 6
  · obtain ⟨N, rfl⟩ : ∃ N : Nat, n = N := ⟨n.toNat, by omega⟩
    obtain ⟨K, hK⟩ : ∃ K : Nat, ck ω 1 = K := ⟨(ck ω 1).toNat, by omega⟩
    obtain ⟨d, hd⟩ : ∃ d : Nat, d = min N (6 - K) := ⟨_, rfl⟩
    have O : OV (cn ω 1) (cT ω 1) K (cV ω 1) := fun i hi => by
      have := inv_O h (i := i) (by omega)
      rw [← V_at] at this
      exact this
    obtain ⟨ω1, r1, F1, E1, k1, s1⟩ := c_bolts (N := N) (by omega) e4 (inv_Tok h) d K ω 0 (cV ω 1) none none h0 rfl rfl hK (by omega) (by omega) (by omega) (fun _ _ _ _ => rfl)
    have b1 := h0.dc F1.1
    have m14 : am_get ω1 53 14 = am_get ω 53 14 := F1.2 _ _ (by omega) (by omega)
    have e14 : am_get ω 53 14 = am_get ω 1 7 := h.2.1.2.2.2.2.2.2.2
    obtain ⟨ω2, r2, F2, E2, k2, s2⟩ := m_bolts (N := N) (n := cn ω 1) (T := cT ω 1) (by omega) e4 (inv_Tok h) d K ω1 0 (cV ω 1) none b1 ((F1.2 _ _ (by omega) (by omega)).trans e2) (fun j hj => (inv_E6 h j hj).trans (F1.2 _ _ (by omega) (by omega)).symm) ((F1.2 _ _ (by omega) (by omega)).trans (e1.trans hK)) (by omega) (by omega) (by omega) (fun i hi f hf => ((inv_V h hi hf).symm).trans (F1.2 _ _ (by omega) (by omega)).symm)
    rw [m14, e14] at E2 s2
    have p1 := pX6_bolts_0 0 (N : Int) ω (i_0 h0)
    have p2 := pX7_bolts_0 53 (N : Int) ω1
    rw [show (some (.inl ((0 : Nat) : Int)) : Option am_V) = some (.inl 0) from rfl] at r1 r2
    simp only [am_bi_s, am_bl_s, am_ba_s, am_bv_s, Int.toNat_zero, Int.reduceToNat, Int.toNat_natCast, if_true, if_false, not_true, not_false_eq_true, Int.reduceEq, Int.reduceLT, Int.reduceLE, if_neg (show ¬ (N : Int) < 1 by omega), if_pos hn.2, r1] at p1
    simp only [m_in1, b01_pos hn, am_bi_s, am_bl_s, am_ba_s, am_bv_s, Int.toNat_zero, Int.reduceToNat, Int.toNat_natCast, if_true, if_false, not_true, not_false_eq_true, Int.reduceEq, Int.reduceLT, Int.reduceLE, r2] at p2
    have e : ∀ a k, ¬ ((5 ≤ a ∧ a ≤ 10) ∨ (59 ≤ a ∧ a ≤ 63) ∨ (a = 1 ∧ (k = 3 ∨ k = 7)) ∨ (a = 53 ∧ (k = 6 ∨ k = 14))) → am_get ω2 a k = am_get ω a k := fun a k g => (F2.2 a k (by omega) (by omega)).trans (F1.2 a k (by omega) (by omega))
    have vv : ∀ i, i < 6 → E5 (am_get ω2 (5 + i)) (bV (cn ω 1) (cT ω 1) d K (am_get ω 1 7) (cV ω 1) i) := fun i hi f hf => by
      rw [F2.2 _ _ (by omega) (by omega)]
      have := E1 i hi f hf
      rw [this, ← V_at]
      rfl
    have w3 : am_get ω2 1 3 = ((K + d : Nat) : Int) := (F2.2 _ _ (by omega) (by omega)).trans k1
    have w7 : am_get ω2 1 7 = bS d (am_get ω 1 7) := (F2.2 _ _ (by omega) (by omega)).trans s1
    refine ⟨_, _, _, p1, b1, F1.1.2.1, p2, F2.1.2.1.trans F1.1.2.1, inv_kp _ h (F1.1.tr F2.1) e (Or.inr ?_) (Or.inr ?_) (Or.inl (fun a k s b => by unfold S_tape at s; omega)) (Or.inr ?_) (Or.inl (fun a k s b => by unfold S_ref at s; omega)) (Or.inl (fun a k s b => by unfold S_img at s; omega))⟩
    · obtain ⟨q1, q2, q3, q4, q5, q6, q7, q8⟩ := h.2.1
      refine ⟨fun i hi f hf => ?_, fun j hj => ?_, fun j hj => ?_, ?_, ?_, ?_, ?_, ?_⟩
      · exact (E2 i hi f hf).symm.trans (vv i hi f hf).symm
      · exact (e _ _ (by omega)).trans ((q2 j hj).trans (e _ _ (by omega)).symm)
      · exact (e _ _ (by omega)).trans ((q3 j hj).trans (e _ _ (by omega)).symm)
      · exact (e _ _ (by omega)).trans (q4.trans (e _ _ (by omega)).symm)
      · exact k2.trans w3.symm
      · exact (e _ _ (by omega)).trans (q6.trans (e _ _ (by omega)).symm)
      · exact (e _ _ (by omega)).trans (q7.trans (e _ _ (by omega)).symm)
      · exact s2.trans w7.symm
    · obtain ⟨q1, q2, q3, q4, q5, q6⟩ := h.2.2.1
      have eT : ω2.2.1 (1 + 1) = ω.2.1 (1 + 1) := funext fun k => e _ _ (by omega)
      unfold O_sky
      rw [show ω2.2.1 1 0 = ω.2.1 1 0 from e _ _ (by omega), show ω2.2.1 1 3 = ((K + d : Nat) : Int) from w3, eT, show ω2.2.1 1 6 = ω.2.1 1 6 from e _ _ (by omega)]
      refine ⟨q1, by omega, q3, fun j hj => by rw [show ω2.2.1 (1 + 2) j = ω.2.1 (1 + 2) j from e _ _ (by omega)]; exact q4 j hj, fun i hi => ?_, q6⟩
      have := O_c e4.2 (fun f hf => ((vv i (by omega)) f hf).symm) (fun _ _ => rfl : E6 (cT ω 1) (cT ω 1)) (bV_O e4 (inv_Tok h) d K (am_get ω 1 7) (cV ω 1) O i (by omega))
      rw [show 5 + i = 1 + 4 + i by omega] at this
      exact this
    · intro s hs
      obtain ⟨q1, q2, q3⟩ := h.2.2.2.2.1 s hs
      rw [show ω2.2.1 54 s = ω.2.1 54 s from e _ _ (by omega), show ω2.2.1 (37 + 2 * s) 0 = ω.2.1 (37 + 2 * s) 0 from e _ _ (by omega), show ω2.2.1 55 s = ω.2.1 55 s from e _ _ (by omega), show ω2.2.1 (37 + 2 * s) 1 = ω.2.1 (37 + 2 * s) 1 from e _ _ (by omega), show ω2.2.1 1 3 = ((K + d : Nat) : Int) from w3]
      refine ⟨q1, fun j hj => ?_, ?_⟩
      · rw [show ω2.2.1 56 (40 * s + j) = ω.2.1 56 (40 * s + j) from e _ _ (by omega), show ω2.2.1 (38 + 2 * s) j = ω.2.1 (38 + 2 * s) j from e _ _ (by omega)]
        exact q2 j hj
      · rcases q3 with q | q | q
        · exact Or.inl q
        · exact Or.inr (Or.inl q)
        · have : ω.2.1 1 3 = (K : Int) := hK
          exact Or.inr (Or.inr ⟨q.1, by omega⟩)
  · have p1 := pX6_bolts_0 0 n ω (i_0 h0)
    have p1' : am_run (123, 0) 0 ([some (.inr (.inr 0)), some (.inl n), none, none, none], [], ω) = some (some (.inl (-2)), rfz ω 0) := by
      rw [p1]
      simp only [am_bi_s, am_bl_s, am_ba_s, am_bv_s, Int.toNat_zero, Int.reduceToNat, Int.toNat_natCast, if_true, if_false, not_true, not_false_eq_true, Int.reduceEq, Int.reduceLT, Int.reduceLE, c_r2 h0]
      by_cases g : n < 1
      · rw [if_pos g]
      · rw [if_neg g, if_neg (by omega)]
    refine pair_ref h 0 (by omega) p1' ?_
    rw [pX7_bolts_0]
    simp only [m_in1, b01_neg hn, am_bi_s, am_bl_s, am_ba_s, am_bv_s, Int.toNat_zero, Int.reduceToNat, Int.toNat_natCast, if_true, if_false, not_true, not_false_eq_true, Int.reduceEq, Int.reduceLT, Int.reduceLE, i_53 (b 0), m_r2 (b 0)]
end K29
