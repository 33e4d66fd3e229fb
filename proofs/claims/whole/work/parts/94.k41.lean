/-! ===== told flights: the model's ===== -/
section K41
variable {ω : am_W}
theorem m_isCode0 {i : Int} : am_run (189, 0) 0 ([some (.inr (.inr 53)), some (.inl i), some (.inl 0)], [], ω) = some (some (.inl 1), ω) := by
  rw [pX7_isCode_0]
  rfl
def FrF (ω ω' : am_W) : Prop := Dc ω ω' ∧ ∀ a k, ¬ ((59 ≤ a ∧ a ≤ 63) ∧ k < 6) → ¬ (a = 53 ∧ k = 29) → am_get ω' a k = am_get ω a k
theorem FrF.tr {ω1 ω2 : am_W} (h : FrF ω ω1) (g : FrF ω1 ω2) : FrF ω ω2 := ⟨h.1.tr g.1, fun a k h1 h2 => (g.2 a k h1 h2).trans (h.2 a k h1 h2)⟩
theorem FrF.of {ω1 : am_W} (h : FrM6 ω ω1) : FrF ω ω1 := ⟨h.1, fun a k h1 _ => h.2 a k h1⟩
theorem FrF.rf : FrF ω ω := ⟨Dc.rf ω, fun _ _ _ _ => rfl⟩
theorem FrF.put (h : Bs ω) {x : Int} : FrF ω (am_put ω 53 29 x) := ⟨Dc.put (am_rp_at (bs_sh h (a := 53) rfl)), fun a k _ h2 => if_neg h2⟩
theorem m_fly {n : Int} {C T L : Nat → Int} {s N K i : Nat} {V : Nat → Nat → Int} {oj : Int} (h6 : K ≤ 6) (hn : 2 ≤ n ∧ n ≤ 6) (hT : Tok T) (hC : Cok C) (hs : s < 8) (hN : N ≤ 40) (hi : i < K) (hoj : oj < 0 ∨ ∃ j : Nat, oj = (j : Int) ∧ j < K ∧ j ≠ i) : ∀ d m, m + d = N → ∀ ω (o6 o7 o8 : Option am_V), Bs ω → mn ω = n → E6 T (mT ω) → (∀ j, j < 5 → C j = mC ω j) → mk ω = (K : Int) → (∀ x, x < 40 → am_get ω 56 (40 * s + x) = L x) → OV n T K (flS n C T K i L V m) → EV 6 (flS n C T K i L V m) (mV ω) → (∀ j : Nat, oj = (j : Int) → am_get ω 53 29 = ff (fun m => fW (flS n C T K i L V m i) (flS n C T K i L V m j)) 0 (m + 1)) → ∃ ω', am_run (196, 0) 27 ([some (.inr (.inr 53)), some (.inl ((s : Int))), some (.inl ((N : Int))), some (.inl ((i : Int))), some (.inl oj), some (.inl ((m : Int))), o6, o7, o8], [], ω) = some (some (.inl (ff (fun m => ¬ codeF n C (flS n C T K i L V m i) (L m)) m d)), ω') ∧ FrF ω ω' ∧ (ff (fun m => ¬ codeF n C (flS n C T K i L V m i) (L m)) m d = -1 → E5 (flS n C T K i L V N i) (mV ω' i) ∧ ∀ j : Nat, oj = (j : Int) → am_get ω' 53 29 = ff (fun m => fW (flS n C T K i L V m i) (flS n C T K i L V m j)) 0 (N + 1)) := by
  intro d
  induction d with
  | zero =>
    intro m hm ω o6 o7 o8 h e1 e2 e3 e4 e5 O E M
    obtain rfl : m = N := by omega
    refine ⟨ω, ?_, FrF.rf, fun _ => ⟨E i (by omega), M⟩⟩
    rw [pX7_fly_27 _ _ _ _ _ _ _ _ _ _ (i_53 h), if_pos (by omega)]
    rfl
  | succ d ih =>
    intro m hm ω o6 o7 o8 h e1 e2 e3 e4 e5 O E M
    have ix : am_w (am_w (40 * (s : Int)) + (m : Int)) = ((40 * s + m : Nat) : Int) := by
      rw [am_w_s (z := 40 * (s : Int)) (by omega) (by omega), am_w_s (by omega) (by omega)]; omega
    have eL := e5 m (by omega)
    have q := pX7_fly_27 53 s N i oj m o6 o8 o7 ω (i_53 h)
    rw [if_neg (by omega), ix] at q
    simp only [am_bi_s, am_bl_s, am_ba_s, am_bv_s, Int.toNat_zero, Int.reduceToNat, Int.toNat_natCast, if_true, if_false, not_true, not_false_eq_true, Int.reduceEq, Int.reduceLT, Int.reduceLE, i_53 h, f_53_0 h, f_53_1 h, f_53_2 h, f_53_4 h, f_53_5 h, f_53_7 h, f_53_8 h, f_53_9 h, f_53_10 h, f_53_11 h, n_56 h (i := ((40 * s + m : Nat) : Int)) (by omega) (by omega), eL] at q
    have Oi := O i hi
    have mOi := O_c hn.2 (E i (by omega)) e2 Oi
    have cc := code_c (n := n) (C := C) (C' := mC ω) (d := L m) hn.2 (E i (by omega)) e3
    by_cases g : codeF n C (flS n C T K i L V m i) (L m)
    · have L3 : L m = 0 ∨ L m = 1 ∨ L m = 2 := by
        rcases g with z | ⟨z, _⟩
        · exact Or.inl z
        · exact Or.inr z
      have nw : am_w (L m) = L m := am_w_s (by omega) (by omega)
      have c1 : ¬ am_cmp (L m) 0 < 0 := by unfold am_cmp; rw [if_neg (by omega)]; by_cases z : L m = 0 <;> simp [z]
      have c2 : ¬ 0 < am_cmp (L m) 2 := by rw [cmp_gt]; omega
      have ic : am_run (189, 0) 0 ([some (.inr (.inr 53)), some (.inl ((i : Int))), some (.inl (L m))], [], ω) = some (some (.inl 1), ω) := by
        rcases g with z | ⟨z, y⟩
        · rw [z]; exact m_isCode0
        · rw [m_isCode h (by rw [e1]; exact hn) (fun j hj => by rw [← e3 j hj]; exact hC j hj) (by omega) mOi.1 (by rw [e1]; exact mOi.2.1) mOi.2.2.2.2.1 z, e1]
          have := cc.mp (Or.inr ⟨z, y⟩)
          rw [b01_pos (by rcases this with w | w; · omega
                          · exact w.2)]
      have ac : ∃ ω1, am_run (191, 0) 0 ([some (.inr (.inr 53)), some (.inl ((i : Int))), some (.inl (L m))], [], ω) = some (none, ω1) ∧ FrM6 ω ω1 ∧ EV 6 (fun k => if k = i then actC n C T (flS n C T K i L V m i) (L m) else flS n C T K i L V m k) (mV ω1) := by
        rcases g with z | ⟨z, y⟩
        · refine ⟨ω, by rw [z]; exact m_acts_0 h, FrM6.rf, fun k hk f hf => ?_⟩
          dsimp only
          unfold actC
          rw [if_pos z]
          by_cases w : k = i
          · rw [if_pos w, w]; exact E i (by omega) f hf
          · rw [if_neg w]; exact E k hk f hf
        · have y' : canF n (mC ω) (mV ω i) (L m) := (can_c hn.2 (E i (by omega)) e3).mp y
          refine ⟨_, m_actsM h (by rw [e1]; exact hn) (fun j hj => by rw [← e2 j hj]; exact hT j hj) (fun j hj => by rw [← e3 j hj]; exact hC j hj) (by omega) z (by rw [e1]; exact mOi) (by rw [e1]; exact y'), FrM6.set h (by omega), fun k hk f hf => ?_⟩
          dsimp only
          unfold actC
          rw [if_neg (show ¬ L m = 0 by omega)]
          by_cases w : k = i
          · rw [if_pos w, w, setM_V hf, e1]
            exact act_c hn.2 z Oi y (E i (by omega)) e2 e3 f hf
          · rw [if_neg w, setM_Vo w]
            exact E k hk f hf
      obtain ⟨ω1, r1, F1, E1⟩ := ac
      obtain ⟨a1, a2, a3, a4⟩ := F1.rd
      have h1 := h.dc F1.1
      have OA : OV n T K (fun k => if k = i then actC n C T (flS n C T K i L V m i) (L m) else flS n C T K i L V m k) := fun k hk => by
        dsimp only
        by_cases w : k = i
        · rw [if_pos w]
          unfold actC
          rcases g with z | ⟨z, y⟩
          · rw [if_pos z]; exact Oi
          · rw [if_neg (by omega)]; exact act_O hn.2 hT hC Oi z y
        · rw [if_neg w]; exact O k hk
      obtain ⟨ω2, r2, F2, E2⟩ := m_flyDrift h6 hn.2 hT (s : Int) (N : Int) (i : Int) oj (m : Int) (L m) K 0 (by omega) ω1 _ h1 (a1.trans e1) (by rw [a3]; exact e2) (a2.trans e4) OA E1
      have F12 := F1.tr F2
      have h2 := h.dc F12.1
      obtain ⟨b1, b2, b3, b4⟩ := F12.rd
      have E2' : EV 6 (flS n C T K i L V (m + 1)) (mV ω2) := fun k hk f hf => by
        rw [← E2 k hk f hf]
        show drS T K _ k f = _
        unfold drS
        dsimp only
        have w : (0 ≤ k ∧ k < K) = (k < K) := propext (by omega)
        simp only [w]
      have O2 : OV n T K (flS n C T K i L V (m + 1)) := drS_O hn.2 hT OA
      have k2 : am_get ω2 53 6 = (K : Int) := b2.trans e4
      have m29 : am_get ω2 53 29 = am_get ω 53 29 := F12.2 53 29 (by omega)
      have fin : ∀ ω3, FrF ω ω3 → mV ω3 = mV ω2 → (∀ j : Nat, oj = (j : Int) → am_get ω3 53 29 = ff (fun m => fW (flS n C T K i L V m i) (flS n C T K i L V m j)) 0 (m + 1 + 1)) → ∃ ω', am_run (196, 0) 27 ([some (.inr (.inr 53)), some (.inl ((s : Int))), some (.inl ((N : Int))), some (.inl ((i : Int))), some (.inl oj), some (.inl (((m + 1 : Nat) : Int))), some (.inr (.inl (L m))), none, some (.inl ((K : Int)))], [], ω3) = some (some (.inl (ff (fun m => ¬ codeF n C (flS n C T K i L V m i) (L m)) m (d + 1))), ω') ∧ FrF ω ω' ∧ (ff (fun m => ¬ codeF n C (flS n C T K i L V m i) (L m)) m (d + 1) = -1 → E5 (flS n C T K i L V N i) (mV ω' i) ∧ ∀ j : Nat, oj = (j : Int) → am_get ω' 53 29 = ff (fun m => fW (flS n C T K i L V m i) (flS n C T K i L V m j)) 0 (N + 1)) := fun ω3 G ev mt => by
        obtain ⟨ω', r, F', c'⟩ := ih (m + 1) (by omega) ω3 (some (.inr (.inl (L m)))) none (some (.inl (K : Int))) (h.dc G.1) ((G.2 _ _ (by omega) (by omega)).trans e1) (fun j hj => (e2 j hj).trans (G.2 _ _ (by omega) (by omega)).symm) (fun j hj => (e3 j hj).trans (G.2 _ _ (by omega) (by omega)).symm) ((G.2 _ _ (by omega) (by omega)).trans e4) (fun x hx => (G.2 _ _ (by omega) (by omega)).trans (e5 x hx)) O2 (by rw [ev]; exact E2') mt
        rw [ff_n (p := fun m => ¬ codeF n C (flS n C T K i L V m i) (L m)) (fun z => z g)]
        exact ⟨ω', r, G.tr F', c'⟩
      have q88 := pX7_fly_88 53 s N i oj m (L m) K ω2 (i_53 h2)
      simp only [Int.reduceToNat, k2, m29] at q88
      rw [if_pos (by omega), am_w_s (z := (m : Int) + 1) (by omega) (by omega), show (m : Int) + 1 = ((m + 1 : Nat) : Int) by omega] at q88
      rw [nw, if_neg c1, if_neg c2, bi_v ic, if_pos (by omega), if_pos (i_53 h), bv_v r1] at q
      rw [show (some (.inl 0) : Option am_V) = some (.inl ((0 : Nat) : Int)) from rfl, r2, q88] at q
      by_cases gm : am_get ω 53 29 = -1
      · rw [if_neg (fun z => z gm)] at q
        rcases hoj with z | ⟨j, z, jK, jn⟩
        · rw [if_pos z] at q
          rw [q]
          exact fin ω2 (FrF.of F12) rfl (fun j w => by omega)
        · rw [if_neg (by omega), z] at q
          have mm := m_meet h2 (i := i) (j := j) (by omega) (by omega)
          have Mj := M j z
          rw [gm] at Mj
          have sn := ff_snoc (p := fun m => fW (flS n C T K i L V m i) (flS n C T K i L V m j)) (m + 1) 0
          rw [Nat.zero_add] at sn
          have fe := fW_c (E2' i (by omega)) (E2' j (by omega))
          simp only [am_bi_s, am_bl_s, am_ba_s, am_bv_s, Int.toNat_zero, Int.reduceToNat, Int.toNat_natCast, if_true, if_false, not_true, not_false_eq_true, Int.reduceEq, Int.reduceLT, Int.reduceLE, mm, i_53 h2] at q
          by_cases gq : fW (flS n C T K i L V (m + 1) i) (flS n C T K i L V (m + 1) j)
          · rw [b01_pos (fe.mp gq), if_neg (by omega)] at q
            rw [z, q, ← z]
            refine fin _ ((FrF.of F12).tr (FrF.put h2)) (funext fun a => funext fun f => gp_cell (by omega)) (fun j' w => ?_)
            obtain rfl : j' = j := by omega
            rw [gp_same]
            exact (sn.2.1 Mj.symm gq).symm
          · rw [b01_neg (fun w => gq (fe.mpr w)), if_pos rfl] at q
            rw [z, q, ← z]
            refine fin ω2 (FrF.of F12) rfl (fun j' w => ?_)
            obtain rfl : j' = j := by omega
            rw [m29, gm]
            exact (sn.2.2 Mj.symm gq).symm
      · rw [if_pos gm] at q
        rw [q]
        refine fin ω2 (FrF.of F12) rfl (fun j w => ?_)
        have Mj := M j w
        have sn := ff_snoc (p := fun m => fW (flS n C T K i L V m i) (flS n C T K i L V m j)) (m + 1) 0
        rw [m29, Mj]
        exact (sn.1 (by rw [← Mj]; exact gm)).symm
    · refine ⟨ω, ?_, FrF.rf, ?_⟩
      · rw [ff_y (p := fun m => ¬ codeF n C (flS n C T K i L V m i) (L m)) g, q]
        by_cases g1 : am_cmp (L m) 0 < 0
        · rw [if_pos g1]
        · rw [if_neg g1]
          by_cases g2 : 0 < am_cmp (L m) 2
          · rw [if_pos g2]
          · rw [if_neg g2]
            have l0 : 0 ≤ L m := by
              unfold am_cmp at g1
              by_cases z : L m < 0
              · rw [if_pos z] at g1; omega
              · omega
            have l2 : L m ≤ 2 := by rw [cmp_gt] at g2; omega
            have z : L m = 1 ∨ L m = 2 := by
              have : L m ≠ 0 := fun z => g (Or.inl z)
              omega
            rw [am_w_s (by omega) (by omega), m_isCode h (by rw [e1]; exact hn) (fun j hj => by rw [← e3 j hj]; exact hC j hj) (by omega) mOi.1 (by rw [e1]; exact mOi.2.1) mOi.2.2.2.2.1 z, e1, b01_neg (fun y => g (cc.mpr (Or.inr ⟨z, y⟩)))]
            rfl
      · rw [ff_y (p := fun m => ¬ codeF n C (flS n C T K i L V m i) (L m)) g]
        intro z
        omega
end K41
