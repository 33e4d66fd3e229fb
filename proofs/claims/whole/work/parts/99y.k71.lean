/-! ===== round: the model looks who is met ===== -/
section K71
section MG
variable {n : Int} {T C : Nat → Int} {K : Int} {V : Nat → Nat → Int} {mem : Nat → Nat} {M q0 b0 : Nat} {ω : am_W} {t i : Nat}
theorem or8 {j k : Nat} (hj : j < 8) (hk : k < 3) : j ||| 2 ^ k < 8 := by
  have e : ∀ x : Nat, x < 8 → ∀ k : Nat, k < 3 → x ||| 2 ^ k < 8 := by decide
  exact e j hj k hk
/-- the numbers at one spot: one more is met -/
theorem m_137 (h : Bs ω) {set last W best : Int} {k s c r : Nat} (hk : k < 3) (hs : s < 6) (hc : c < 6) (hr : r < 20) (e60 : am_get ω 60 s = (c : Int)) (hq : spF T (V (mem k)) (t : Int) = ((c * 20 + r : Nat) : Int)) : ∀ d j : Nat, j + d = 8 → ∀ (ω1 : am_W) (o11 o12 : Option am_V), F89 ω ω1 → RNS n T C K V mem M q0 b0 ω1 t (k + 1) → (∀ x, am_get ω1 68 x ≤ am_get ω 68 x) → (∀ m, m < j → am_get ω1 68 (stI (c * 20 + r) 0 (m ||| 2 ^ k)) ≤ am_get ω 68 (stI (c * 20 + r) 0 m)) → ∃ (ω2 : am_W) (o9 o10 o11' o12' : Option am_V), am_run (211, 0) 137 ([some (.inr (.inr 53)), some (.inl ((i : Int))), some (.inl set), some (.inl last), some (.inl W), some (.inl best), some (.inl ((t : Int))), some (.inl ((k : Int))), some (.inl ((s : Int))), some (.inl ((r : Int))), some (.inl ((j : Int))), o11, o12], [], ω1) = am_run (211, 0) 103 ([some (.inr (.inr 53)), some (.inl ((i : Int))), some (.inl set), some (.inl last), some (.inl W), some (.inl best), some (.inl ((t : Int))), some (.inl (((k + 1 : Nat) : Int))), some (.inl (((s + 1 : Nat) : Int))), o9, o10, o11', o12'], [], ω2) ∧ F89 ω ω2 ∧ RNS n T C K V mem M q0 b0 ω2 t (k + 1) ∧ (∀ x, am_get ω2 68 x ≤ am_get ω 68 x) ∧ (∀ m, m < 8 → am_get ω2 68 (stI (c * 20 + r) 0 (m ||| 2 ^ k)) ≤ am_get ω 68 (stI (c * 20 + r) 0 m)) := by
  intro d
  induction d with
  | zero =>
    intro j hj ω1 o11 o12 f S le pr
    obtain rfl : j = 8 := by omega
    have Q := pX7_round_137 53 i set last W best t k s r ((8 : Nat) : Int) o11 o12 ω1 (i_53 (h.dc f.1))
    rw [if_pos (by omega), am_w_s (by omega) (by omega), am_w_s (by omega) (by omega), show (k : Int) + 1 = ((k + 1 : Nat) : Int) by omega, show (s : Int) + 1 = ((s + 1 : Nat) : Int) by omega] at Q
    exact ⟨ω1, _, _, _, _, Q, f, S, le, pr⟩
  | succ d ih =>
    intro j hj ω1 o11 o12 f S le pr
    have B1 := h.dc f.1
    have j8 : j < 8 := by omega
    have j1 : j + 1 + d = 8 := by omega
    have r1 : ¬ (r : Int) = -1 := by omega
    have e8 : ¬ (8 : Int) ≤ (j : Int) := by omega
    have s0 : (0 : Int) ≤ (s : Int) := by omega
    have s6 : (s : Int) < 6 := by omega
    have x60 : am_get ω1 60 s = (c : Int) := (f.2 _ _ (by omega) (by omega)).trans e60
    have q120 : c * 20 + r < 120 := by omega
    have o8 := or8 j8 hk
    have ob := or_bit (x := j) j8 hk
    have ms1 : am_run (200, 0) 0 ([some (.inl ((c : Int))), some (.inl ((r : Int))), some (.inl 0), some (.inl ((j : Int)))], [], ω1) = some (some (.inl (stI (c * 20 + r) 0 j : Int)), ω1) := m_state (b := 0) hc hr (by omega) j8
    have ms2 : am_run (200, 0) 0 ([some (.inl ((c : Int))), some (.inl ((r : Int))), some (.inl 0), some (.inl (((j ||| 2 ^ k : Nat) : Int)))], [], ω1) = some (some (.inl (stI (c * 20 + r) 0 (j ||| 2 ^ k) : Int)), ω1) := m_state (b := 0) hc hr (by omega) o8
    have lt1 : ((stI (c * 20 + r) 0 j : Nat) : Int) < 10560 := Int.ofNat_lt.mpr (stI_lt q120 (by omega) j8)
    have lt2 : ((stI (c * 20 + r) 0 (j ||| 2 ^ k) : Nat) : Int) < 10560 := Int.ofNat_lt.mpr (stI_lt q120 (by omega) o8)
    have jw : am_w ((j : Int) + 1) = ((j + 1 : Nat) : Int) := (am_w_s (by omega) (by omega)).trans (by omega)
    have Q := pX7_round_137 53 i set last W best t k s r j o11 o12 ω1 (i_53 B1)
    simp only [am_bi_s, am_bl_s, am_ba_s, am_bv_s, Int.toNat_zero, Int.reduceToNat, Int.toNat_natCast, if_true, if_false, not_true, not_false_eq_true, Int.reduceEq, Int.reduceLT, Int.reduceLE, if_neg e8, if_neg r1, f_53_8 B1, n_60 B1 s0 s6, x60, ms1, i_53 B1, ob, ms2, f_53_25 B1, n_68 B1 (Int.natCast_nonneg _) lt1, n_68 B1 (Int.natCast_nonneg _) lt2, jw] at Q
    clear jw
    by_cases g : am_get ω1 68 (stI (c * 20 + r) 0 (j ||| 2 ^ k)) ≤ am_get ω1 68 (stI (c * 20 + r) 0 j)
    · rw [if_pos g] at Q
      obtain ⟨ω2, a1, a2, a3, a4, r2, rest⟩ := ih (j + 1) j1 ω1 _ _ f S le (fun m hm => by
        by_cases z : m = j
        · rw [z]; exact Int.le_trans g (le _)
        · exact pr m (by omega))
      exact ⟨ω2, a1, a2, a3, a4, Q.trans r2, rest⟩
    · rw [if_neg g] at Q
      have g' := Int.le_of_lt (Int.not_le.mp g)
      have le' : ∀ x, am_get (am_put ω1 68 (stI (c * 20 + r) 0 (j ||| 2 ^ k)) (am_get ω1 68 (stI (c * 20 + r) 0 j))) 68 x ≤ am_get ω1 68 x := fun x => by
        by_cases z : x = stI (c * 20 + r) 0 (j ||| 2 ^ k)
        · rw [z, gp_same]; exact g'
        · rw [gp_place z]; exact Int.le_refl _
      obtain ⟨ω2, a1, a2, a3, a4, r2, rest⟩ := ih (j + 1) j1 (am_put ω1 68 (stI (c * 20 + r) 0 (j ||| 2 ^ k)) (am_get ω1 68 (stI (c * 20 + r) 0 j))) _ _ ⟨f.1.tr (Dc.put (am_rp_at (bs_sh B1 (a := 68) rfl))), fun a k z1 z2 => (gp_cell z1).trans (f.2 a k z1 z2)⟩ (fun q b m hq' hb hm => by
        by_cases z : stI q b m = stI (c * 20 + r) 0 (j ||| 2 ^ k)
        · obtain ⟨rfl, rfl, rfl⟩ := stI_inj hb hm (by omega) o8 z
          rw [gp_same]
          rcases S (c * 20 + r) 0 j q120 (by omega) j8 with y | ⟨d', m', y1, y2, y3⟩
          · exact Or.inl y
          · refine Or.inr ⟨d', m', y1, y2, ?_⟩
            rw [mt_y hq] at y3 ⊢
            exact sub_or2 y3
        · rw [gp_place z]
          exact S q b m hq' hb hm) (fun x => Int.le_trans (le' x) (le x)) (fun m hm => by
        by_cases z : m = j
        · rw [z, gp_same]; exact le _
        · exact Int.le_trans (le' _) (pr m (by omega)))
      exact ⟨ω2, a1, a2, a3, a4, Q.trans r2, rest⟩
/-- the members in the order of the ships -/
def CN (B : Nat → Prop) (cnt : Nat → Nat) (mem : Nat → Nat) (N M : Nat) : Prop := cnt 0 = 0 ∧ cnt N = M ∧ ∀ s, s < N → (B s → cnt s < 3 ∧ cnt (s + 1) = cnt s + 1 ∧ mem (cnt s) = s) ∧ (¬ B s → cnt (s + 1) = cnt s)
theorem m_103 (h : Bs ω) (mp : MP ω i n T C K) (hch : Cht (cvd n T) (cok n C K) (ctg T) (cln T) (cpc n C K)) (hv : cvd n T q0) (hb : b0 ≤ 10) (hM : M ≤ 3) (ht : t ≤ 60) {N : Nat} (hN : am_get ω 53 6 = (N : Int)) (N6 : N ≤ 6) (hV : ∀ s, s < N → E5 (V s) (mV ω s) ∧ O_ship n T (V s)) {B : Nat → Prop} {cnt : Nat → Nat} (cn : CN B cnt mem N M) {set : Int} (hB : ∀ s : Nat, s < N → ∀ ω', am_run (150, 0) 0 ([some (.inl set), some (.inl ((s : Int)))], [], ω') = some (some (.inl (b01 (B s))), ω')) {last W best : Int} : ∀ d s : Nat, s + d = N → ∀ (ω1 : am_W) (o9 o10 o11 o12 : Option am_V), F89 ω ω1 → RNS n T C K V mem M q0 b0 ω1 t (cnt s) → RNC n T C K V mem M q0 b0 ω1 t (cnt s) → ∃ (ω2 : am_W) (o9' o10' o11' o12' : Option am_V), am_run (211, 0) 103 ([some (.inr (.inr 53)), some (.inl ((i : Int))), some (.inl set), some (.inl last), some (.inl W), some (.inl best), some (.inl ((t : Int))), some (.inl ((cnt s : Int))), some (.inl ((s : Int))), o9, o10, o11, o12], [], ω1) = am_run (211, 0) 238 ([some (.inr (.inr 53)), some (.inl ((i : Int))), some (.inl set), some (.inl last), some (.inl W), some (.inl best), some (.inl ((t : Int))), some (.inl ((M : Int))), some (.inl 0), o9', o10', o11', o12'], [], ω2) ∧ F89 ω ω2 ∧ RNS n T C K V mem M q0 b0 ω2 t M ∧ RNC n T C K V mem M q0 b0 ω2 t M := by
  obtain ⟨on, oT, oC, oK, i6, e1, e2, e3, e4⟩ := id mp
  obtain ⟨c0, cN, cs⟩ := cn
  intro d
  induction d with
  | zero =>
    intro s hs ω1 o9 o10 o11 o12 f S Cc
    obtain rfl : s = N := by omega
    rw [cN] at S Cc ⊢
    have Q := pX7_round_103 53 i set last W best t M s o9 o10 o11 o12 ω1 (i_53 (h.dc f.1))
    have e6 : am_get ω1 53 6 = (s : Int) := (f.2 _ _ (by omega) (by omega)).trans hN
    simp only [am_bi_s, am_bl_s, am_ba_s, am_bv_s, Int.toNat_zero, Int.reduceToNat, Int.toNat_natCast, if_true, if_false, not_true, not_false_eq_true, Int.reduceEq, Int.reduceLT, Int.reduceLE, e6, Int.le_refl] at Q
    exact ⟨ω1, _, _, _, _, Q, f, S, Cc⟩
  | succ d ih =>
    intro s hs ω1 o9 o10 o11 o12 f S Cc
    have sN : s < N := by omega
    have B1 := h.dc f.1
    have e6 : am_get ω1 53 6 = (N : Int) := (f.2 _ _ (by omega) (by omega)).trans hN
    have nN : ¬ (N : Int) ≤ (s : Int) := by omega
    have Q := pX7_round_103 53 i set last W best t (cnt s) s o9 o10 o11 o12 ω1 (i_53 B1)
    have sw : am_w ((s : Int) + 1) = ((s + 1 : Nat) : Int) := (am_w_s (by omega) (by omega)).trans (by omega)
    simp only [am_bi_s, am_bl_s, am_ba_s, am_bv_s, Int.toNat_zero, Int.reduceToNat, Int.toNat_natCast, if_true, if_false, not_true, not_false_eq_true, Int.reduceEq, Int.reduceLT, Int.reduceLE, e6, if_neg nN, hB s sN, i_53 B1, sw] at Q
    clear sw
    obtain ⟨cy, cno⟩ := cs s sN
    by_cases g : B s
    · obtain ⟨k3, k1, km⟩ := cy g
      rw [b01_pos g, if_pos (show ¬ (1 : Int) = 0 by omega)] at Q
      obtain ⟨hu, O⟩ := hV s sN
      have mp1 := mp.kp (ω' := ω1) (fun a k ha => f.2 a k (by omega) (by omega))
      obtain ⟨_, _, _, _, _, e1', e2', _, _⟩ := mp1
      have hu1 : E5 (V s) (mV ω1 s) := fun j hj => (hu j hj).trans (f.2 _ _ (by omega) (by omega)).symm
      have e6' : E6 T (mT ω1) := fun j hj => (e2' j hj).symm
      have mO : O_ship (mn ω1) (mT ω1) (mV ω1 s) := by
        obtain ⟨p0, p1, p2, p3, p4⟩ := O
        rw [e1']
        rw [hu1 0 (by omega)] at p0
        rw [hu1 1 (by omega)] at p1 p2
        rw [hu1 2 (by omega)] at p2
        rw [hu1 3 (by omega)] at p3
        rw [hu1 4 (by omega)] at p4
        refine ⟨p0, p1, ?_, p3, p4⟩
        rw [← e6' _ (by omega)]
        exact p2
      have pa := m_placeAt B1 (by rw [e1']; exact on.2) (fun j hj => by rw [e2' j hj]; exact oT j hj) (i := s) (by omega) mO (t := (t : Int)) ⟨by omega, by omega⟩
      rw [← pa_c on.2 O hu1 e6'] at pa
      rw [bi_v pa] at Q
      have fin : ∀ ω2, F89 ω ω2 → RNS n T C K V mem M q0 b0 ω2 t (cnt s + 1) → RNC n T C K V mem M q0 b0 ω2 t (cnt s + 1) → ∀ o9 o10 o11 o12 : Option am_V, ∃ (ω3 : am_W) (o9' o10' o11' o12' : Option am_V), am_run (211, 0) 103 ([some (.inr (.inr 53)), some (.inl ((i : Int))), some (.inl set), some (.inl last), some (.inl W), some (.inl best), some (.inl ((t : Int))), some (.inl (((cnt s + 1 : Nat) : Int))), some (.inl (((s + 1 : Nat) : Int))), o9, o10, o11, o12], [], ω2) = am_run (211, 0) 238 ([some (.inr (.inr 53)), some (.inl ((i : Int))), some (.inl set), some (.inl last), some (.inl W), some (.inl best), some (.inl ((t : Int))), some (.inl ((M : Int))), some (.inl 0), o9', o10', o11', o12'], [], ω3) ∧ F89 ω ω3 ∧ RNS n T C K V mem M q0 b0 ω3 t M ∧ RNC n T C K V mem M q0 b0 ω3 t M := by
        intro ω2 f2 S2 C2 o9 o10 o11 o12
        have := ih (s + 1) (by omega) ω2 o9 o10 o11 o12 f2 (by rw [k1]; exact S2) (by rw [k1]; exact C2)
        rw [k1] at this
        exact this
      by_cases gb : (t : Int) < V s 4
      · have pa1 : paF T (V s) (t : Int) = -1 := by unfold paF; rw [if_pos gb]
        have sp1 : ∀ q : Nat, ¬ spF T (V (mem (cnt s))) (t : Int) = (q : Int) := fun q => by rw [km]; unfold spF; rw [if_pos gb]; omega
        rw [pa1] at Q
        have Q2 := pX7_round_137 53 i set last W best t (cnt s) s (-1) 0 o11 o12 ω1 (i_53 B1)
        rw [if_neg (by omega), if_pos rfl, am_w_s (by omega) (by omega), am_w_s (by omega) (by omega), show ((cnt s : Nat) : Int) + 1 = ((cnt s + 1 : Nat) : Int) by omega, show (s : Int) + 1 = ((s + 1 : Nat) : Int) by omega] at Q2
        obtain ⟨ω3, a1, a2, a3, a4, r3, rest⟩ := fin ω1 f (rn_up S) (fun q b m' d' hp => by rw [mt_n (fun z => sp1 q z.2)]; exact Cc q b m' d' hp) _ _ _ _
        exact ⟨ω3, a1, a2, a3, a4, Q.trans (Q2.trans r3), rest⟩
      · obtain ⟨s1, s2, s3⟩ := sp_b on.2 oT O gb
        have pl := pl_ok (t := (t : Int)) on.2 oT O
        have o1 := O.2.1
        have tt := oT (V s 1).toNat (by omega)
        have pa1 : paF T (V s) (t : Int) = (((plF T (V s) (t : Int)).toNat : Nat) : Int) := by unfold paF; rw [if_neg gb]; omega
        rw [pa1] at Q
        have x60 : am_get ω1 60 s = (((V s 1).toNat : Nat) : Int) := by
          have : am_get ω1 60 s = V s 1 := (hu1 1 (by omega)).symm
          rw [this]; omega
        have hq : spF T (V (mem (cnt s))) (t : Int) = (((V s 1).toNat * 20 + (plF T (V s) (t : Int)).toNat : Nat) : Int) := by rw [km]; omega
        obtain ⟨ω2, a1, a2, a3, a4, r2, f2, S2, le2, pr2⟩ := m_137 (i := i) B1 (set := set) (last := last) (W := W) (best := best) k3 (s := s) (by omega) (c := (V s 1).toNat) (r := (plF T (V s) (t : Int)).toNat) (by omega) (by omega) x60 hq 8 0 (by omega) ω1 o11 o12 F89.rf (rn_up S) (fun _ => Int.le_refl _) (fun m hm => absurd hm (Nat.not_lt_zero _))
        obtain ⟨ω3, b1, b2, b3, b4, r3, rest⟩ := fin ω2 (f.tr f2) S2 (fun q b m' d' hp => by
          have A := Cc q b m' d' hp
          by_cases z : b = 0 ∧ spF T (V (mem (cnt s))) (t : Int) = (q : Int)
          · obtain ⟨rfl, z2⟩ := z
            rw [mt_y z2]
            have eq : q = (V s 1).toNat * 20 + (plF T (V s) (t : Int)).toNat := by rw [hq] at z2; omega
            have m8 := mt_8 (T := T) (V := V) (mem := mem) (t := t) (q := q) (b := 0) (ph_v hch hv hb hM hp).2.2.2.2 (Nat.le_of_lt k3)
            have := pr2 _ m8
            rw [← eq] at this
            exact Int.le_trans this A
          · rw [mt_n z]
            exact Int.le_trans (le2 _) A) a1 a2 a3 a4
        exact ⟨ω3, b1, b2, b3, b4, Q.trans (r2.trans r3), rest⟩
    · rw [b01_neg g, if_neg (fun z => z rfl)] at Q
      have k1 := cno g
      obtain ⟨ω2, a1, a2, a3, a4, r2, rest⟩ := ih (s + 1) (by omega) ω1 o9 o10 o11 o12 f (by rw [k1]; exact S) (by rw [k1]; exact Cc)
      rw [k1] at r2
      exact ⟨ω2, a1, a2, a3, a4, Q.trans r2, rest⟩
end MG
end K71
