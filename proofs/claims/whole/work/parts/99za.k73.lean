/-! ===== round ===== -/
section K73
variable {ω : am_W}
theorem shr_e {x : Int} (h1 : -2147483648 ≤ x) (h2 : x < 2147483648) {N : Nat} (hN : N ≤ 6) : am_shr x (N : Int) = x / 2 ^ N := by
  have e : ∀ N : Nat, N ≤ 6 → (((Int32.ofInt (N : Int)) &&& 31).toBitVec.smod 32).toNat = N := by decide +kernel
  unfold am_shr
  have hx : (Int32.ofInt x).toInt = x := Int32.toInt_ofInt_of_le (by omega) (by omega)
  show (Int32.ofInt x >>> (Int32.ofInt (N : Int) &&& 31)).toBitVec.toInt = _
  rw [Int32.toBitVec_shiftRight]
  show ((Int32.ofInt x).toBitVec.sshiftRight (((Int32.ofInt (N : Int)) &&& 31).toBitVec.smod 32).toNat).toInt = _
  rw [e N hN, BitVec.toInt_sshiftRight]
  show (Int32.ofInt x).toInt >>> N = _
  rw [hx, Int.shiftRight_eq_div_pow]
  rfl
theorem shr_0 {x : Int} (hx : am_R32 x) {N : Nat} (hN : N ≤ 6) : am_shr x (N : Int) = 0 ↔ 0 ≤ x ∧ x ≤ am_w (am_shl 1 (N : Int) - 1) := by
  rw [shr_e hx.1 hx.2 hN]
  have w : ∀ N : Nat, N ≤ 6 → am_w (am_shl 1 (N : Int) - 1) = 2 ^ N - 1 := by decide +kernel
  rw [w N hN]
  have p : ∀ N : Nat, N ≤ 6 → (0 : Int) < 2 ^ N := by decide
  have p0 := p N hN
  constructor
  · intro h
    have a := Int.emod_add_mul_ediv x (2 ^ N)
    have b := Int.emod_nonneg x (show (2 : Int) ^ N ≠ 0 by omega)
    have c := Int.emod_lt_of_pos x p0
    rw [h, Int.mul_zero] at a
    omega
  · intro ⟨h1, h2⟩
    exact Int.ediv_eq_zero_of_lt h1 (by omega)
/-- how many of the first are in a set -/
def cB (st : Nat) : Nat → Nat
  | 0 => 0
  | i + 1 => if am_and (st : Int) (am_shl 1 (i : Int)) ≠ 0 then cB st i + 1 else cB st i
theorem bc_e {st : Nat} (h : st < 64) : bcF (st : Int) = (cB st 6 : Int) := by
  obtain ⟨f, f1, f2⟩ : ∃ f : Int → Int, (∀ (x : Int) (ω : am_W), am_run (234, 0) 0 ([some (.inl x)], [], ω) = some (some (.inl (f x)), ω)) ∧ ∀ st : Nat, st < 64 → f (st : Int) = (cB st 6 : Int) := ⟨_, fun x ω => pJ6_bitCount_0f7a4_0 x ω, by decide +kernel⟩
  have a := (f1 (st : Int) ([], fun _ _ => 0, (0, fun _ => 0))).symm.trans (j_bitCount (ω := ([], fun _ _ => 0, (0, fun _ => 0))))
  have b : f (st : Int) = bcF (st : Int) := by
    injection a with a
    injection a with a
    injection a with a
    injection a
  rw [← b]
  exact f2 st h
theorem has_e {st s : Nat} (h : st < 64) (hs : s < 6) : am_run (150, 0) 0 ([some (.inl ((st : Int))), some (.inl ((s : Int)))], [], ω) = some (some (.inl (b01 (bitI (st : Int) s))), ω) := by
  have : ∀ st : Nat, st < 64 → ∀ s : Nat, s < 6 → (am_and (am_shr (st : Int) (s : Int)) 1 = 1 ↔ am_and (st : Int) (am_shl 1 (s : Int)) ≠ 0) := by decide +kernel
  have t := this st h s hs
  rw [pX7_has_0]
  by_cases g : am_and (am_shr (st : Int) (s : Int)) 1 = 1
  · rw [if_neg (fun z => z g), b01_pos (show bitI (st : Int) s from t.mp g)]
  · rw [if_pos g, b01_neg (show ¬ bitI (st : Int) s from fun z => g (t.mpr z))]
theorem cB_N {st N : Nat} (h : st < 64) (hN : N ≤ 6) (hs : (st : Int) ≤ am_w (am_shl 1 (N : Int) - 1)) : cB st N = cB st 6 ∧ (st ≠ 0 → 1 ≤ cB st N) := by
  have : ∀ st : Nat, st < 64 → ∀ N : Nat, N ≤ 6 → (st : Int) ≤ am_w (am_shl 1 (N : Int) - 1) → cB st N = cB st 6 ∧ (st ≠ 0 → 1 ≤ cB st N) := by decide +kernel
  exact this st h N hN hs
theorem cB_y {st i : Nat} (h : bitI (st : Int) i) : cB st (i + 1) = cB st i + 1 := if_pos h
theorem cB_n {st i : Nat} (h : ¬ bitI (st : Int) i) : cB st (i + 1) = cB st i := if_neg h
theorem cB_m {st : Nat} : ∀ d i, cB st i ≤ cB st (i + d) := by
  intro d
  induction d with
  | zero => intro i; exact Nat.le_refl _
  | succ d ih =>
    intro i
    refine Nat.le_trans (ih i) ?_
    show cB st (i + d) ≤ cB st (i + d + 1)
    by_cases g : bitI (st : Int) (i + d)
    · rw [cB_y g]; omega
    · rw [cB_n g]; exact Nat.le_refl _
theorem gM_c {st : Nat} (h3 : cB st 6 ≤ 3) : ∀ i, i ≤ 6 → (gM (bitI (st : Int)) i).length = cB st i := by
  intro i
  induction i with
  | zero => intro _; rfl
  | succ i ih =>
    intro hi
    have e := ih (by omega)
    have m := cB_m (st := st) (6 - (i + 1)) (i + 1)
    rw [show i + 1 + (6 - (i + 1)) = 6 by omega] at m
    by_cases g : bitI (st : Int) i
    · have y := cB_y g
      rw [gM_y ⟨g, by omega⟩, List.length_append, e, y]
      rfl
    · rw [gM_n (fun z => g z.1), e, cB_n g]
theorem gM_p {B : Nat → Prop} : ∀ d i, ∃ X, gM B (i + d) = gM B i ++ X := by
  intro d
  induction d with
  | zero => intro i; exact ⟨[], by simp⟩
  | succ d ih =>
    intro i
    obtain ⟨X, hX⟩ := ih i
    by_cases g : B (i + d) ∧ (gM B (i + d)).length < 3
    · exact ⟨X ++ [i + d], by show gM B (i + d + 1) = _; rw [gM_y g, hX, List.append_assoc]⟩
    · exact ⟨X, by show gM B (i + d + 1) = _; rw [gM_n g, hX]⟩
theorem cn_of {st N : Nat} (h : st < 64) (hN : N ≤ 6) (h3 : cB st 6 ≤ 3) : CN (bitI (st : Int)) (cB st) (gE (st : Int) N) N (gN (st : Int) N) := by
  refine ⟨rfl, (gM_c h3 N hN).symm, fun s hs => ⟨fun g => ?_, fun g => cB_n g⟩⟩
  have m := cB_m (st := st) (6 - (s + 1)) (s + 1)
  rw [show s + 1 + (6 - (s + 1)) = 6 by omega] at m
  have y := cB_y g
  have e := gM_c h3 s (by omega)
  refine ⟨by omega, y, ?_⟩
  unfold gE
  obtain ⟨X, hX⟩ := gM_p (B := bitI (st : Int)) (N - (s + 1)) (s + 1)
  rw [show s + 1 + (N - (s + 1)) = N by omega] at hX
  rw [hX, gM_y ⟨g, by omega⟩, ← e]
  simp
theorem c_isSet (h : Bs ω) {s set : Int} : am_run (137, 0) 0 ([some (.inr (.inr 0)), some (.inl s), some (.inl set), none], [], ω) = some (some (.inl (b01 (am_shr set (ck ω 1) = 0 ∧ am_and set (am_shl 1 s) = 0 ∧ bcF set ≤ 3))), ω) := by
  have e3 : am_get ω 1 3 = ck ω 1 := rfl
  rw [pX6_isSetOfOthers_0 _ _ _ _ (i_0 h) (by simp only [Int.toNat_zero, f_0_0 h]; exact i_1 h)]
  simp only [am_bi_s, am_bl_s, am_ba_s, am_bv_s, Int.toNat_zero, Int.reduceToNat, Int.toNat_natCast, if_true, if_false, not_true, not_false_eq_true, Int.reduceEq, Int.reduceLT, Int.reduceLE, f_0_0 h, e3, pX6_isSetOfOthers_17, j_bitCount]
  by_cases g1 : am_shr set (ck ω 1) = 0
  · rw [if_neg (fun z => z g1)]
    by_cases g2 : am_and set (am_shl 1 s) = 0
    · rw [if_neg (fun z => z g2)]
      by_cases g3 : bcF set ≤ 3
      · rw [if_neg (by omega), b01_pos ⟨g1, g2, g3⟩]
      · rw [if_pos (by omega), b01_neg (fun z => g3 z.2.2)]
    · rw [if_pos g2, b01_neg (fun z => g2 z.2.1)]
  · rw [if_pos g1, b01_neg (fun z => g1 z.1)]
end K73
