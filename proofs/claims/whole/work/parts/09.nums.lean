/-! ===== numbers in range ===== -/
def am_R32 (z : Int) : Prop := -2147483648 ≤ z ∧ z < 2147483648
def am_R64 (z : Int) : Prop := -9223372036854775808 ≤ z ∧ z < 9223372036854775808
theorem nu_w (z : Int) : am_R32 (am_w z) := by
  have h1 := Int.le_bmod (x := z) (m := 4294967296) (by decide)
  have h2 := Int.bmod_lt (x := z) (m := 4294967296) (by decide)
  unfold am_R32 am_w
  omega
theorem nu_wl (z : Int) : am_R64 (am_wl z) := by
  have h1 := Int.le_bmod (x := z) (m := 18446744073709551616) (by decide)
  have h2 := Int.bmod_lt (x := z) (m := 18446744073709551616) (by decide)
  unfold am_R64 am_wl
  omega
theorem nu_id {z : Int} (h : am_R32 z) : am_w z = z := by
  unfold am_R32 at h
  unfold am_w
  exact Int.bmod_eq_of_le (by omega) (by omega)
theorem nu_idl {z : Int} (h : am_R64 z) : am_wl z = z := by
  unfold am_R64 at h
  unfold am_wl
  exact Int.bmod_eq_of_le (by omega) (by omega)
theorem nu_to (x : Int32) : am_R32 x.toInt := by
  have h1 := Int32.le_toInt x
  have h2 := Int32.toInt_lt x
  unfold am_R32
  omega
theorem nu_tol (x : Int64) : am_R64 x.toInt := by
  have h1 := Int64.le_toInt x
  have h2 := Int64.toInt_lt x
  unfold am_R64
  omega
theorem nu_of {z : Int} (h : am_R32 z) : (Int32.ofInt z).toInt = z := by
  unfold am_R32 at h
  exact Int32.toInt_ofInt_of_le (by omega) (by omega)
theorem nu_ofl {z : Int} (h : am_R64 z) : (Int64.ofInt z).toInt = z := by
  unfold am_R64 at h
  exact Int64.toInt_ofInt_of_le (by omega) (by omega)
theorem nu_ti (z : Int) : (Int32.ofInt z).toInt = am_w z := Int32.toInt_ofInt
theorem nu_til (z : Int) : (Int64.ofInt z).toInt = am_wl z := Int64.toInt_ofInt
theorem nu_back (x : Int32) : Int32.ofInt x.toInt = x := Int32.ofInt_toInt x
theorem nu_backl (x : Int64) : Int64.ofInt x.toInt = x := Int64.ofInt_toInt x
theorem nu_eq {x : Int32} {z : Int} (h : x.toInt = am_w z) : x = Int32.ofInt z := Int32.toInt_inj.mp (by rw [nu_ti]; exact h)
theorem nu_eql {x : Int64} {z : Int} (h : x.toInt = am_wl z) : x = Int64.ofInt z := Int64.toInt_inj.mp (by rw [nu_til]; exact h)
theorem nu_ww (z : Int) : am_w (am_w z) = am_w z := nu_id (nu_w z)
theorem nu_wwl (z : Int) : am_wl (am_wl z) = am_wl z := nu_idl (nu_wl z)
theorem nu_add (a b : Int) : Int32.ofInt a + Int32.ofInt b = Int32.ofInt (am_w (a + b)) := nu_eq (by rw [nu_ww, Int32.toInt_add, nu_ti, nu_ti]; simp [am_w])
theorem nu_sub (a b : Int) : Int32.ofInt a - Int32.ofInt b = Int32.ofInt (am_w (a - b)) := nu_eq (by rw [nu_ww, Int32.toInt_sub, nu_ti, nu_ti]; simp [am_w])
theorem nu_mul (a b : Int) : Int32.ofInt a * Int32.ofInt b = Int32.ofInt (am_w (a * b)) := nu_eq (by rw [nu_ww, Int32.toInt_mul, nu_ti, nu_ti]; simp [am_w])
theorem nu_neg (a : Int) : -Int32.ofInt a = Int32.ofInt (am_w (-a)) := nu_eq (by rw [nu_ww, Int32.toInt_neg, nu_ti]; simp [am_w])
theorem nu_addl (a b : Int) : Int64.ofInt a + Int64.ofInt b = Int64.ofInt (am_wl (a + b)) := nu_eql (by rw [nu_wwl, Int64.toInt_add, nu_til, nu_til]; simp [am_wl])
theorem nu_mull (a b : Int) : Int64.ofInt a * Int64.ofInt b = Int64.ofInt (am_wl (a * b)) := nu_eql (by rw [nu_wwl, Int64.toInt_mul, nu_til, nu_til]; simp [am_wl])
theorem nu_div {a b : Int} (ha : am_R32 a) (hb : am_R32 b) : Int32.ofInt a / Int32.ofInt b = Int32.ofInt (am_w (a.tdiv b)) := nu_eq (by rw [nu_ww, Int32.toInt_div, nu_of ha, nu_of hb]; rfl)
theorem nu_divl {a b : Int} (ha : am_R64 a) (hb : am_R64 b) : Int64.ofInt a / Int64.ofInt b = Int64.ofInt (am_wl (a.tdiv b)) := nu_eql (by rw [nu_wwl, Int64.toInt_div, nu_ofl ha, nu_ofl hb]; rfl)
theorem nu_tmod {a b : Int} : (a - a.tdiv b * b) = a.tmod b := by
  have := Int.mul_tdiv_add_tmod a b
  rw [Int.mul_comm] at this
  omega
theorem nu_tlt {a b : Int} (h : ¬ b = 0) : -(b.natAbs : Int) < a.tmod b ∧ a.tmod b < b.natAbs := by
  have h1 : (a.tmod b).natAbs = a.natAbs % b.natAbs := Int.natAbs_tmod a b
  have h2 : a.natAbs % b.natAbs < b.natAbs := Nat.mod_lt _ (by omega)
  omega
theorem nu_rem {a b : Int} (ha : am_R32 a) (hb : am_R32 b) : Int32.ofInt a - Int32.ofInt a / Int32.ofInt b * Int32.ofInt b = Int32.ofInt (a.tmod b) := by
  rw [nu_div ha hb, nu_mul, nu_sub]
  refine nu_eq ?_
  rw [nu_ti, nu_ww]
  rw [← nu_tmod]
  simp [am_w]
theorem nu_reml {a b : Int} (ha : am_R64 a) (hb : am_R64 b) : Int64.ofInt a - Int64.ofInt a / Int64.ofInt b * Int64.ofInt b = Int64.ofInt (a.tmod b) := by
  rw [nu_divl ha hb, nu_mull]
  refine nu_eql ?_
  rw [Int64.toInt_sub, nu_til, nu_til]
  rw [← nu_tmod]
  simp [am_wl]
theorem nu_r32m {a b : Int} (hb : am_R32 b) (h : ¬ b = 0) : am_R32 (a.tmod b) := by
  have := nu_tlt (a := a) h
  unfold am_R32 at hb ⊢
  omega
theorem nu_r64m {a b : Int} (hb : am_R64 b) (h : ¬ b = 0) : am_R64 (a.tmod b) := by
  have := nu_tlt (a := a) h
  unfold am_R64 at hb ⊢
  omega
theorem nu_ne {b : Int} (hb : am_R32 b) (h : ¬ b = 0) : ¬ Int32.ofInt b = 0 := fun e => h (by rw [← nu_of hb, e]; rfl)
theorem nu_nel {b : Int} (hb : am_R64 b) (h : ¬ b = 0) : ¬ Int64.ofInt b = 0 := fun e => h (by rw [← nu_ofl hb, e]; rfl)
theorem nu_lt {a b : Int} (ha : am_R32 a) (hb : am_R32 b) : Int32.ofInt a < Int32.ofInt b ↔ a < b := by rw [Int32.lt_iff_toInt_lt, nu_of ha, nu_of hb]
theorem nu_le {a b : Int} (ha : am_R32 a) (hb : am_R32 b) : Int32.ofInt a ≤ Int32.ofInt b ↔ a ≤ b := by rw [Int32.le_iff_toInt_le, nu_of ha, nu_of hb]
theorem nu_eqi {a b : Int} (ha : am_R32 a) (hb : am_R32 b) : Int32.ofInt a = Int32.ofInt b ↔ a = b := by rw [← Int32.toInt_inj, nu_of ha, nu_of hb]
theorem nu_i2l {a : Int} (ha : am_R32 a) : (Int32.ofInt a).toInt64 = Int64.ofInt a := Int64.toInt_inj.mp (by rw [Int32.toInt_toInt64, nu_of ha, nu_ofl (by unfold am_R32 at ha; unfold am_R64; omega)])
theorem nu_l2i {a : Int} (ha : am_R64 a) : (Int64.ofInt a).toInt32 = Int32.ofInt (am_w a) := nu_eq (by rw [Int64.toInt_toInt32, nu_ofl ha, nu_ww]; rfl)
theorem nu_b {a : Int} (n : Nat) (h0 : 0 < n) (h : n ≤ 65536) : am_R32 (a.bmod n) := by
  have h1 := Int.le_bmod (x := a) (m := n) h0
  have h2 := Int.bmod_lt (x := a) (m := n) h0
  unfold am_R32
  omega
theorem nu_i2b {a : Int} (ha : am_R32 a) : (Int32.ofInt a).toInt8.toInt32 = Int32.ofInt (a.bmod 256) := Int32.toInt_inj.mp (by rw [Int8.toInt_toInt32, Int32.toInt_toInt8, nu_of ha, nu_of (nu_b 256 (by decide) (by decide))])
theorem nu_i2s {a : Int} (ha : am_R32 a) : (Int32.ofInt a).toInt16.toInt32 = Int32.ofInt (a.bmod 65536) := Int32.toInt_inj.mp (by rw [Int16.toInt_toInt32, Int32.toInt_toInt16, nu_of ha, nu_of (nu_b 65536 (by decide) (by decide))])
theorem nu_cmp {a b : Int} (ha : am_R64 a) (hb : am_R64 b) : lg_cmp (Int64.ofInt a) (Int64.ofInt b) = Int32.ofInt (am_cmp a b) := by
  unfold lg_cmp am_cmp
  simp only [gt_iff_lt, Int64.lt_iff_toInt_lt, ← Int64.toInt_inj, nu_ofl ha, nu_ofl hb]
  repeat' split
  all_goals first | omega | rfl
theorem nu_rcmp (a b : Int) : am_R32 (am_cmp a b) := by
  unfold am_cmp am_R32
  repeat' split
  all_goals omega
theorem nu_pos {z : Int} (h : am_R32 z) (h0 : 0 ≤ z) : ¬ Int32.ofInt z < 0 := by
  rw [Int32.lt_iff_toInt_lt, nu_of h, Int32.toInt_zero]
  omega
theorem nu_clamp {z : Int} (h : am_R32 z) (h0 : 0 ≤ z) : (Int32.ofInt z).toNatClampNeg = z.toNat := by
  show (Int32.ofInt z).toInt.toNat = z.toNat
  rw [nu_of h]
theorem nu_in {z : Int} {n : Nat} (h : am_R32 z) (h0 : 0 ≤ z) (h1 : z < n) : vp_in (Int32.ofInt z) n := by
  rw [vp_in_iff, nu_of h]
  omega
theorem nu_nat {n : Nat} (h : n < 2147483648) : Int32.ofNat n = Int32.ofInt (n : Int) := rfl
theorem nu_byte {n : Int} (h1 : -128 ≤ n) (h2 : n ≤ 127) : (Int8.ofInt n).toInt32 = Int32.ofInt n := Int32.toInt_inj.mp (by
  rw [Int8.toInt_toInt32, Int8.toInt_ofInt_of_le (by omega) (by omega), nu_of (by unfold am_R32; omega)])
theorem nu_short {n : Int} (h1 : -32768 ≤ n) (h2 : n ≤ 32767) : (Int16.ofInt n).toInt32 = Int32.ofInt n := Int32.toInt_inj.mp (by
  rw [Int16.toInt_toInt32, Int16.toInt_ofInt_of_le (by omega) (by omega), nu_of (by unfold am_R32; omega)])
