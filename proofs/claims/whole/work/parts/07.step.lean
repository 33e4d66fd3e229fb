/-! ===== the abstract machine's step ===== -/
/-- a pool's row of that number (999999 stands in an empty pool) -/
noncomputable def am_lk {α : Type} (t : Lean.RArray (Nat × α)) (k : Nat) : Option α := cond (Nat.blt k 999999) (am_look t k) none
theorem am_lk_of {α : Type} {P : Nat × α → Prop} {t : Lean.RArray (Nat × α)} (h : am_all (fun q => q.1 = 999999 ∨ P q) t) {k : Nat} {a : α} (e : am_lk t k = some a) : P (k, a) := by
  unfold am_lk at e
  cases hb : Nat.blt k 999999 with
  | false => rw [hb] at e; cases e
  | true =>
    rw [hb] at e
    have h1 : k < 999999 := Nat.le_of_ble_eq_true hb
    rcases am_look_of h e with q | q
    · exact absurd q (by dsimp only; omega)
    · exact q
/-- an instruction's length -/
def am_ln (i : Instr) (len : Nat) : Bool := match i with
  | .tableswitch _ _ _ _ => true
  | .bipush _ => Nat.beq len 2
  | .iload _ => Nat.beq len 2
  | .lload _ => Nat.beq len 2
  | .aload _ => Nat.beq len 2
  | .istore _ => Nat.beq len 2
  | .lstore _ => Nat.beq len 2
  | .astore _ => Nat.beq len 2
  | .ldc _ => Nat.beq len 2
  | .newarray _ => Nat.beq len 2
  | .sipush _ => Nat.beq len 3
  | .iinc _ _ => Nat.beq len 3
  | .goto _ => Nat.beq len 3
  | .ifCond _ _ => Nat.beq len 3
  | .if_icmp _ _ => Nat.beq len 3
  | .ifnonnull _ => Nat.beq len 3
  | .getfield _ => Nat.beq len 3
  | .putfield _ => Nat.beq len 3
  | .new _ => Nat.beq len 3
  | .anewarray _ => Nat.beq len 3
  | .invokevirtual _ => Nat.beq len 3
  | .invokestatic _ => Nat.beq len 3
  | .invokespecial _ => Nat.beq len 3
  | .ldc_w _ => Nat.beq len 3
  | .ldc2_w _ => Nat.beq len 3
  | .multianewarray _ _ => Nat.beq len 4
  | _ => Nat.beq len 1
noncomputable def am_code (b pc : Nat) : Option (Instr × Nat) := match am_look (am_mt.get b).2.2.2.2 pc with
  | some (i, len) => cond (am_ln i len) (some (i, len)) none
  | none => none
noncomputable def am_own (b : Nat) : Nat := (am_mt.get b).1
noncomputable def am_max (b : Nat) : Nat := (am_mt.get b).2.1
noncomputable def am_rt (b : Nat) : Nat := (am_mt.get b).2.2.1
noncomputable def am_rk (m : am_M) : Nat := (am_mt.get m.1).2.2.2.1 + m.2
def am_fk (ci k : Nat) : Nat := (am_fks.getD ci []).getD k 0
def am_nf (ci : Nat) : Nat := (am_fks.getD ci []).length
/-- what a new object holds -/
def am_d0 (ci k : Nat) : Int := if am_fk ci k = 2 then -1 else 0
/-- the methods that call themselves: tags, catches, catchesAll -/
def am_rec (b : Nat) : Bool := am_recs.contains b
/-- which method a call of b' from m goes to: those that call themselves have a level -/
def am_lv (m : am_M) (b : Nat) : Option am_M := cond (am_rec b) (cond (am_rec m.1) (match m.2 with | 0 => none | k + 1 => some (b, k)) (some (b, 12))) (some (b, 0))
abbrev am_Act : Type := (Nat × am_S) ⊕ (am_R ⊕ (am_M × Nat × List am_V × Nat × am_S))
def am_nx (pc : Nat) (L : am_L) (S : List am_V) (ω : am_W) : Option am_Act := some (.inl (pc, L, S, ω))
def am_jp (t : Int) (L : am_L) (S : List am_V) (ω : am_W) : Option am_Act := cond (decide (0 ≤ t)) (some (.inl (t.toNat, L, S, ω))) none
def am_br (c : Bool) (t : Int) (pc : Nat) (L : am_L) (S : List am_V) (ω : am_W) : Option am_Act := cond (decide (0 ≤ t)) (some (.inl (if c = true then t.toNat else pc, L, S, ω))) none
def am_rv (v : Option am_V) (ω : am_W) : Option am_Act := some (.inr (.inl (v, ω)))
def am_st1 (L : Option am_L) (pc : Nat) (S : List am_V) (ω : am_W) : Option am_Act := match L with
  | none => none
  | some L => am_nx pc L S ω
def am_ldi (L : am_L) (k pc : Nat) (S : List am_V) (ω : am_W) : Option am_Act := match L[k]? with
  | some (some (.inl z)) => am_nx pc L (.inl z :: S) ω
  | _ => none
def am_ldl (L : am_L) (k pc : Nat) (S : List am_V) (ω : am_W) : Option am_Act := match L[k]? with
  | some (some (.inr (.inl z))) => am_nx pc L (.inr (.inl z) :: S) ω
  | _ => none
def am_lda (L : am_L) (k pc : Nat) (S : List am_V) (ω : am_W) : Option am_Act := match L[k]? with
  | some (some (.inr (.inr z))) => am_nx pc L (.inr (.inr z) :: S) ω
  | _ => none
def am_sti (L : am_L) (k pc : Nat) (S : List am_V) (ω : am_W) : Option am_Act := match S with
  | .inl z :: S => am_st1 (am_sto L k (.inl z)) pc S ω
  | _ => none
def am_stj (L : am_L) (k pc : Nat) (S : List am_V) (ω : am_W) : Option am_Act := match S with
  | .inr (.inl z) :: S => am_st1 (am_stl L k (.inr (.inl z))) pc S ω
  | _ => none
def am_sta (L : am_L) (k pc : Nat) (S : List am_V) (ω : am_W) : Option am_Act := match S with
  | .inr (.inr z) :: S => am_st1 (am_sto L k (.inr (.inr z))) pc S ω
  | _ => none
def am_b2 (f : Int → Int → Int) (pc : Nat) (L : am_L) (S : List am_V) (ω : am_W) : Option am_Act := match S with
  | .inl b :: .inl a :: S => am_nx pc L (.inl (f a b) :: S) ω
  | _ => none
def am_j2 (f : Int → Int → Int) (pc : Nat) (L : am_L) (S : List am_V) (ω : am_W) : Option am_Act := match S with
  | .inr (.inl b) :: .inr (.inl a) :: S => am_nx pc L (.inr (.inl (f a b)) :: S) ω
  | _ => none
def am_nar (rt : Nat) (z : Int) : Bool := match rt with
  | 1 => true
  | 4 => decide (z = 0) || decide (z = 1)
  | _ => false
noncomputable def am_getf (own idx pc : Nat) (L : am_L) (S : List am_V) (ω : am_W) : Option am_Act := match am_lk (am_pf.get own) idx, S with
  | some (ci, k, _), .inr (.inr r) :: S => cond (am_is ω r (ci, am_nf ci)) (am_nx pc L ((match am_fk ci k with | 2 => .inr (.inr (am_get ω r.toNat k)) | _ => .inl (am_get ω r.toNat k)) :: S) ω) none
  | _, _ => none
/-- final fields are set by their own constructors alone -/
def am_fin (own b ci k : Nat) : Bool := Nat.beq ((am_fins.getD ci []).getD k 0) 0 || (am_ctors.contains b && Nat.beq own ci)
noncomputable def am_putf (own b idx pc : Nat) (L : am_L) (S : List am_V) (ω : am_W) : Option am_Act := match am_lk (am_pf.get own) idx, S with
  | some (ci, k, _), .inl z :: .inr (.inr r) :: S => cond (am_is ω r (ci, am_nf ci) && (am_fin own b ci k && match am_fk ci k with | 0 => true | 1 => decide (z = 0) || decide (z = 1) | _ => false)) (am_nx pc L S (am_put ω r.toNat k z)) none
  | some (ci, k, _), .inr (.inr z) :: .inr (.inr r) :: S => cond (am_is ω r (ci, am_nf ci) && (am_fin own b ci k && (Nat.beq (am_fk ci k) 2 && decide (-1 ≤ z)))) (am_nx pc L S (am_put ω r.toNat k z)) none
  | _, _ => none
/-- a call's arguments, the receiver first -/
def am_args (n : Nat) (S : List am_V) : Option (List am_V × List am_V) := cond (decide (n ≤ S.length) && decide (am_words (S.drop n) ≤ 8)) (some ((S.take n).reverse, S.drop n)) none
/-- a call of a method that is walked -/
noncomputable def am_call (m : am_M) (b na rk pc : Nat) (rc : Bool) (L : am_L) (S : List am_V) (ω : am_W) : Option am_Act := match am_args na S, am_lv m b with
  | some (as, S), some m' => cond ((!rc || match as with | .inr (.inr r) :: _ => am_is ω r (am_own b, am_nf (am_own b)) | _ => false) && (Nat.ble (am_rk m' + 1) (am_rk m) && Nat.ble (am_spread as).length (am_max b))) (some (.inr (.inr (m', rk, as, pc, L, S, ω)))) none
  | _, _ => none
/-- System.arraycopy between two arrays of one kind of numbers -/
def am_acpy (rk pc : Nat) (L : am_L) (S : List am_V) (ω : am_W) : Option am_Act := match S with
  | .inl n :: .inl dp :: .inr (.inr r1) :: .inl sp :: .inr (.inr r0) :: S =>
    cond (Nat.ble 1 rk && (decide (am_words S ≤ 8) && (((am_ar ω r0 100 && am_ar ω r1 100) || (am_ar ω r0 101 && am_ar ω r1 101)) && (decide (0 ≤ sp) && (decide (0 ≤ dp) && (decide (0 ≤ n) && (decide (sp + n ≤ am_len ω r0) && decide (dp + n ≤ am_len ω r1))))))))
      (am_nx pc L S (am_cpy ω r0.toNat sp.toNat r1.toNat dp.toNat n.toNat)) none
  | _ => none
def am_slen (rk pc : Nat) (L : am_L) (S : List am_V) (ω : am_W) : Option am_Act := match S with
  | .inr (.inr r) :: S => cond (Nat.ble 4 rk && (decide (am_words S ≤ 8) && (decide (r ≤ -3) && decide (-9 < r)))) (am_nx pc L (.inl (((am_texts.getD (-3 - r).toNat []).length : Nat) : Int) :: S) ω) none
  | _ => none
def am_schr (rk pc : Nat) (L : am_L) (S : List am_V) (ω : am_W) : Option am_Act := match S with
  | .inl i :: .inr (.inr r) :: S => cond (Nat.ble 4 rk && (decide (am_words S ≤ 8) && (decide (r ≤ -3) && (decide (-9 < r) && (decide (0 ≤ i) && decide (i < (((am_texts.getD (-3 - r).toNat []).length : Nat) : Int))))))) (am_nx pc L (.inl ((am_texts.getD (-3 - r).toNat []).getD i.toNat 0) :: S) ω) none
  | _ => none
noncomputable def am_inv (op : Nat) (m : am_M) (idx pc : Nat) (L : am_L) (S : List am_V) (ω : am_W) : Option am_Act := match am_lk (am_pm.get (am_own m.1)) idx with
  | some (kd, b, na, rk, _) => match op, kd with
    | 0, 0 => am_call m b na rk pc true L S ω
    | 0, 8 => am_slen (am_rk m) pc L S ω
    | 0, 9 => am_schr (am_rk m) pc L S ω
    | 1, 2 => am_call m b na rk pc false L S ω
    | 1, 3 => am_call m b na rk pc false L S ω
    | 1, 7 => am_acpy (am_rk m) pc L S ω
    | 2, 4 => am_call m b na rk pc true L S ω
    | 2, 5 => am_call m b na rk pc true L S ω
    | 2, 6 => (match S with | .inr (.inr r) :: S => cond (Nat.ble 1 (am_rk m) && (decide (0 ≤ r) && decide (am_words S ≤ 8))) (am_nx pc L S ω) none | _ => none)
    | _, _ => none
  | none => none
/-- what a jump table says -/
def am_tsw (dflt lo hi : Int) (offs : Array Int) (z : Int) : Option Int := cond (decide (z < lo) || decide (hi < z)) (some dflt) (offs[(z - lo).toNat]?)
noncomputable def am_st (m : am_M) (i : Instr) (pc : Nat) (L : am_L) (S : List am_V) (ω : am_W) : Option am_Act := match i with
  | .iconst n => cond (decide (-128 ≤ n) && decide (n ≤ 127)) (am_nx (pc + 1) L (.inl n :: S) ω) none
  | .bipush n => cond (decide (-128 ≤ n) && decide (n ≤ 127)) (am_nx (pc + 2) L (.inl n :: S) ω) none
  | .sipush n => cond (decide (-32768 ≤ n) && decide (n ≤ 32767)) (am_nx (pc + 3) L (.inl n :: S) ω) none
  | .lconst n => am_nx (pc + 1) L (.inr (.inl ((n : Nat) : Int)) :: S) ω
  | .iload_n k => am_ldi L k (pc + 1) S ω
  | .iload k => am_ldi L k (pc + 2) S ω
  | .lload_n k => am_ldl L k (pc + 1) S ω
  | .lload k => am_ldl L k (pc + 2) S ω
  | .aload_n k => am_lda L k (pc + 1) S ω
  | .aload k => am_lda L k (pc + 2) S ω
  | .istore_n k => am_sti L k (pc + 1) S ω
  | .istore k => am_sti L k (pc + 2) S ω
  | .lstore_n k => am_stj L k (pc + 1) S ω
  | .lstore k => am_stj L k (pc + 2) S ω
  | .astore_n k => am_sta L k (pc + 1) S ω
  | .astore k => am_sta L k (pc + 2) S ω
  | .iinc k n => (match L[k]? with
    | some (some (.inl z)) => am_st1 (am_sto L k (.inl (am_w (z + n)))) (pc + 3) S ω
    | _ => none)
  | .iadd => am_b2 (fun a b => am_w (a + b)) (pc + 1) L S ω
  | .isub => am_b2 (fun a b => am_w (a - b)) (pc + 1) L S ω
  | .imul => am_b2 (fun a b => am_w (a * b)) (pc + 1) L S ω
  | .iand => am_b2 am_and (pc + 1) L S ω
  | .ior => am_b2 am_or (pc + 1) L S ω
  | .ixor => am_b2 am_xor (pc + 1) L S ω
  | .ishl => am_b2 am_shl (pc + 1) L S ω
  | .ishr => am_b2 am_shr (pc + 1) L S ω
  | .iushr => am_b2 am_ushr (pc + 1) L S ω
  | .idiv => (match S with
    | .inl b :: .inl a :: S => cond (decide (b = 0)) none (am_nx (pc + 1) L (.inl (am_w (a.tdiv b)) :: S) ω)
    | _ => none)
  | .irem => (match S with
    | .inl b :: .inl a :: S => cond (decide (b = 0)) none (am_nx (pc + 1) L (.inl (a.tmod b) :: S) ω)
    | _ => none)
  | .ineg => (match S with
    | .inl a :: S => am_nx (pc + 1) L (.inl (am_w (-a)) :: S) ω
    | _ => none)
  | .ladd => am_j2 (fun a b => am_wl (a + b)) (pc + 1) L S ω
  | .lmul => am_j2 (fun a b => am_wl (a * b)) (pc + 1) L S ω
  | .land => am_j2 am_land (pc + 1) L S ω
  | .lor => am_j2 am_lor (pc + 1) L S ω
  | .lshl => (match S with
    | .inl b :: .inr (.inl a) :: S => am_nx (pc + 1) L (.inr (.inl (am_lshl a b)) :: S) ω
    | _ => none)
  | .ldiv => (match S with
    | .inr (.inl b) :: .inr (.inl a) :: S => cond (decide (b = 0)) none (am_nx (pc + 1) L (.inr (.inl (am_wl (a.tdiv b))) :: S) ω)
    | _ => none)
  | .lrem => (match S with
    | .inr (.inl b) :: .inr (.inl a) :: S => cond (decide (b = 0)) none (am_nx (pc + 1) L (.inr (.inl (a.tmod b)) :: S) ω)
    | _ => none)
  | .lcmp => (match S with
    | .inr (.inl b) :: .inr (.inl a) :: S => am_nx (pc + 1) L (.inl (am_cmp a b) :: S) ω
    | _ => none)
  | .i2l => (match S with
    | .inl a :: S => am_nx (pc + 1) L (.inr (.inl a) :: S) ω
    | _ => none)
  | .l2i => (match S with
    | .inr (.inl a) :: S => am_nx (pc + 1) L (.inl (am_w a) :: S) ω
    | _ => none)
  | .i2b => (match S with
    | .inl a :: S => am_nx (pc + 1) L (.inl (a.bmod 256) :: S) ω
    | _ => none)
  | .i2s => (match S with
    | .inl a :: S => am_nx (pc + 1) L (.inl (a.bmod 65536) :: S) ω
    | _ => none)
  | .ldc idx => (match am_lk (am_pc.get (am_own m.1)) idx, am_lk (am_ps.get (am_own m.1)) idx with
    | some (z, _), _ => am_nx (pc + 2) L (.inl z :: S) ω
    | none, some (k, _) => am_nx (pc + 2) L (.inr (.inr (-3 - (k : Int))) :: S) ω
    | none, none => none)
  | .ldc_w idx => (match am_lk (am_pc.get (am_own m.1)) idx with
    | some (z, _) => am_nx (pc + 3) L (.inl z :: S) ω
    | none => none)
  | .ldc2_w idx => (match am_lk (am_pl.get (am_own m.1)) idx with
    | some (z, _) => am_nx (pc + 3) L (.inr (.inl z) :: S) ω
    | none => none)
  | .dup => (match S with
    | .inl z :: S => am_nx (pc + 1) L (.inl z :: .inl z :: S) ω
    | .inr (.inr z) :: S => am_nx (pc + 1) L (.inr (.inr z) :: .inr (.inr z) :: S) ω
    | _ => none)
  | .dup_x1 => (match S with
    | .inl z :: .inr (.inr r) :: S => am_nx (pc + 1) L (.inl z :: .inr (.inr r) :: .inl z :: S) ω
    | _ => none)
  | .dup2 => (match S with
    | .inl z :: .inr (.inr r) :: S => am_nx (pc + 1) L (.inl z :: .inr (.inr r) :: .inl z :: .inr (.inr r) :: S) ω
    | _ => none)
  | .pop => (match S with
    | .inl _ :: S => am_nx (pc + 1) L S ω
    | .inr (.inr _) :: S => am_nx (pc + 1) L S ω
    | _ => none)
  | .goto off => am_jp ((pc : Int) + off) L S ω
  | .ifCond c off => (match S with
    | .inl a :: S => am_br (am_cc c a 0) ((pc : Int) + off) (pc + 3) L S ω
    | _ => none)
  | .if_icmp c off => (match S with
    | .inl b :: .inl a :: S => am_br (am_cc c a b) ((pc : Int) + off) (pc + 3) L S ω
    | _ => none)
  | .ifnonnull off => (match S with
    | .inr (.inr r) :: S => am_br (decide (¬ r = -1)) ((pc : Int) + off) (pc + 3) L S ω
    | _ => none)
  | .tableswitch dflt lo hi offs => (match S with
    | .inl z :: S => (match am_tsw dflt lo hi offs z with
      | some off => am_jp ((pc : Int) + off) L S ω
      | none => none)
    | _ => none)
  | .getfield idx => am_getf (am_own m.1) idx (pc + 3) L S ω
  | .putfield idx => am_putf (am_own m.1) m.1 idx (pc + 3) L S ω
  | .arraylength => (match S with
    | .inr (.inr r) :: S => cond (Nat.beq m.1 240 && decide (r = -2)) (am_nx (pc + 1) L (.inl (ω.2.2.1 : Int) :: S) ω) (cond (am_ar ω r 100 || am_ar ω r 101) (am_nx (pc + 1) L (.inl (am_len ω r) :: S) ω) none)
    | _ => none)
  | .iaload => (match S with
    | .inl j :: .inr (.inr r) :: S => cond (Nat.beq m.1 240 && decide (r = -2)) (cond (decide (0 ≤ j) && decide (j < (ω.2.2.1 : Int))) (am_nx (pc + 1) L (.inl (ω.2.2.2 j.toNat) :: S) ω) none) (cond (am_in ω r 100 j) (am_nx (pc + 1) L (.inl (am_get ω r.toNat j.toNat) :: S) ω) none)
    | _ => none)
  | .laload => (match S with
    | .inl j :: .inr (.inr r) :: S => cond (am_in ω r 101 j) (am_nx (pc + 1) L (.inr (.inl (am_get ω r.toNat j.toNat)) :: S) ω) none
    | _ => none)
  | .aaload => (match S with
    | .inl j :: .inr (.inr r) :: S => cond (am_in ω r 102 j || (am_in ω r 103 j || am_in ω r 104 j)) (am_nx (pc + 1) L (.inr (.inr (am_get ω r.toNat j.toNat)) :: S) ω) none
    | _ => none)
  | .iastore => (match S with
    | .inl z :: .inl j :: .inr (.inr r) :: S => cond (am_in ω r 100 j) (am_nx (pc + 1) L S (am_put ω r.toNat j.toNat z)) none
    | _ => none)
  | .lastore => (match S with
    | .inr (.inl z) :: .inl j :: .inr (.inr r) :: S => cond (am_in ω r 101 j) (am_nx (pc + 1) L S (am_put ω r.toNat j.toNat z)) none
    | _ => none)
  | .aastore => (match S with
    | .inr (.inr z) :: .inl j :: .inr (.inr r) :: S => cond ((am_in ω r 102 j && am_is ω z (4, 5)) || (am_in ω r 103 j && am_is ω z (2, 3))) (am_nx (pc + 1) L S (am_put ω r.toNat j.toNat z)) none
    | _ => none)
  | .new idx => (match am_lk (am_pn.get (am_own m.1)) idx with
    | some (ci, _) => cond (decide (ci < 8)) (am_nx (pc + 3) L (.inr (.inr (ω.1.length : Int)) :: S) (am_new ω (ci, am_nf ci) (am_d0 ci))) none
    | none => none)
  | .newarray ty => (match S with
    | .inl n :: S => cond (decide (0 ≤ n) && decide (n ≤ 100000)) (match ty with
      | .int => am_nx (pc + 2) L (.inr (.inr (ω.1.length : Int)) :: S) (am_new ω (100, n.toNat) (fun _ => 0))
      | .long => am_nx (pc + 2) L (.inr (.inr (ω.1.length : Int)) :: S) (am_new ω (101, n.toNat) (fun _ => 0))
      | _ => none) none
    | _ => none)
  | .anewarray idx => (match am_lk (am_pn.get (am_own m.1)) idx, S with
    | some (ci, _), .inl n :: S => cond (decide (0 ≤ n) && decide (n ≤ 100000)) (match ci with
      | 4 => am_nx (pc + 3) L (.inr (.inr (ω.1.length : Int)) :: S) (am_new ω (102, n.toNat) (fun _ => -1))
      | 2 => am_nx (pc + 3) L (.inr (.inr (ω.1.length : Int)) :: S) (am_new ω (103, n.toNat) (fun _ => -1))
      | _ => none) none
    | _, _ => none)
  | .multianewarray idx dims => (match am_lk (am_pn.get (am_own m.1)) idx, S with
    | some (104, _), .inl k :: .inl n :: S => cond (Nat.beq dims 2 && (decide (0 ≤ n) && (decide (n ≤ 1000) && (decide (0 ≤ k) && decide (k ≤ 100000))))) (am_nx (pc + 4) L (.inr (.inr (ω.1.length : Int)) :: S) (am_newg ω n.toNat k.toNat)) none
    | _, _ => none)
  | .invokevirtual idx => am_inv 0 m idx (pc + 3) L S ω
  | .invokestatic idx => am_inv 1 m idx (pc + 3) L S ω
  | .invokespecial idx => am_inv 2 m idx (pc + 3) L S ω
  | .ireturn => (match S with
    | [.inl z] => cond (am_nar (am_rt m.1) z) (am_rv (some (.inl z)) ω) none
    | _ => none)
  | .lreturn => (match S with
    | [.inr (.inl z)] => cond (Nat.beq (am_rt m.1) 2) (am_rv (some (.inr (.inl z))) ω) none
    | _ => none)
  | .areturn => (match S with
    | [.inr (.inr z)] => cond (Nat.beq (am_rt m.1) 3 && am_is ω z (1, 15)) (am_rv (some (.inr (.inr z))) ω) none
    | _ => none)
  | .return_ => (match S with
    | [] => cond (Nat.beq (am_rt m.1) 0) (am_rv none ω) none
    | _ => none)
  | _ => none
/-- a method's frame at its start -/
noncomputable def am_ent (b : Nat) (as : List am_V) : am_L := am_spread as ++ List.replicate (am_max b - (am_spread as).length) none
noncomputable def am : Nat → am_M → Nat → am_S → Option am_R
  | 0, _, _, _ => none
  | n + 1, m, pc, (L, S, ω) => match am_code m.1 pc with
    | none => none
    | some (i, _) => match am_st m i pc L S ω with
      | none => none
      | some (.inl (pc', σ)) => am n m pc' σ
      | some (.inr (.inl r)) => some r
      | some (.inr (.inr (m', rk, as, pc', L', S', ω'))) => match am n m' 0 (am_ent m'.1 as, [], ω') with
        | none => none
        | some (v, ω1) => match am_push rk v S' with
          | none => none
          | some S1 => am n m pc' (L', S1, ω1)
