/-! ===== THE ABSTRACT MACHINE. Numbers are Int (always in range), cells are numbered in the order in which they are made: a world is (kind and size of each cell; what each place of each cell holds; the script). A value: an int, a long, or a reference (a cell's number; -1 null; -2 the script; -3 - k the k-th text). ===== -/
abbrev am_V : Type := Int ⊕ (Int ⊕ Int)
abbrev am_W : Type := List (Nat × Nat) × (Nat → Nat → Int) × (Nat × (Nat → Int))
abbrev am_L : Type := List (Option am_V)
abbrev am_S : Type := am_L × List am_V × am_W
abbrev am_R : Type := Option am_V × am_W
abbrev am_M : Type := Nat × Nat
abbrev am_T : Type := Lean.RArray (Nat × Instr × Nat)
/-- a table's row of that number -/
noncomputable def am_look {α : Type} (t : Lean.RArray (Nat × α)) (k : Nat) : Option α := cond (Nat.beq (t.get k).1 k) (some (t.get k).2) none
/-- every row of a table -/
def am_all {α : Type} (P : α → Prop) : Lean.RArray α → Prop
  | .leaf a => P a
  | .branch _ l r => am_all P l ∧ am_all P r
theorem am_all_get {α : Type} {P : α → Prop} : ∀ {t : Lean.RArray α}, am_all P t → ∀ n : Nat, P (t.get n)
  | .leaf _, h, _ => h
  | .branch p l r, h, n => by
    have h1 := am_all_get h.1 n
    have h2 := am_all_get h.2 n
    show P ((Nat.ble p n).rec (l.get n) (r.get n))
    cases Nat.ble p n
    · exact h1
    · exact h2
def am_allb {α : Type} (f : α → Bool) : Lean.RArray α → Bool
  | .leaf a => f a
  | .branch _ l r => am_allb f l && am_allb f r
theorem am_allb_all {α : Type} {f : α → Bool} : ∀ {t : Lean.RArray α}, am_allb f t = true → am_all (fun a => f a = true) t
  | .leaf _, h => h
  | .branch _ _ _, h => by
    have h2 := Bool.and_eq_true_iff.mp h
    exact ⟨am_allb_all h2.1, am_allb_all h2.2⟩
theorem am_look_of {α : Type} {P : Nat × α → Prop} {t : Lean.RArray (Nat × α)} (h : am_all P t) {k : Nat} {a : α} (e : am_look t k = some a) : P (k, a) := by
  unfold am_look at e
  cases hb : Nat.beq (t.get k).1 k with
  | false => rw [hb] at e; cases e
  | true =>
    rw [hb] at e
    have e2 : (t.get k).2 = a := Option.some.inj e
    have e1 : (t.get k).1 = k := Nat.eq_of_beq_eq_true hb
    have hp := am_all_get h k
    rw [show t.get k = (k, a) from Prod.ext e1 e2] at hp
    exact hp
-- numbers
def am_w (z : Int) : Int := z.bmod 4294967296
def am_wl (z : Int) : Int := z.bmod 18446744073709551616
def am_and (a b : Int) : Int := (Int32.ofInt a &&& Int32.ofInt b).toInt
def am_or (a b : Int) : Int := (Int32.ofInt a ||| Int32.ofInt b).toInt
def am_xor (a b : Int) : Int := (Int32.ofInt a ^^^ Int32.ofInt b).toInt
def am_shl (a b : Int) : Int := (Int32.ofInt a <<< (Int32.ofInt b &&& 31)).toInt
def am_shr (a b : Int) : Int := (Int32.ofInt a >>> (Int32.ofInt b &&& 31)).toInt
def am_ushr (a b : Int) : Int := ((Int32.ofInt a).toUInt32 >>> ((Int32.ofInt b).toUInt32 &&& Int32.toUInt32 31)).toInt32.toInt
def am_land (a b : Int) : Int := (Int64.ofInt a &&& Int64.ofInt b).toInt
def am_lor (a b : Int) : Int := (Int64.ofInt a ||| Int64.ofInt b).toInt
def am_lshl (a b : Int) : Int := (Int64.ofInt a <<< ((Int32.ofInt b).toInt64 &&& 63)).toInt
def am_cmp (a b : Int) : Int := if a < b then -1 else if a = b then 0 else 1
/-- what an if asks of two numbers -/
def am_cc (c : Jvm.ClassFile.Cond) (a b : Int) : Bool := match c with
  | .eq => decide (a = b)
  | .ne => decide (¬ a = b)
  | .lt => decide (a < b)
  | .ge => decide (b ≤ a)
  | .gt => decide (b < a)
  | .le => decide (a ≤ b)
-- the world
def am_get (ω : am_W) (a k : Nat) : Int := ω.2.1 a k
def am_put (ω : am_W) (a k : Nat) (v : Int) : am_W := (ω.1, fun a' k' => if a' = a ∧ k' = k then v else ω.2.1 a' k', ω.2.2)
/-- the cell of that number is of that kind and size -/
def am_is (ω : am_W) (r : Int) (q : Nat × Nat) : Bool := decide (0 ≤ r) && (ω.1[r.toNat]? == some q)
/-- the cell is an array of that kind -/
def am_ar (ω : am_W) (r : Int) (kd : Nat) : Bool := decide (0 ≤ r) && ((ω.1[r.toNat]?).map (fun q => q.1) == some kd)
def am_len (ω : am_W) (r : Int) : Int := (((ω.1[r.toNat]?).map (fun q => q.2)).getD 0 : Nat)
/-- .. and has that place -/
def am_in (ω : am_W) (r : Int) (kd : Nat) (i : Int) : Bool := am_ar ω r kd && (decide (0 ≤ i) && decide (i < am_len ω r))
/-- one more cell -/
def am_new (ω : am_W) (q : Nat × Nat) (d : Nat → Int) : am_W := (ω.1 ++ [q], fun a k => if a = ω.1.length then d k else ω.2.1 a k, ω.2.2)
/-- an array of n arrays of k ints -/
def am_newg (ω : am_W) (n k : Nat) : am_W := (ω.1 ++ ((104, n) :: List.replicate n (100, k)), fun a j => if a = ω.1.length then (if j < n then ((ω.1.length + 1 + j : Nat) : Int) else -1) else if ω.1.length < a ∧ a ≤ ω.1.length + n then 0 else ω.2.1 a j, ω.2.2)
def am_cpy (ω : am_W) (a0 sp a1 dp n : Nat) : am_W := (ω.1, fun a k => if a = a1 ∧ (dp ≤ k ∧ k < dp + n) then ω.2.1 a0 (sp + (k - dp)) else ω.2.1 a k, ω.2.2)
-- the places of a frame
def am_isl : Option (Option am_V) → Bool
  | some (some (.inr (.inl _))) => true
  | _ => false
def am_prev (L : am_L) : Nat → Bool
  | 0 => false
  | k + 1 => am_isl L[k]?
def am_sto (L : am_L) (k : Nat) (v : am_V) : Option am_L := if (decide (k < L.length) && !(am_prev L k)) = true then some (L.set k (some v)) else none
def am_stl (L : am_L) (k : Nat) (v : am_V) : Option am_L := if (decide (k + 1 < L.length) && !(am_prev L k)) = true then some ((L.set k (some v)).set (k + 1) none) else none
def am_words : List am_V → Nat
  | [] => 0
  | .inr (.inl _) :: S => 2 + am_words S
  | _ :: S => 1 + am_words S
def am_spread : List am_V → am_L
  | [] => []
  | .inr (.inl z) :: S => some (.inr (.inl z)) :: none :: am_spread S
  | v :: S => some v :: am_spread S
def am_push (rk : Nat) (v : Option am_V) (S : List am_V) : Option (List am_V) := match rk, v with
  | 0, none => some S
  | 1, some (.inl z) => some (.inl z :: S)
  | 2, some (.inr (.inl z)) => some (.inr (.inl z) :: S)
  | 3, some (.inr (.inr z)) => some (.inr (.inr z) :: S)
  | _, _ => none
