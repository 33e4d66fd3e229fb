/-! ===== the first world ===== -/
section K79
/-- a world with another script -/
def sS (ω : am_W) (sc : Nat × (Nat → Int)) : am_W := (ω.1, ω.2.1, sc)
section SS
variable {ω : am_W} {sc : Nat × (Nat → Int)}
theorem ss_1 : (sS ω sc).1 = ω.1 := rfl
theorem ss_new {q : Nat × Nat} {d : Nat → Int} : am_new (sS ω sc) q d = sS (am_new ω q d) sc := rfl
theorem ss_put {a k : Nat} {v : Int} : am_put (sS ω sc) a k v = sS (am_put ω a k v) sc := rfl
theorem ss_fill {a lo hi : Nat} {v : Int} : fillR (sS ω sc) a lo hi v = sS (fillR ω a lo hi v) sc := rfl
theorem ss_wV {L : Nat} : ∀ k (ω : am_W), wV L k (sS ω sc) = sS (wV L k ω) sc := by
  intro k
  induction k with
  | zero => intro ω; rfl
  | succ k ih =>
    intro ω
    show wV L k _ = sS (wV L k _) sc
    rw [← ih, ss_new, ss_put, ss_1]
theorem ss_wL : ∀ k (ω : am_W), wL k (sS ω sc) = sS (wL k ω) sc := by
  intro k
  induction k with
  | zero => intro ω; rfl
  | succ k ih =>
    intro ω
    show wL k _ = sS (wL k _) sc
    rw [← ih, ss_1, ss_new, ss_put, ss_new, ss_put, ss_put, ss_1]
theorem ss_wQ {L : Nat} : ∀ k (ω : am_W), wQ L k (sS ω sc) = sS (wQ L k ω) sc := by
  intro k
  induction k with
  | zero => intro ω; rfl
  | succ k ih =>
    intro ω
    show wQ L k _ = sS (wQ L k _) sc
    rw [← ih, ss_put, ss_put]
theorem ss_vv {L : Nat} {q : Nat × Nat} {k : Nat} : vv (sS ω sc) L q k = sS (vv ω L q k) sc := rfl
theorem ss_vA {L : Nat} : vA (sS ω sc) L = sS (vA ω L) sc := by
  unfold vA
  simp only [ss_vv]
theorem ss_wT {L : Nat} : wT (sS ω sc) L = sS (wT ω L) sc := rfl
theorem ss_wC {L : Nat} : wC (sS ω sc) L = sS (wC ω L) sc := rfl
theorem ss_wR {L : Nat} : wR (sS ω sc) L = sS (wR ω L) sc := rfl
theorem ss_wS : wS (sS ω sc) = sS (wS ω) sc := by
  unfold wS
  rw [ss_1, ss_new, ss_wT, ss_wC, ss_wR, ss_wV]
theorem ss_wP : wP (sS ω sc) = sS (wP ω) sc := by
  unfold wP
  rw [ss_1, ss_new, ss_new, ss_1, ss_put, ss_wS, ss_put, ss_1, ss_put]
theorem ss_u8 : u8 (sS ω sc) = sS (u8 ω) sc := by
  unfold u8 u7 u6 u5 u4 u3 u2 u1 u0
  simp only [ss_new, ss_put, ss_1, ss_wS, ss_wP, ss_wL]
end SS
/-- the world behind both constructors -/
def wF (ω : am_W) : am_W := wQ 53 6 (am_put (fillR (vA (am_new (u8 ω) (7, 30) (am_d0 7)) 53) 54 0 8 (-1)) 53 3 4)
theorem ss_wF {ω : am_W} {sc : Nat × (Nat → Int)} : wF (sS ω sc) = sS (wF ω) sc := by
  unfold wF
  rw [ss_u8, ss_new, ss_vA, ss_fill, ss_put, ss_wQ]
def o0 : am_W := ([], fun _ _ => 0, (0, fun _ => 0))
theorem inv_ss {ω : am_W} {sc : Nat × (Nat → Int)} (h : Inv ω) : Inv (sS ω sc) := h
theorem wF_1 : (wF o0).1 = sh_0 := by decide +kernel
theorem u8_len : (u8 o0).1.length = 53 := by decide +kernel
end K79
