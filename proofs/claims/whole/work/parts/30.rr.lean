/-! ===== runs, instruction by instruction ===== -/
def am_bi (x : Option am_R) (f : Int → am_W → Option am_R) : Option am_R := match x with
  | some (some (.inl z), ω) => f z ω
  | _ => none
def am_bl (x : Option am_R) (f : Int → am_W → Option am_R) : Option am_R := match x with
  | some (some (.inr (.inl z)), ω) => f z ω
  | _ => none
def am_ba (x : Option am_R) (f : Int → am_W → Option am_R) : Option am_R := match x with
  | some (some (.inr (.inr z)), ω) => f z ω
  | _ => none
def am_bv (x : Option am_R) (f : am_W → Option am_R) : Option am_R := match x with
  | some (none, ω) => f ω
  | _ => none
theorem am_bi_s {z : Int} {ω : am_W} {f : Int → am_W → Option am_R} : am_bi (some (some (.inl z), ω)) f = f z ω := rfl
theorem am_bl_s {z : Int} {ω : am_W} {f : Int → am_W → Option am_R} : am_bl (some (some (.inr (.inl z)), ω)) f = f z ω := rfl
theorem am_ba_s {z : Int} {ω : am_W} {f : Int → am_W → Option am_R} : am_ba (some (some (.inr (.inr z)), ω)) f = f z ω := rfl
theorem am_bv_s {ω : am_W} {f : am_W → Option am_R} : am_bv (some (none, ω)) f = f ω := rfl
theorem bi_cg {x : Option am_R} {f g : Int → am_W → Option am_R} (h : ∀ z ω, f z ω = g z ω) : am_bi x f = am_bi x g := by rw [show f = g from funext fun z => funext fun ω => h z ω]
theorem bl_cg {x : Option am_R} {f g : Int → am_W → Option am_R} (h : ∀ z ω, f z ω = g z ω) : am_bl x f = am_bl x g := by rw [show f = g from funext fun z => funext fun ω => h z ω]
theorem ba_cg {x : Option am_R} {f g : Int → am_W → Option am_R} (h : ∀ z ω, f z ω = g z ω) : am_ba x f = am_ba x g := by rw [show f = g from funext fun z => funext fun ω => h z ω]
theorem bv_cg {x : Option am_R} {f g : am_W → Option am_R} (h : ∀ ω, f ω = g ω) : am_bv x f = am_bv x g := by rw [show f = g from funext fun ω => h ω]
theorem bi_eq {x : Option am_R} {S : List am_V} {k : List am_V → am_W → Option am_R} : x.bind (fun q => (am_push 1 q.1 S).bind (fun S1 => k S1 q.2)) = am_bi x (fun z ω => k (.inl z :: S) ω) := by
  rcases x with _ | ⟨_ | z | z | z, ω⟩ <;> rfl
theorem bl_eq {x : Option am_R} {S : List am_V} {k : List am_V → am_W → Option am_R} : x.bind (fun q => (am_push 2 q.1 S).bind (fun S1 => k S1 q.2)) = am_bl x (fun z ω => k (.inr (.inl z) :: S) ω) := by
  rcases x with _ | ⟨_ | z | z | z, ω⟩ <;> rfl
theorem ba_eq {x : Option am_R} {S : List am_V} {k : List am_V → am_W → Option am_R} : x.bind (fun q => (am_push 3 q.1 S).bind (fun S1 => k S1 q.2)) = am_ba x (fun z ω => k (.inr (.inr z) :: S) ω) := by
  rcases x with _ | ⟨_ | z | z | z, ω⟩ <;> rfl
theorem bv_eq {x : Option am_R} {S : List am_V} {k : List am_V → am_W → Option am_R} : x.bind (fun q => (am_push 0 q.1 S).bind (fun S1 => k S1 q.2)) = am_bv x (fun ω => k S ω) := by
  rcases x with _ | ⟨_ | z | z | z, ω⟩ <;> rfl
theorem it_cg {c : Prop} [Decidable c] {x y x' y' : Option am_R} (h1 : c → x = x') (h2 : ¬ c → y = y') : (if c then x else y) = (if c then x' else y') := by
  by_cases h : c
  · rw [if_pos h, if_pos h]; exact h1 h
  · rw [if_neg h, if_neg h]; exact h2 h
/-- a thing that must hold, or the run stops -/
theorem ck_it {b : Bool} {x y y' : Option am_R} (h1 : b = true → x = y) (h2 : b = false → x = none) (h3 : b = true → y = y') : x = if b = true then y' else none := by
  cases b
  · rw [if_neg (by decide)]; exact h2 rfl
  · rw [if_pos rfl]; exact (h1 rfl).trans (h3 rfl)
theorem sw_it {c : Prop} [Decidable c] {x y y' : Option am_R} (h1 : c → x = y) (h2 : ¬ c → x = y') : x = if c then y else y' := by
  by_cases h : c
  · rw [if_pos h]; exact h1 h
  · rw [if_neg h]; exact h2 h
section RR
variable {m : am_M} {pc : Nat} {L L' : am_L} {S S' : List am_V} {ω : am_W} {a b z r j n : Int} {t : Nat}
theorem rr_iconst (hc : am_code m.1 pc = some (.iconst n, 1)) (h : (decide (-128 ≤ n) && decide (n ≤ 127)) = true) : am_run m pc (L, S, ω) = am_run m (pc + 1) (L, .inl n :: S, ω) := am_go hc (by show cond _ _ _ = _; rw [h]; rfl)
theorem rr_bipush (hc : am_code m.1 pc = some (.bipush n, 2)) (h : (decide (-128 ≤ n) && decide (n ≤ 127)) = true) : am_run m pc (L, S, ω) = am_run m (pc + 2) (L, .inl n :: S, ω) := am_go hc (by show cond _ _ _ = _; rw [h]; rfl)
theorem rr_sipush (hc : am_code m.1 pc = some (.sipush n, 3)) (h : (decide (-32768 ≤ n) && decide (n ≤ 32767)) = true) : am_run m pc (L, S, ω) = am_run m (pc + 3) (L, .inl n :: S, ω) := am_go hc (by show cond _ _ _ = _; rw [h]; rfl)
theorem rr_lconst {k : Fin 2} (hc : am_code m.1 pc = some (.lconst k, 1)) : am_run m pc (L, S, ω) = am_run m (pc + 1) (L, .inr (.inl ((k : Nat) : Int)) :: S, ω) := am_go hc rfl
theorem rr_iadd (hc : am_code m.1 pc = some (.iadd, 1)) : am_run m pc (L, .inl b :: .inl a :: S, ω) = am_run m (pc + 1) (L, .inl (am_w (a + b)) :: S, ω) := am_go hc rfl
theorem rr_isub (hc : am_code m.1 pc = some (.isub, 1)) : am_run m pc (L, .inl b :: .inl a :: S, ω) = am_run m (pc + 1) (L, .inl (am_w (a - b)) :: S, ω) := am_go hc rfl
theorem rr_imul (hc : am_code m.1 pc = some (.imul, 1)) : am_run m pc (L, .inl b :: .inl a :: S, ω) = am_run m (pc + 1) (L, .inl (am_w (a * b)) :: S, ω) := am_go hc rfl
theorem rr_iand (hc : am_code m.1 pc = some (.iand, 1)) : am_run m pc (L, .inl b :: .inl a :: S, ω) = am_run m (pc + 1) (L, .inl (am_and a b) :: S, ω) := am_go hc rfl
theorem rr_ior (hc : am_code m.1 pc = some (.ior, 1)) : am_run m pc (L, .inl b :: .inl a :: S, ω) = am_run m (pc + 1) (L, .inl (am_or a b) :: S, ω) := am_go hc rfl
theorem rr_ixor (hc : am_code m.1 pc = some (.ixor, 1)) : am_run m pc (L, .inl b :: .inl a :: S, ω) = am_run m (pc + 1) (L, .inl (am_xor a b) :: S, ω) := am_go hc rfl
theorem rr_ishl (hc : am_code m.1 pc = some (.ishl, 1)) : am_run m pc (L, .inl b :: .inl a :: S, ω) = am_run m (pc + 1) (L, .inl (am_shl a b) :: S, ω) := am_go hc rfl
theorem rr_ishr (hc : am_code m.1 pc = some (.ishr, 1)) : am_run m pc (L, .inl b :: .inl a :: S, ω) = am_run m (pc + 1) (L, .inl (am_shr a b) :: S, ω) := am_go hc rfl
theorem rr_iushr (hc : am_code m.1 pc = some (.iushr, 1)) : am_run m pc (L, .inl b :: .inl a :: S, ω) = am_run m (pc + 1) (L, .inl (am_ushr a b) :: S, ω) := am_go hc rfl
theorem rr_ladd (hc : am_code m.1 pc = some (.ladd, 1)) : am_run m pc (L, .inr (.inl b) :: .inr (.inl a) :: S, ω) = am_run m (pc + 1) (L, .inr (.inl (am_wl (a + b))) :: S, ω) := am_go hc rfl
theorem rr_lmul (hc : am_code m.1 pc = some (.lmul, 1)) : am_run m pc (L, .inr (.inl b) :: .inr (.inl a) :: S, ω) = am_run m (pc + 1) (L, .inr (.inl (am_wl (a * b))) :: S, ω) := am_go hc rfl
theorem rr_land (hc : am_code m.1 pc = some (.land, 1)) : am_run m pc (L, .inr (.inl b) :: .inr (.inl a) :: S, ω) = am_run m (pc + 1) (L, .inr (.inl (am_land a b)) :: S, ω) := am_go hc rfl
theorem rr_lor (hc : am_code m.1 pc = some (.lor, 1)) : am_run m pc (L, .inr (.inl b) :: .inr (.inl a) :: S, ω) = am_run m (pc + 1) (L, .inr (.inl (am_lor a b)) :: S, ω) := am_go hc rfl
theorem rr_lshl (hc : am_code m.1 pc = some (.lshl, 1)) : am_run m pc (L, .inl b :: .inr (.inl a) :: S, ω) = am_run m (pc + 1) (L, .inr (.inl (am_lshl a b)) :: S, ω) := am_go hc rfl
theorem rr_lcmp (hc : am_code m.1 pc = some (.lcmp, 1)) : am_run m pc (L, .inr (.inl b) :: .inr (.inl a) :: S, ω) = am_run m (pc + 1) (L, .inl (am_cmp a b) :: S, ω) := am_go hc rfl
theorem rr_ineg (hc : am_code m.1 pc = some (.ineg, 1)) : am_run m pc (L, .inl a :: S, ω) = am_run m (pc + 1) (L, .inl (am_w (-a)) :: S, ω) := am_go hc rfl
theorem rr_i2l (hc : am_code m.1 pc = some (.i2l, 1)) : am_run m pc (L, .inl a :: S, ω) = am_run m (pc + 1) (L, .inr (.inl a) :: S, ω) := am_go hc rfl
theorem rr_l2i (hc : am_code m.1 pc = some (.l2i, 1)) : am_run m pc (L, .inr (.inl a) :: S, ω) = am_run m (pc + 1) (L, .inl (am_w a) :: S, ω) := am_go hc rfl
theorem rr_i2b (hc : am_code m.1 pc = some (.i2b, 1)) : am_run m pc (L, .inl a :: S, ω) = am_run m (pc + 1) (L, .inl (a.bmod 256) :: S, ω) := am_go hc rfl
theorem rr_i2s (hc : am_code m.1 pc = some (.i2s, 1)) : am_run m pc (L, .inl a :: S, ω) = am_run m (pc + 1) (L, .inl (a.bmod 65536) :: S, ω) := am_go hc rfl
theorem rr_dupi (hc : am_code m.1 pc = some (.dup, 1)) : am_run m pc (L, .inl a :: S, ω) = am_run m (pc + 1) (L, .inl a :: .inl a :: S, ω) := am_go hc rfl
theorem rr_dupr (hc : am_code m.1 pc = some (.dup, 1)) : am_run m pc (L, .inr (.inr r) :: S, ω) = am_run m (pc + 1) (L, .inr (.inr r) :: .inr (.inr r) :: S, ω) := am_go hc rfl
theorem rr_dup_x1 (hc : am_code m.1 pc = some (.dup_x1, 1)) : am_run m pc (L, .inl a :: .inr (.inr r) :: S, ω) = am_run m (pc + 1) (L, .inl a :: .inr (.inr r) :: .inl a :: S, ω) := am_go hc rfl
theorem rr_dup2 (hc : am_code m.1 pc = some (.dup2, 1)) : am_run m pc (L, .inl a :: .inr (.inr r) :: S, ω) = am_run m (pc + 1) (L, .inl a :: .inr (.inr r) :: .inl a :: .inr (.inr r) :: S, ω) := am_go hc rfl
theorem rr_popi (hc : am_code m.1 pc = some (.pop, 1)) : am_run m pc (L, .inl a :: S, ω) = am_run m (pc + 1) (L, S, ω) := am_go hc rfl
theorem rr_popr (hc : am_code m.1 pc = some (.pop, 1)) : am_run m pc (L, .inr (.inr r) :: S, ω) = am_run m (pc + 1) (L, S, ω) := am_go hc rfl
theorem rr_idiv (hc : am_code m.1 pc = some (.idiv, 1)) : am_run m pc (L, .inl (b) :: .inl (a) :: S, ω) = if b = 0 then none else am_run m (pc + 1) (L, .inl (am_w (a.tdiv b)) :: S, ω) := by
  by_cases h : b = 0
  · rw [if_pos h]
    exact am_stop hc (by show cond (decide (b = 0)) none _ = none; rw [decide_eq_true h]; rfl)
  · rw [if_neg h]
    exact am_go hc (by show cond (decide (b = 0)) none _ = _; rw [decide_eq_false h]; rfl)
theorem rr_irem (hc : am_code m.1 pc = some (.irem, 1)) : am_run m pc (L, .inl (b) :: .inl (a) :: S, ω) = if b = 0 then none else am_run m (pc + 1) (L, .inl (a.tmod b) :: S, ω) := by
  by_cases h : b = 0
  · rw [if_pos h]
    exact am_stop hc (by show cond (decide (b = 0)) none _ = none; rw [decide_eq_true h]; rfl)
  · rw [if_neg h]
    exact am_go hc (by show cond (decide (b = 0)) none _ = _; rw [decide_eq_false h]; rfl)
theorem rr_ldiv (hc : am_code m.1 pc = some (.ldiv, 1)) : am_run m pc (L, .inr (.inl (b)) :: .inr (.inl (a)) :: S, ω) = if b = 0 then none else am_run m (pc + 1) (L, .inr (.inl (am_wl (a.tdiv b))) :: S, ω) := by
  by_cases h : b = 0
  · rw [if_pos h]
    exact am_stop hc (by show cond (decide (b = 0)) none _ = none; rw [decide_eq_true h]; rfl)
  · rw [if_neg h]
    exact am_go hc (by show cond (decide (b = 0)) none _ = _; rw [decide_eq_false h]; rfl)
theorem rr_lrem (hc : am_code m.1 pc = some (.lrem, 1)) : am_run m pc (L, .inr (.inl (b)) :: .inr (.inl (a)) :: S, ω) = if b = 0 then none else am_run m (pc + 1) (L, .inr (.inl (a.tmod b)) :: S, ω) := by
  by_cases h : b = 0
  · rw [if_pos h]
    exact am_stop hc (by show cond (decide (b = 0)) none _ = none; rw [decide_eq_true h]; rfl)
  · rw [if_neg h]
    exact am_go hc (by show cond (decide (b = 0)) none _ = _; rw [decide_eq_false h]; rfl)
theorem rr_iload_n {k : Fin 4} (hc : am_code m.1 pc = some (.iload_n k, 1)) (hl : L[(k : Nat)]? = some (some (.inl z))) : am_run m pc (L, S, ω) = am_run m (pc + 1) (L, .inl z :: S, ω) := am_go hc (by show am_ldi L _ _ _ _ = _; unfold am_ldi; rw [hl]; rfl)
theorem rr_iload {k : Nat} (hc : am_code m.1 pc = some (.iload k, 2)) (hl : L[k]? = some (some (.inl z))) : am_run m pc (L, S, ω) = am_run m (pc + 2) (L, .inl z :: S, ω) := am_go hc (by show am_ldi L _ _ _ _ = _; unfold am_ldi; rw [hl]; rfl)
theorem rr_lload_n {k : Fin 4} (hc : am_code m.1 pc = some (.lload_n k, 1)) (hl : L[(k : Nat)]? = some (some (.inr (.inl z)))) : am_run m pc (L, S, ω) = am_run m (pc + 1) (L, .inr (.inl z) :: S, ω) := am_go hc (by show am_ldl L _ _ _ _ = _; unfold am_ldl; rw [hl]; rfl)
theorem rr_lload {k : Nat} (hc : am_code m.1 pc = some (.lload k, 2)) (hl : L[k]? = some (some (.inr (.inl z)))) : am_run m pc (L, S, ω) = am_run m (pc + 2) (L, .inr (.inl z) :: S, ω) := am_go hc (by show am_ldl L _ _ _ _ = _; unfold am_ldl; rw [hl]; rfl)
theorem rr_aload_n {k : Fin 4} (hc : am_code m.1 pc = some (.aload_n k, 1)) (hl : L[(k : Nat)]? = some (some (.inr (.inr z)))) : am_run m pc (L, S, ω) = am_run m (pc + 1) (L, .inr (.inr z) :: S, ω) := am_go hc (by show am_lda L _ _ _ _ = _; unfold am_lda; rw [hl]; rfl)
theorem rr_aload {k : Nat} (hc : am_code m.1 pc = some (.aload k, 2)) (hl : L[k]? = some (some (.inr (.inr z)))) : am_run m pc (L, S, ω) = am_run m (pc + 2) (L, .inr (.inr z) :: S, ω) := am_go hc (by show am_lda L _ _ _ _ = _; unfold am_lda; rw [hl]; rfl)
theorem rr_istore_n {k : Fin 4} (hc : am_code m.1 pc = some (.istore_n k, 1)) (hl : am_sto L (k : Nat) (.inl z) = some L') : am_run m pc (L, .inl z :: S, ω) = am_run m (pc + 1) (L', S, ω) := am_go hc (by show am_st1 (am_sto L _ _) _ _ _ = _; rw [hl]; rfl)
theorem rr_istore {k : Nat} (hc : am_code m.1 pc = some (.istore k, 2)) (hl : am_sto L k (.inl z) = some L') : am_run m pc (L, .inl z :: S, ω) = am_run m (pc + 2) (L', S, ω) := am_go hc (by show am_st1 (am_sto L _ _) _ _ _ = _; rw [hl]; rfl)
theorem rr_lstore_n {k : Fin 4} (hc : am_code m.1 pc = some (.lstore_n k, 1)) (hl : am_stl L (k : Nat) (.inr (.inl z)) = some L') : am_run m pc (L, .inr (.inl z) :: S, ω) = am_run m (pc + 1) (L', S, ω) := am_go hc (by show am_st1 (am_stl L _ _) _ _ _ = _; rw [hl]; rfl)
theorem rr_lstore {k : Nat} (hc : am_code m.1 pc = some (.lstore k, 2)) (hl : am_stl L k (.inr (.inl z)) = some L') : am_run m pc (L, .inr (.inl z) :: S, ω) = am_run m (pc + 2) (L', S, ω) := am_go hc (by show am_st1 (am_stl L _ _) _ _ _ = _; rw [hl]; rfl)
theorem rr_astore_n {k : Fin 4} (hc : am_code m.1 pc = some (.astore_n k, 1)) (hl : am_sto L (k : Nat) (.inr (.inr z)) = some L') : am_run m pc (L, .inr (.inr z) :: S, ω) = am_run m (pc + 1) (L', S, ω) := am_go hc (by show am_st1 (am_sto L _ _) _ _ _ = _; rw [hl]; rfl)
theorem rr_astore {k : Nat} (hc : am_code m.1 pc = some (.astore k, 2)) (hl : am_sto L k (.inr (.inr z)) = some L') : am_run m pc (L, .inr (.inr z) :: S, ω) = am_run m (pc + 2) (L', S, ω) := am_go hc (by show am_st1 (am_sto L _ _) _ _ _ = _; rw [hl]; rfl)
theorem rr_iinc {k : Nat} (hc : am_code m.1 pc = some (.iinc k n, 3)) (h0 : L[k]? = some (some (.inl z))) (hl : am_sto L k (.inl (am_w (z + n))) = some L') : am_run m pc (L, S, ω) = am_run m (pc + 3) (L', S, ω) := am_go hc (by
  show (match L[k]? with | some (some (.inl z)) => am_st1 (am_sto L k (.inl (am_w (z + n)))) (pc + 3) S ω | _ => none) = _
  rw [h0]
  show am_st1 (am_sto L k (.inl (am_w (z + n)))) (pc + 3) S ω = _
  rw [hl]; rfl)
theorem am_jp_eq (h : (pc : Int) + n = (t : Int)) : am_jp ((pc : Int) + n) L S ω = some (.inl (t, L, S, ω)) := by
  unfold am_jp
  rw [h, decide_eq_true (by omega), Int.toNat_natCast]
  rfl
theorem am_br_eq {cb : Bool} {pc2 : Nat} (h : (pc : Int) + n = (t : Int)) : am_br cb ((pc : Int) + n) pc2 L S ω = some (.inl (if cb = true then t else pc2, L, S, ω)) := by
  unfold am_br
  rw [h, decide_eq_true (by omega), Int.toNat_natCast]
  rfl
theorem rr_goto (hc : am_code m.1 pc = some (.goto n, 3)) (h : (pc : Int) + n = (t : Int)) : am_run m pc (L, S, ω) = am_run m t (L, S, ω) := am_go hc (am_jp_eq h)
theorem rr_ite {cb : Bool} {x y : Nat} {σ : am_S} : am_run m (if cb = true then x else y) σ = if cb = true then am_run m x σ else am_run m y σ := by
  cases cb <;> rfl
theorem rr_if_eq (hc : am_code m.1 pc = some (.ifCond .eq n, 3)) (h : (pc : Int) + n = (t : Int)) : am_run m pc (L, .inl a :: S, ω) = if a = 0 then am_run m t (L, S, ω) else am_run m (pc + 3) (L, S, ω) := by
  refine Eq.trans (am_go hc (am_br_eq (cb := am_cc .eq a 0) h)) (Eq.trans rr_ite ?_)
  by_cases q : a = 0
  · rw [if_pos q, if_pos (by simp only [am_cc]; exact decide_eq_true q)]
  · rw [if_neg q, if_neg (by simp only [am_cc]; intro w; exact q (of_decide_eq_true w))]
theorem rr_icmp_eq (hc : am_code m.1 pc = some (.if_icmp .eq n, 3)) (h : (pc : Int) + n = (t : Int)) : am_run m pc (L, .inl b :: .inl a :: S, ω) = if a = b then am_run m t (L, S, ω) else am_run m (pc + 3) (L, S, ω) := by
  refine Eq.trans (am_go hc (am_br_eq (cb := am_cc .eq a b) h)) (Eq.trans rr_ite ?_)
  by_cases q : a = b
  · rw [if_pos q, if_pos (by simp only [am_cc]; exact decide_eq_true q)]
  · rw [if_neg q, if_neg (by simp only [am_cc]; intro w; exact q (of_decide_eq_true w))]
theorem rr_if_ne (hc : am_code m.1 pc = some (.ifCond .ne n, 3)) (h : (pc : Int) + n = (t : Int)) : am_run m pc (L, .inl a :: S, ω) = if ¬ a = 0 then am_run m t (L, S, ω) else am_run m (pc + 3) (L, S, ω) := by
  refine Eq.trans (am_go hc (am_br_eq (cb := am_cc .ne a 0) h)) (Eq.trans rr_ite ?_)
  by_cases q : ¬ a = 0
  · rw [if_pos q, if_pos (by simp only [am_cc]; exact decide_eq_true q)]
  · rw [if_neg q, if_neg (by simp only [am_cc]; intro w; exact q (of_decide_eq_true w))]
theorem rr_icmp_ne (hc : am_code m.1 pc = some (.if_icmp .ne n, 3)) (h : (pc : Int) + n = (t : Int)) : am_run m pc (L, .inl b :: .inl a :: S, ω) = if ¬ a = b then am_run m t (L, S, ω) else am_run m (pc + 3) (L, S, ω) := by
  refine Eq.trans (am_go hc (am_br_eq (cb := am_cc .ne a b) h)) (Eq.trans rr_ite ?_)
  by_cases q : ¬ a = b
  · rw [if_pos q, if_pos (by simp only [am_cc]; exact decide_eq_true q)]
  · rw [if_neg q, if_neg (by simp only [am_cc]; intro w; exact q (of_decide_eq_true w))]
theorem rr_if_lt (hc : am_code m.1 pc = some (.ifCond .lt n, 3)) (h : (pc : Int) + n = (t : Int)) : am_run m pc (L, .inl a :: S, ω) = if a < 0 then am_run m t (L, S, ω) else am_run m (pc + 3) (L, S, ω) := by
  refine Eq.trans (am_go hc (am_br_eq (cb := am_cc .lt a 0) h)) (Eq.trans rr_ite ?_)
  by_cases q : a < 0
  · rw [if_pos q, if_pos (by simp only [am_cc]; exact decide_eq_true q)]
  · rw [if_neg q, if_neg (by simp only [am_cc]; intro w; exact q (of_decide_eq_true w))]
theorem rr_icmp_lt (hc : am_code m.1 pc = some (.if_icmp .lt n, 3)) (h : (pc : Int) + n = (t : Int)) : am_run m pc (L, .inl b :: .inl a :: S, ω) = if a < b then am_run m t (L, S, ω) else am_run m (pc + 3) (L, S, ω) := by
  refine Eq.trans (am_go hc (am_br_eq (cb := am_cc .lt a b) h)) (Eq.trans rr_ite ?_)
  by_cases q : a < b
  · rw [if_pos q, if_pos (by simp only [am_cc]; exact decide_eq_true q)]
  · rw [if_neg q, if_neg (by simp only [am_cc]; intro w; exact q (of_decide_eq_true w))]
theorem rr_if_ge (hc : am_code m.1 pc = some (.ifCond .ge n, 3)) (h : (pc : Int) + n = (t : Int)) : am_run m pc (L, .inl a :: S, ω) = if 0 ≤ a then am_run m t (L, S, ω) else am_run m (pc + 3) (L, S, ω) := by
  refine Eq.trans (am_go hc (am_br_eq (cb := am_cc .ge a 0) h)) (Eq.trans rr_ite ?_)
  by_cases q : 0 ≤ a
  · rw [if_pos q, if_pos (by simp only [am_cc]; exact decide_eq_true q)]
  · rw [if_neg q, if_neg (by simp only [am_cc]; intro w; exact q (of_decide_eq_true w))]
theorem rr_icmp_ge (hc : am_code m.1 pc = some (.if_icmp .ge n, 3)) (h : (pc : Int) + n = (t : Int)) : am_run m pc (L, .inl b :: .inl a :: S, ω) = if b ≤ a then am_run m t (L, S, ω) else am_run m (pc + 3) (L, S, ω) := by
  refine Eq.trans (am_go hc (am_br_eq (cb := am_cc .ge a b) h)) (Eq.trans rr_ite ?_)
  by_cases q : b ≤ a
  · rw [if_pos q, if_pos (by simp only [am_cc]; exact decide_eq_true q)]
  · rw [if_neg q, if_neg (by simp only [am_cc]; intro w; exact q (of_decide_eq_true w))]
theorem rr_if_gt (hc : am_code m.1 pc = some (.ifCond .gt n, 3)) (h : (pc : Int) + n = (t : Int)) : am_run m pc (L, .inl a :: S, ω) = if 0 < a then am_run m t (L, S, ω) else am_run m (pc + 3) (L, S, ω) := by
  refine Eq.trans (am_go hc (am_br_eq (cb := am_cc .gt a 0) h)) (Eq.trans rr_ite ?_)
  by_cases q : 0 < a
  · rw [if_pos q, if_pos (by simp only [am_cc]; exact decide_eq_true q)]
  · rw [if_neg q, if_neg (by simp only [am_cc]; intro w; exact q (of_decide_eq_true w))]
theorem rr_icmp_gt (hc : am_code m.1 pc = some (.if_icmp .gt n, 3)) (h : (pc : Int) + n = (t : Int)) : am_run m pc (L, .inl b :: .inl a :: S, ω) = if b < a then am_run m t (L, S, ω) else am_run m (pc + 3) (L, S, ω) := by
  refine Eq.trans (am_go hc (am_br_eq (cb := am_cc .gt a b) h)) (Eq.trans rr_ite ?_)
  by_cases q : b < a
  · rw [if_pos q, if_pos (by simp only [am_cc]; exact decide_eq_true q)]
  · rw [if_neg q, if_neg (by simp only [am_cc]; intro w; exact q (of_decide_eq_true w))]
theorem rr_if_le (hc : am_code m.1 pc = some (.ifCond .le n, 3)) (h : (pc : Int) + n = (t : Int)) : am_run m pc (L, .inl a :: S, ω) = if a ≤ 0 then am_run m t (L, S, ω) else am_run m (pc + 3) (L, S, ω) := by
  refine Eq.trans (am_go hc (am_br_eq (cb := am_cc .le a 0) h)) (Eq.trans rr_ite ?_)
  by_cases q : a ≤ 0
  · rw [if_pos q, if_pos (by simp only [am_cc]; exact decide_eq_true q)]
  · rw [if_neg q, if_neg (by simp only [am_cc]; intro w; exact q (of_decide_eq_true w))]
theorem rr_icmp_le (hc : am_code m.1 pc = some (.if_icmp .le n, 3)) (h : (pc : Int) + n = (t : Int)) : am_run m pc (L, .inl b :: .inl a :: S, ω) = if a ≤ b then am_run m t (L, S, ω) else am_run m (pc + 3) (L, S, ω) := by
  refine Eq.trans (am_go hc (am_br_eq (cb := am_cc .le a b) h)) (Eq.trans rr_ite ?_)
  by_cases q : a ≤ b
  · rw [if_pos q, if_pos (by simp only [am_cc]; exact decide_eq_true q)]
  · rw [if_neg q, if_neg (by simp only [am_cc]; intro w; exact q (of_decide_eq_true w))]
theorem rr_ifnonnull (hc : am_code m.1 pc = some (.ifnonnull n, 3)) (h : (pc : Int) + n = (t : Int)) : am_run m pc (L, .inr (.inr r) :: S, ω) = if r = -1 then am_run m (pc + 3) (L, S, ω) else am_run m t (L, S, ω) := by
  refine Eq.trans (am_go hc (am_br_eq (cb := decide (¬ r = -1)) h)) (Eq.trans rr_ite ?_)
  by_cases q : r = -1
  · rw [if_pos q, if_neg (by simp [q])]
  · rw [if_neg q, if_pos (by simp [q])]
theorem rr_tsw {d lo hi off : Int} {offs : Array Int} {len : Nat} (hc : am_code m.1 pc = some (.tableswitch d lo hi offs, len)) (ho : am_tsw d lo hi offs z = some off) (h : (pc : Int) + off = (t : Int)) : am_run m pc (L, .inl z :: S, ω) = am_run m t (L, S, ω) := am_go hc (by
  show (match am_tsw d lo hi offs z with | some off => am_jp ((pc : Int) + off) L S ω | none => none) = _
  rw [ho]
  exact am_jp_eq h)
theorem am_tsw_out {d lo hi : Int} {offs : Array Int} (h : z < lo ∨ hi < z) : am_tsw d lo hi offs z = some d := by
  unfold am_tsw
  rw [show (decide (z < lo) || decide (hi < z)) = true by simpa using h]
  rfl
theorem rr_getfield {i ci k w : Nat} (hc : am_code m.1 pc = some (.getfield i, 3)) (hp : am_lk (am_pf.get (am_own m.1)) i = some (ci, k, w)) (hi : am_is ω r (ci, am_nf ci) = true) : am_run m pc (L, .inr (.inr r) :: S, ω) = am_run m (pc + 3) (L, (match am_fk ci k with | 2 => .inr (.inr (am_get ω r.toNat k)) | _ => .inl (am_get ω r.toNat k)) :: S, ω) := am_go hc (by
  show am_getf _ _ _ _ _ _ = _
  unfold am_getf
  rw [hp]
  show cond (am_is ω r (ci, am_nf ci)) _ _ = _
  rw [hi]
  rfl)
theorem rr_getfield_no {i ci k w : Nat} (hc : am_code m.1 pc = some (.getfield i, 3)) (hp : am_lk (am_pf.get (am_own m.1)) i = some (ci, k, w)) (hi : am_is ω r (ci, am_nf ci) = false) : am_run m pc (L, .inr (.inr r) :: S, ω) = none := am_stop hc (by
  show am_getf _ _ _ _ _ _ = _
  unfold am_getf
  rw [hp]
  show cond (am_is ω r (ci, am_nf ci)) _ _ = _
  rw [hi]
  rfl)
theorem rr_putfieldi {i ci k w : Nat} (hc : am_code m.1 pc = some (.putfield i, 3)) (hp : am_lk (am_pf.get (am_own m.1)) i = some (ci, k, w)) (hf : (am_fin (am_own m.1) m.1 ci k && match am_fk ci k with | 0 => true | 1 => decide (z = 0) || decide (z = 1) | _ => false) = true) (hi : am_is ω r (ci, am_nf ci) = true) : am_run m pc (L, .inl z :: .inr (.inr r) :: S, ω) = am_run m (pc + 3) (L, S, am_put ω r.toNat k z) := am_go hc (by
  show am_putf _ _ _ _ _ _ _ = _
  unfold am_putf
  rw [hp]
  show cond (am_is ω r (ci, am_nf ci) && (am_fin (am_own m.1) m.1 ci k && match am_fk ci k with | 0 => true | 1 => decide (z = 0) || decide (z = 1) | _ => false)) _ _ = _
  rw [hi, hf]
  rfl)
theorem rr_putfieldi_no {i ci k w : Nat} (hc : am_code m.1 pc = some (.putfield i, 3)) (hp : am_lk (am_pf.get (am_own m.1)) i = some (ci, k, w)) (hi : am_is ω r (ci, am_nf ci) = false) : am_run m pc (L, .inl z :: .inr (.inr r) :: S, ω) = none := am_stop hc (by
  show am_putf _ _ _ _ _ _ _ = _
  unfold am_putf
  rw [hp]
  show cond (am_is ω r (ci, am_nf ci) && _) _ _ = _
  rw [hi]
  rfl)
theorem rr_putfieldr_no {i ci k w : Nat} (hc : am_code m.1 pc = some (.putfield i, 3)) (hp : am_lk (am_pf.get (am_own m.1)) i = some (ci, k, w)) (hi : am_is ω r (ci, am_nf ci) = false) : am_run m pc (L, .inr (.inr z) :: .inr (.inr r) :: S, ω) = none := am_stop hc (by
  show am_putf _ _ _ _ _ _ _ = _
  unfold am_putf
  rw [hp]
  show cond (am_is ω r (ci, am_nf ci) && _) _ _ = _
  rw [hi]
  rfl)
theorem rr_putfieldr {i ci k w : Nat} (hc : am_code m.1 pc = some (.putfield i, 3)) (hp : am_lk (am_pf.get (am_own m.1)) i = some (ci, k, w)) (hf : (am_fin (am_own m.1) m.1 ci k && (Nat.beq (am_fk ci k) 2 && decide (-1 ≤ z))) = true) (hi : am_is ω r (ci, am_nf ci) = true) : am_run m pc (L, .inr (.inr z) :: .inr (.inr r) :: S, ω) = am_run m (pc + 3) (L, S, am_put ω r.toNat k z) := am_go hc (by
  show am_putf _ _ _ _ _ _ _ = _
  unfold am_putf
  rw [hp]
  show cond (am_is ω r (ci, am_nf ci) && _) _ _ = _
  rw [hi, hf]
  rfl)
theorem rr_iaload (hc : am_code m.1 pc = some (.iaload, 1)) (h0 : Nat.beq m.1 240 = false) (hi : am_in ω r 100 j = true) : am_run m pc (L, .inl j :: .inr (.inr r) :: S, ω) = am_run m (pc + 1) (L, .inl (am_get ω r.toNat j.toNat) :: S, ω) := am_go hc (by
  show cond (Nat.beq m.1 240 && decide (r = -2)) _ (cond (am_in ω r 100 j) _ _) = _
  rw [h0, hi]
  rfl)
theorem rr_iaload_no (hc : am_code m.1 pc = some (.iaload, 1)) (h0 : Nat.beq m.1 240 = false) (hi : am_in ω r 100 j = false) : am_run m pc (L, .inl j :: .inr (.inr r) :: S, ω) = none := am_stop hc (by
  show cond (Nat.beq m.1 240 && decide (r = -2)) _ (cond (am_in ω r 100 j) _ _) = _
  rw [h0, hi]
  rfl)
theorem rr_laload (hc : am_code m.1 pc = some (.laload, 1)) (hi : am_in ω r 101 j = true) : am_run m pc (L, .inl j :: .inr (.inr r) :: S, ω) = am_run m (pc + 1) (L, .inr (.inl (am_get ω r.toNat j.toNat)) :: S, ω) := am_go hc (by
  show cond (am_in ω r 101 j) _ _ = _
  rw [hi]
  rfl)
theorem rr_laload_no (hc : am_code m.1 pc = some (.laload, 1)) (hi : am_in ω r 101 j = false) : am_run m pc (L, .inl j :: .inr (.inr r) :: S, ω) = none := am_stop hc (by
  show cond (am_in ω r 101 j) _ _ = _
  rw [hi]
  rfl)
def am_ina (ω : am_W) (r j : Int) : Bool := am_in ω r 102 j || (am_in ω r 103 j || am_in ω r 104 j)
theorem rr_aaload (hc : am_code m.1 pc = some (.aaload, 1)) (hi : am_ina ω r j = true) : am_run m pc (L, .inl j :: .inr (.inr r) :: S, ω) = am_run m (pc + 1) (L, .inr (.inr (am_get ω r.toNat j.toNat)) :: S, ω) := am_go hc (by
  show cond (am_ina ω r j) _ _ = _
  rw [hi]
  rfl)
theorem rr_aaload_no (hc : am_code m.1 pc = some (.aaload, 1)) (hi : am_ina ω r j = false) : am_run m pc (L, .inl j :: .inr (.inr r) :: S, ω) = none := am_stop hc (by
  show cond (am_ina ω r j) _ _ = _
  rw [hi]
  rfl)
theorem rr_iastore (hc : am_code m.1 pc = some (.iastore, 1)) (hi : am_in ω r 100 j = true) : am_run m pc (L, .inl z :: .inl j :: .inr (.inr r) :: S, ω) = am_run m (pc + 1) (L, S, am_put ω r.toNat j.toNat z) := am_go hc (by
  show cond (am_in ω r 100 j) _ _ = _
  rw [hi]
  rfl)
theorem rr_iastore_no (hc : am_code m.1 pc = some (.iastore, 1)) (hi : am_in ω r 100 j = false) : am_run m pc (L, .inl z :: .inl j :: .inr (.inr r) :: S, ω) = none := am_stop hc (by
  show cond (am_in ω r 100 j) _ _ = _
  rw [hi]
  rfl)
theorem rr_lastore (hc : am_code m.1 pc = some (.lastore, 1)) (hi : am_in ω r 101 j = true) : am_run m pc (L, .inr (.inl z) :: .inl j :: .inr (.inr r) :: S, ω) = am_run m (pc + 1) (L, S, am_put ω r.toNat j.toNat z) := am_go hc (by
  show cond (am_in ω r 101 j) _ _ = _
  rw [hi]
  rfl)
theorem rr_lastore_no (hc : am_code m.1 pc = some (.lastore, 1)) (hi : am_in ω r 101 j = false) : am_run m pc (L, .inr (.inl z) :: .inl j :: .inr (.inr r) :: S, ω) = none := am_stop hc (by
  show cond (am_in ω r 101 j) _ _ = _
  rw [hi]
  rfl)
def am_sta2 (ω : am_W) (r j z : Int) : Bool := (am_in ω r 102 j && am_is ω z (4, 5)) || (am_in ω r 103 j && am_is ω z (2, 3))
theorem rr_aastore (hc : am_code m.1 pc = some (.aastore, 1)) (hi : am_sta2 ω r j z = true) : am_run m pc (L, .inr (.inr z) :: .inl j :: .inr (.inr r) :: S, ω) = am_run m (pc + 1) (L, S, am_put ω r.toNat j.toNat z) := am_go hc (by
  show cond (am_sta2 ω r j z) _ _ = _
  rw [hi]
  rfl)
theorem rr_aastore_no (hc : am_code m.1 pc = some (.aastore, 1)) (hi : am_sta2 ω r j z = false) : am_run m pc (L, .inr (.inr z) :: .inl j :: .inr (.inr r) :: S, ω) = none := am_stop hc (by
  show cond (am_sta2 ω r j z) _ _ = _
  rw [hi]
  rfl)
def am_arl (ω : am_W) (r : Int) : Bool := am_ar ω r 100 || am_ar ω r 101
theorem rr_arraylength (hc : am_code m.1 pc = some (.arraylength, 1)) (h0 : Nat.beq m.1 240 = false) (hi : am_arl ω r = true) : am_run m pc (L, .inr (.inr r) :: S, ω) = am_run m (pc + 1) (L, .inl (am_len ω r) :: S, ω) := am_go hc (by
  show cond (Nat.beq m.1 240 && decide (r = -2)) _ (cond (am_arl ω r) _ _) = _
  rw [h0, hi]
  rfl)
theorem rr_arraylength_no (hc : am_code m.1 pc = some (.arraylength, 1)) (h0 : Nat.beq m.1 240 = false) (hi : am_arl ω r = false) : am_run m pc (L, .inr (.inr r) :: S, ω) = none := am_stop hc (by
  show cond (Nat.beq m.1 240 && decide (r = -2)) _ (cond (am_arl ω r) _ _) = _
  rw [h0, hi]
  rfl)
theorem rr_getfi {i ci k w : Nat} (hc : am_code m.1 pc = some (.getfield i, 3)) (hp : am_lk (am_pf.get (am_own m.1)) i = some (ci, k, w)) (hk : Nat.beq (am_fk ci k) 2 = false) (hi : am_is ω r (ci, am_nf ci) = true) : am_run m pc (L, .inr (.inr r) :: S, ω) = am_run m (pc + 3) (L, .inl (am_get ω r.toNat k) :: S, ω) := by
  rw [rr_getfield hc hp hi]
  split
  · rename_i h; rw [h] at hk; cases hk
  · rfl
theorem rr_getfr {i ci k w : Nat} (hc : am_code m.1 pc = some (.getfield i, 3)) (hp : am_lk (am_pf.get (am_own m.1)) i = some (ci, k, w)) (hk : Nat.beq (am_fk ci k) 2 = true) (hi : am_is ω r (ci, am_nf ci) = true) : am_run m pc (L, .inr (.inr r) :: S, ω) = am_run m (pc + 3) (L, .inr (.inr (am_get ω r.toNat k)) :: S, ω) := by
  rw [rr_getfield hc hp hi]
  split
  · rfl
  · rename_i h; exact absurd (Nat.eq_of_beq_eq_true hk) h
theorem rr_scrlen (hc : am_code m.1 pc = some (.arraylength, 1)) (h0 : Nat.beq m.1 240 = true) : am_run m pc (L, .inr (.inr (-2)) :: S, ω) = am_run m (pc + 1) (L, .inl (ω.2.2.1 : Int) :: S, ω) := am_go hc (by
  show cond (Nat.beq m.1 240 && decide ((-2 : Int) = -2)) _ _ = _
  rw [h0]
  rfl)
theorem rr_scrload (hc : am_code m.1 pc = some (.iaload, 1)) (h0 : Nat.beq m.1 240 = true) (h : (decide (0 ≤ j) && decide (j < (ω.2.2.1 : Int))) = true) : am_run m pc (L, .inl j :: .inr (.inr (-2)) :: S, ω) = am_run m (pc + 1) (L, .inl (ω.2.2.2 j.toNat) :: S, ω) := am_go hc (by
  show cond (Nat.beq m.1 240 && decide ((-2 : Int) = -2)) (cond (decide (0 ≤ j) && decide (j < (ω.2.2.1 : Int))) _ _) _ = _
  rw [h0, h]
  rfl)
theorem rr_scrload_no (hc : am_code m.1 pc = some (.iaload, 1)) (h0 : Nat.beq m.1 240 = true) (h : (decide (0 ≤ j) && decide (j < (ω.2.2.1 : Int))) = false) : am_run m pc (L, .inl j :: .inr (.inr (-2)) :: S, ω) = none := am_stop hc (by
  show cond (Nat.beq m.1 240 && decide ((-2 : Int) = -2)) (cond (decide (0 ≤ j) && decide (j < (ω.2.2.1 : Int))) _ _) _ = _
  rw [h0, h]
  rfl)
theorem rr_ldc {i w : Nat} (hc : am_code m.1 pc = some (.ldc i, 2)) (hp : am_lk (am_pc.get (am_own m.1)) i = some (z, w)) : am_run m pc (L, S, ω) = am_run m (pc + 2) (L, .inl z :: S, ω) := am_go hc (by
  show (match am_lk (am_pc.get (am_own m.1)) i, am_lk (am_ps.get (am_own m.1)) i with | some (z, _), _ => am_nx (pc + 2) L (.inl z :: S) ω | none, some (k, _) => am_nx (pc + 2) L (.inr (.inr (-3 - (k : Int))) :: S) ω | none, none => none) = _
  rw [hp]
  rfl)
theorem rr_ldcS {i k w : Nat} (hc : am_code m.1 pc = some (.ldc i, 2)) (h0 : am_lk (am_pc.get (am_own m.1)) i = none) (hp : am_lk (am_ps.get (am_own m.1)) i = some (k, w)) : am_run m pc (L, S, ω) = am_run m (pc + 2) (L, .inr (.inr (-3 - (k : Int))) :: S, ω) := am_go hc (by
  show (match am_lk (am_pc.get (am_own m.1)) i, am_lk (am_ps.get (am_own m.1)) i with | some (z, _), _ => am_nx (pc + 2) L (.inl z :: S) ω | none, some (k, _) => am_nx (pc + 2) L (.inr (.inr (-3 - (k : Int))) :: S) ω | none, none => none) = _
  rw [h0, hp]
  rfl)
theorem rr_ldc_w {i w : Nat} (hc : am_code m.1 pc = some (.ldc_w i, 3)) (hp : am_lk (am_pc.get (am_own m.1)) i = some (z, w)) : am_run m pc (L, S, ω) = am_run m (pc + 3) (L, .inl z :: S, ω) := am_go hc (by
  show (match am_lk (am_pc.get (am_own m.1)) i with | some (z, _) => am_nx (pc + 3) L (.inl z :: S) ω | none => none) = _
  rw [hp]
  rfl)
theorem rr_ldc2 {i w : Nat} (hc : am_code m.1 pc = some (.ldc2_w i, 3)) (hp : am_lk (am_pl.get (am_own m.1)) i = some (z, w)) : am_run m pc (L, S, ω) = am_run m (pc + 3) (L, .inr (.inl z) :: S, ω) := am_go hc (by
  show (match am_lk (am_pl.get (am_own m.1)) i with | some (z, _) => am_nx (pc + 3) L (.inr (.inl z) :: S) ω | none => none) = _
  rw [hp]
  rfl)
theorem rr_new {i ci w : Nat} (hc : am_code m.1 pc = some (.new i, 3)) (hp : am_lk (am_pn.get (am_own m.1)) i = some (ci, w)) (h : decide (ci < 8) = true) : am_run m pc (L, S, ω) = am_run m (pc + 3) (L, .inr (.inr (ω.1.length : Int)) :: S, am_new ω (ci, am_nf ci) (am_d0 ci)) := am_go hc (by
  show (match am_lk (am_pn.get (am_own m.1)) i with | some (ci, _) => cond (decide (ci < 8)) (am_nx (pc + 3) L (.inr (.inr (ω.1.length : Int)) :: S) (am_new ω (ci, am_nf ci) (am_d0 ci))) none | none => none) = _
  rw [hp]
  show cond (decide (ci < 8)) _ _ = _
  rw [h]
  rfl)
theorem rr_newarrayI (hc : am_code m.1 pc = some (.newarray .int, 2)) (h : (decide (0 ≤ n) && decide (n ≤ 100000)) = true) : am_run m pc (L, .inl n :: S, ω) = am_run m (pc + 2) (L, .inr (.inr (ω.1.length : Int)) :: S, am_new ω (100, n.toNat) (fun _ => 0)) := am_go hc (by
  show cond (decide (0 ≤ n) && decide (n ≤ 100000)) _ _ = _
  rw [h]
  rfl)
theorem rr_newarrayL (hc : am_code m.1 pc = some (.newarray .long, 2)) (h : (decide (0 ≤ n) && decide (n ≤ 100000)) = true) : am_run m pc (L, .inl n :: S, ω) = am_run m (pc + 2) (L, .inr (.inr (ω.1.length : Int)) :: S, am_new ω (101, n.toNat) (fun _ => 0)) := am_go hc (by
  show cond (decide (0 ≤ n) && decide (n ≤ 100000)) _ _ = _
  rw [h]
  rfl)
theorem rr_anewarrayV {i w : Nat} (hc : am_code m.1 pc = some (.anewarray i, 3)) (hp : am_lk (am_pn.get (am_own m.1)) i = some (4, w)) (h : (decide (0 ≤ n) && decide (n ≤ 100000)) = true) : am_run m pc (L, .inl n :: S, ω) = am_run m (pc + 3) (L, .inr (.inr (ω.1.length : Int)) :: S, am_new ω (102, n.toNat) (fun _ => -1)) := am_go hc (by
  show (match am_lk (am_pn.get (am_own m.1)) i, (.inl n :: S : List am_V) with | some (ci, _), .inl n :: S => cond (decide (0 ≤ n) && decide (n ≤ 100000)) (match ci with | 4 => am_nx (pc + 3) L (.inr (.inr (ω.1.length : Int)) :: S) (am_new ω (102, n.toNat) (fun _ => -1)) | 2 => am_nx (pc + 3) L (.inr (.inr (ω.1.length : Int)) :: S) (am_new ω (103, n.toNat) (fun _ => -1)) | _ => none) none | _, _ => none) = _
  rw [hp]
  show cond (decide (0 ≤ n) && decide (n ≤ 100000)) _ _ = _
  rw [h]
  rfl)
theorem rr_anewarrayS {i w : Nat} (hc : am_code m.1 pc = some (.anewarray i, 3)) (hp : am_lk (am_pn.get (am_own m.1)) i = some (2, w)) (h : (decide (0 ≤ n) && decide (n ≤ 100000)) = true) : am_run m pc (L, .inl n :: S, ω) = am_run m (pc + 3) (L, .inr (.inr (ω.1.length : Int)) :: S, am_new ω (103, n.toNat) (fun _ => -1)) := am_go hc (by
  show (match am_lk (am_pn.get (am_own m.1)) i, (.inl n :: S : List am_V) with | some (ci, _), .inl n :: S => cond (decide (0 ≤ n) && decide (n ≤ 100000)) (match ci with | 4 => am_nx (pc + 3) L (.inr (.inr (ω.1.length : Int)) :: S) (am_new ω (102, n.toNat) (fun _ => -1)) | 2 => am_nx (pc + 3) L (.inr (.inr (ω.1.length : Int)) :: S) (am_new ω (103, n.toNat) (fun _ => -1)) | _ => none) none | _, _ => none) = _
  rw [hp]
  show cond (decide (0 ≤ n) && decide (n ≤ 100000)) _ _ = _
  rw [h]
  rfl)
theorem rr_multianewarray {i w : Nat} {k : Int} (hc : am_code m.1 pc = some (.multianewarray i 2, 4)) (hp : am_lk (am_pn.get (am_own m.1)) i = some (104, w)) (h : (decide (0 ≤ n) && (decide (n ≤ 1000) && (decide (0 ≤ k) && decide (k ≤ 100000)))) = true) : am_run m pc (L, .inl k :: .inl n :: S, ω) = am_run m (pc + 4) (L, .inr (.inr (ω.1.length : Int)) :: S, am_newg ω n.toNat k.toNat) := am_go hc (by
  show (match am_lk (am_pn.get (am_own m.1)) i, (.inl k :: .inl n :: S : List am_V) with | some (104, _), .inl k :: .inl n :: S => cond (Nat.beq 2 2 && (decide (0 ≤ n) && (decide (n ≤ 1000) && (decide (0 ≤ k) && decide (k ≤ 100000))))) (am_nx (pc + 4) L (.inr (.inr (ω.1.length : Int)) :: S) (am_newg ω n.toNat k.toNat)) none | _, _ => none) = _
  rw [hp]
  show cond (Nat.beq 2 2 && (decide (0 ≤ n) && (decide (n ≤ 1000) && (decide (0 ≤ k) && decide (k ≤ 100000))))) _ _ = _
  rw [h]
  rfl)
theorem rr_ireturn (hc : am_code m.1 pc = some (.ireturn, 1)) (h : am_nar (am_rt m.1) z = true) : am_run m pc (L, [.inl z], ω) = some (some (.inl z), ω) := am_ret hc (by
  show cond (am_nar (am_rt m.1) z) _ _ = _
  rw [h]
  rfl)
theorem rr_ireturn_no (hc : am_code m.1 pc = some (.ireturn, 1)) (h : am_nar (am_rt m.1) z = false) : am_run m pc (L, [.inl z], ω) = none := am_stop hc (by
  show cond (am_nar (am_rt m.1) z) _ _ = _
  rw [h]
  rfl)
theorem rr_lreturn (hc : am_code m.1 pc = some (.lreturn, 1)) (h : Nat.beq (am_rt m.1) 2 = true) : am_run m pc (L, [.inr (.inl z)], ω) = some (some (.inr (.inl z)), ω) := am_ret hc (by
  show cond (Nat.beq (am_rt m.1) 2) _ _ = _
  rw [h]
  rfl)
theorem rr_areturn (hc : am_code m.1 pc = some (.areturn, 1)) (h : Nat.beq (am_rt m.1) 3 = true) (hi : am_is ω z (1, 15) = true) : am_run m pc (L, [.inr (.inr z)], ω) = some (some (.inr (.inr z)), ω) := am_ret hc (by
  show cond (Nat.beq (am_rt m.1) 3 && am_is ω z (1, 15)) _ _ = _
  rw [h, hi]
  rfl)
theorem rr_areturn_no (hc : am_code m.1 pc = some (.areturn, 1)) (hi : am_is ω z (1, 15) = false) : am_run m pc (L, [.inr (.inr z)], ω) = none := am_stop hc (by
  show cond (Nat.beq (am_rt m.1) 3 && am_is ω z (1, 15)) _ _ = _
  rw [hi, Bool.and_false]
  rfl)
theorem rr_return (hc : am_code m.1 pc = some (.return_, 1)) (h : Nat.beq (am_rt m.1) 0 = true) : am_run m pc (L, [], ω) = some (none, ω) := am_ret hc (by
  show cond (Nat.beq (am_rt m.1) 0) _ _ = _
  rw [h]
  rfl)
theorem rr_objInit {i b na rk : Nat} {w : Nat × Nat × Nat × Nat} (hc : am_code m.1 pc = some (.invokespecial i, 3)) (hp : am_lk (am_pm.get (am_own m.1)) i = some (6, b, na, rk, w)) (h : Nat.ble 1 (am_rk m) = true) (hr : decide (0 ≤ r) = true) (hw : decide (am_words S ≤ 8) = true) : am_run m pc (L, .inr (.inr r) :: S, ω) = am_run m (pc + 3) (L, S, ω) := am_go hc (by
  show am_inv 2 m i (pc + 3) L (.inr (.inr r) :: S) ω = _
  unfold am_inv
  rw [hp]
  show cond (Nat.ble 1 (am_rk m) && (decide (0 ≤ r) && decide (am_words S ≤ 8))) _ _ = _
  rw [h, hr, hw]
  rfl)
def am_cpok (ω : am_W) (r0 sp r1 dp n : Int) : Bool := ((am_ar ω r0 100 && am_ar ω r1 100) || (am_ar ω r0 101 && am_ar ω r1 101)) && (decide (0 ≤ sp) && (decide (0 ≤ dp) && (decide (0 ≤ n) && (decide (sp + n ≤ am_len ω r0) && decide (dp + n ≤ am_len ω r1)))))
theorem rr_acpy {i b na rk : Nat} {w : Nat × Nat × Nat × Nat} {dp sp r0 r1 : Int} (hc : am_code m.1 pc = some (.invokestatic i, 3)) (hp : am_lk (am_pm.get (am_own m.1)) i = some (7, b, na, rk, w)) (h : Nat.ble 1 (am_rk m) = true) (hw : decide (am_words S ≤ 8) = true) (hk : am_cpok ω r0 sp r1 dp n = true) : am_run m pc (L, .inl n :: .inl dp :: .inr (.inr r1) :: .inl sp :: .inr (.inr r0) :: S, ω) = am_run m (pc + 3) (L, S, am_cpy ω r0.toNat sp.toNat r1.toNat dp.toNat n.toNat) := am_go hc (by
  show am_inv 1 m i (pc + 3) L _ ω = _
  unfold am_inv
  rw [hp]
  show cond (Nat.ble 1 (am_rk m) && (decide (am_words S ≤ 8) && am_cpok ω r0 sp r1 dp n)) _ _ = _
  rw [h, hw, hk]
  rfl)
theorem rr_acpy_no {i b na rk : Nat} {w : Nat × Nat × Nat × Nat} {dp sp r0 r1 : Int} (hc : am_code m.1 pc = some (.invokestatic i, 3)) (hp : am_lk (am_pm.get (am_own m.1)) i = some (7, b, na, rk, w)) (h : Nat.ble 1 (am_rk m) = true) (hw : decide (am_words S ≤ 8) = true) (hk : am_cpok ω r0 sp r1 dp n = false) : am_run m pc (L, .inl n :: .inl dp :: .inr (.inr r1) :: .inl sp :: .inr (.inr r0) :: S, ω) = none := am_stop hc (by
  show am_inv 1 m i (pc + 3) L _ ω = _
  unfold am_inv
  rw [hp]
  show cond (Nat.ble 1 (am_rk m) && (decide (am_words S ≤ 8) && am_cpok ω r0 sp r1 dp n)) _ _ = _
  rw [h, hw, hk]
  rfl)
def am_txok (r : Int) : Bool := decide (r ≤ -3) && decide (-9 < r)
theorem rr_slen {i b na rk : Nat} {w : Nat × Nat × Nat × Nat} (hc : am_code m.1 pc = some (.invokevirtual i, 3)) (hp : am_lk (am_pm.get (am_own m.1)) i = some (8, b, na, rk, w)) (h : Nat.ble 4 (am_rk m) = true) (hw : decide (am_words S ≤ 8) = true) (hk : am_txok r = true) : am_run m pc (L, .inr (.inr r) :: S, ω) = am_run m (pc + 3) (L, .inl (((am_texts.getD (-3 - r).toNat []).length : Nat) : Int) :: S, ω) := am_go hc (by
  show am_inv 0 m i (pc + 3) L _ ω = _
  unfold am_inv
  rw [hp]
  show cond (Nat.ble 4 (am_rk m) && (decide (am_words S ≤ 8) && am_txok r)) _ _ = _
  rw [h, hw, hk]
  rfl)
theorem rr_slen_no {i b na rk : Nat} {w : Nat × Nat × Nat × Nat} (hc : am_code m.1 pc = some (.invokevirtual i, 3)) (hp : am_lk (am_pm.get (am_own m.1)) i = some (8, b, na, rk, w)) (h : Nat.ble 4 (am_rk m) = true) (hw : decide (am_words S ≤ 8) = true) (hk : am_txok r = false) : am_run m pc (L, .inr (.inr r) :: S, ω) = none := am_stop hc (by
  show am_inv 0 m i (pc + 3) L _ ω = _
  unfold am_inv
  rw [hp]
  show cond (Nat.ble 4 (am_rk m) && (decide (am_words S ≤ 8) && am_txok r)) _ _ = _
  rw [h, hw, hk]
  rfl)
def am_chok (r j : Int) : Bool := decide (r ≤ -3) && (decide (-9 < r) && (decide (0 ≤ j) && decide (j < (((am_texts.getD (-3 - r).toNat []).length : Nat) : Int))))
theorem rr_schr {i b na rk : Nat} {w : Nat × Nat × Nat × Nat} (hc : am_code m.1 pc = some (.invokevirtual i, 3)) (hp : am_lk (am_pm.get (am_own m.1)) i = some (9, b, na, rk, w)) (h : Nat.ble 4 (am_rk m) = true) (hw : decide (am_words S ≤ 8) = true) (hk : am_chok r j = true) : am_run m pc (L, .inl j :: .inr (.inr r) :: S, ω) = am_run m (pc + 3) (L, .inl ((am_texts.getD (-3 - r).toNat []).getD j.toNat 0) :: S, ω) := am_go hc (by
  show am_inv 0 m i (pc + 3) L _ ω = _
  unfold am_inv
  rw [hp]
  show cond (Nat.ble 4 (am_rk m) && (decide (am_words S ≤ 8) && am_chok r j)) _ _ = _
  rw [h, hw, hk]
  rfl)
theorem rr_schr_no {i b na rk : Nat} {w : Nat × Nat × Nat × Nat} (hc : am_code m.1 pc = some (.invokevirtual i, 3)) (hp : am_lk (am_pm.get (am_own m.1)) i = some (9, b, na, rk, w)) (h : Nat.ble 4 (am_rk m) = true) (hw : decide (am_words S ≤ 8) = true) (hk : am_chok r j = false) : am_run m pc (L, .inl j :: .inr (.inr r) :: S, ω) = none := am_stop hc (by
  show am_inv 0 m i (pc + 3) L _ ω = _
  unfold am_inv
  rw [hp]
  show cond (Nat.ble 4 (am_rk m) && (decide (am_words S ≤ 8) && am_chok r j)) _ _ = _
  rw [h, hw, hk]
  rfl)
theorem rr_invV0 {i b na rk : Nat} {w : Nat × Nat × Nat × Nat} {as : List am_V} {m' : am_M} (hc : am_code m.1 pc = some (.invokevirtual i, 3)) (hp : am_lk (am_pm.get (am_own m.1)) i = some (0, b, na, rk, w)) (ha : am_args na S = some (.inr (.inr r) :: as, S')) (hl : am_lv m b = some m') (hk : (Nat.ble (am_rk m' + 1) (am_rk m) && Nat.ble (am_spread (.inr (.inr r) :: as)).length (am_max b)) = true) (he : am_ent m'.1 (.inr (.inr r) :: as) = L') (hi : am_is ω r (am_own b, am_nf (am_own b)) = true) : am_run m pc (L, S, ω) = (am_run m' 0 (L', [], ω)).bind (fun q => (am_push rk q.1 S').bind (fun S1 => am_run m (pc + 3) (L, S1, q.2))) := by
  subst he
  refine am_goc hc ?_
  show am_inv 0 m i (pc + 3) L S ω = _
  unfold am_inv
  rw [hp]
  show am_call m b na rk (pc + 3) true L S ω = _
  unfold am_call
  rw [ha, hl]
  show cond ((!true || am_is ω r (am_own b, am_nf (am_own b))) && (Nat.ble (am_rk m' + 1) (am_rk m) && Nat.ble (am_spread (.inr (.inr r) :: as)).length (am_max b))) _ _ = _
  rw [hk, hi]
  rfl
theorem rr_invV0_no {i b na rk : Nat} {w : Nat × Nat × Nat × Nat} {as : List am_V} {m' : am_M} (hc : am_code m.1 pc = some (.invokevirtual i, 3)) (hp : am_lk (am_pm.get (am_own m.1)) i = some (0, b, na, rk, w)) (ha : am_args na S = some (.inr (.inr r) :: as, S')) (hl : am_lv m b = some m') (hk : (Nat.ble (am_rk m' + 1) (am_rk m) && Nat.ble (am_spread (.inr (.inr r) :: as)).length (am_max b)) = true) (he : am_ent m'.1 (.inr (.inr r) :: as) = L') (hi : am_is ω r (am_own b, am_nf (am_own b)) = false) : am_run m pc (L, S, ω) = none := by
  subst he
  refine am_stop hc ?_
  show am_inv 0 m i (pc + 3) L S ω = _
  unfold am_inv
  rw [hp]
  show am_call m b na rk (pc + 3) true L S ω = _
  unfold am_call
  rw [ha, hl]
  show cond ((!true || am_is ω r (am_own b, am_nf (am_own b))) && (Nat.ble (am_rk m' + 1) (am_rk m) && Nat.ble (am_spread (.inr (.inr r) :: as)).length (am_max b))) _ _ = _
  rw [hk, hi]
  rfl
theorem rr_invV0i {i b na : Nat} {w : Nat × Nat × Nat × Nat} {as : List am_V} {m' : am_M} (hc : am_code m.1 pc = some (.invokevirtual i, 3)) (hp : am_lk (am_pm.get (am_own m.1)) i = some (0, b, na, 1, w)) (ha : am_args na S = some (.inr (.inr r) :: as, S')) (hl : am_lv m b = some m') (hk : (Nat.ble (am_rk m' + 1) (am_rk m) && Nat.ble (am_spread (.inr (.inr r) :: as)).length (am_max b)) = true) (he : am_ent m'.1 (.inr (.inr r) :: as) = L') (hi : am_is ω r (am_own b, am_nf (am_own b)) = true) : am_run m pc (L, S, ω) = am_bi (am_run m' 0 (L', [], ω)) (fun z ω1 => am_run m (pc + 3) (L, .inl z :: S', ω1)) := Eq.trans (rr_invV0 hc hp ha hl hk he hi) (bi_eq (k := fun S1 ω1 => am_run m (pc + 3) (L, S1, ω1)))
theorem rr_invV0l {i b na : Nat} {w : Nat × Nat × Nat × Nat} {as : List am_V} {m' : am_M} (hc : am_code m.1 pc = some (.invokevirtual i, 3)) (hp : am_lk (am_pm.get (am_own m.1)) i = some (0, b, na, 2, w)) (ha : am_args na S = some (.inr (.inr r) :: as, S')) (hl : am_lv m b = some m') (hk : (Nat.ble (am_rk m' + 1) (am_rk m) && Nat.ble (am_spread (.inr (.inr r) :: as)).length (am_max b)) = true) (he : am_ent m'.1 (.inr (.inr r) :: as) = L') (hi : am_is ω r (am_own b, am_nf (am_own b)) = true) : am_run m pc (L, S, ω) = am_bl (am_run m' 0 (L', [], ω)) (fun z ω1 => am_run m (pc + 3) (L, .inr (.inl z) :: S', ω1)) := Eq.trans (rr_invV0 hc hp ha hl hk he hi) (bl_eq (k := fun S1 ω1 => am_run m (pc + 3) (L, S1, ω1)))
theorem rr_invV0a {i b na : Nat} {w : Nat × Nat × Nat × Nat} {as : List am_V} {m' : am_M} (hc : am_code m.1 pc = some (.invokevirtual i, 3)) (hp : am_lk (am_pm.get (am_own m.1)) i = some (0, b, na, 3, w)) (ha : am_args na S = some (.inr (.inr r) :: as, S')) (hl : am_lv m b = some m') (hk : (Nat.ble (am_rk m' + 1) (am_rk m) && Nat.ble (am_spread (.inr (.inr r) :: as)).length (am_max b)) = true) (he : am_ent m'.1 (.inr (.inr r) :: as) = L') (hi : am_is ω r (am_own b, am_nf (am_own b)) = true) : am_run m pc (L, S, ω) = am_ba (am_run m' 0 (L', [], ω)) (fun z ω1 => am_run m (pc + 3) (L, .inr (.inr z) :: S', ω1)) := Eq.trans (rr_invV0 hc hp ha hl hk he hi) (ba_eq (k := fun S1 ω1 => am_run m (pc + 3) (L, S1, ω1)))
theorem rr_invV0v {i b na : Nat} {w : Nat × Nat × Nat × Nat} {as : List am_V} {m' : am_M} (hc : am_code m.1 pc = some (.invokevirtual i, 3)) (hp : am_lk (am_pm.get (am_own m.1)) i = some (0, b, na, 0, w)) (ha : am_args na S = some (.inr (.inr r) :: as, S')) (hl : am_lv m b = some m') (hk : (Nat.ble (am_rk m' + 1) (am_rk m) && Nat.ble (am_spread (.inr (.inr r) :: as)).length (am_max b)) = true) (he : am_ent m'.1 (.inr (.inr r) :: as) = L') (hi : am_is ω r (am_own b, am_nf (am_own b)) = true) : am_run m pc (L, S, ω) = am_bv (am_run m' 0 (L', [], ω)) (fun ω1 => am_run m (pc + 3) (L, S', ω1)) := Eq.trans (rr_invV0 hc hp ha hl hk he hi) (bv_eq (k := fun S1 ω1 => am_run m (pc + 3) (L, S1, ω1)))
theorem rr_invS2 {i b na rk : Nat} {w : Nat × Nat × Nat × Nat} {as : List am_V} {m' : am_M} (hc : am_code m.1 pc = some (.invokestatic i, 3)) (hp : am_lk (am_pm.get (am_own m.1)) i = some (2, b, na, rk, w)) (ha : am_args na S = some (as, S')) (hl : am_lv m b = some m') (hk : (Nat.ble (am_rk m' + 1) (am_rk m) && Nat.ble (am_spread (as)).length (am_max b)) = true) (he : am_ent m'.1 (as) = L') : am_run m pc (L, S, ω) = (am_run m' 0 (L', [], ω)).bind (fun q => (am_push rk q.1 S').bind (fun S1 => am_run m (pc + 3) (L, S1, q.2))) := by
  subst he
  refine am_goc hc ?_
  show am_inv 1 m i (pc + 3) L S ω = _
  unfold am_inv
  rw [hp]
  show am_call m b na rk (pc + 3) false L S ω = _
  unfold am_call
  rw [ha, hl]
  show cond ((!false || _) && (Nat.ble (am_rk m' + 1) (am_rk m) && Nat.ble (am_spread (as)).length (am_max b))) _ _ = _
  rw [hk]
  rfl
theorem rr_invS2i {i b na : Nat} {w : Nat × Nat × Nat × Nat} {as : List am_V} {m' : am_M} (hc : am_code m.1 pc = some (.invokestatic i, 3)) (hp : am_lk (am_pm.get (am_own m.1)) i = some (2, b, na, 1, w)) (ha : am_args na S = some (as, S')) (hl : am_lv m b = some m') (hk : (Nat.ble (am_rk m' + 1) (am_rk m) && Nat.ble (am_spread (as)).length (am_max b)) = true) (he : am_ent m'.1 (as) = L') : am_run m pc (L, S, ω) = am_bi (am_run m' 0 (L', [], ω)) (fun z ω1 => am_run m (pc + 3) (L, .inl z :: S', ω1)) := Eq.trans (rr_invS2 hc hp ha hl hk he) (bi_eq (k := fun S1 ω1 => am_run m (pc + 3) (L, S1, ω1)))
theorem rr_invS2l {i b na : Nat} {w : Nat × Nat × Nat × Nat} {as : List am_V} {m' : am_M} (hc : am_code m.1 pc = some (.invokestatic i, 3)) (hp : am_lk (am_pm.get (am_own m.1)) i = some (2, b, na, 2, w)) (ha : am_args na S = some (as, S')) (hl : am_lv m b = some m') (hk : (Nat.ble (am_rk m' + 1) (am_rk m) && Nat.ble (am_spread (as)).length (am_max b)) = true) (he : am_ent m'.1 (as) = L') : am_run m pc (L, S, ω) = am_bl (am_run m' 0 (L', [], ω)) (fun z ω1 => am_run m (pc + 3) (L, .inr (.inl z) :: S', ω1)) := Eq.trans (rr_invS2 hc hp ha hl hk he) (bl_eq (k := fun S1 ω1 => am_run m (pc + 3) (L, S1, ω1)))
theorem rr_invS2a {i b na : Nat} {w : Nat × Nat × Nat × Nat} {as : List am_V} {m' : am_M} (hc : am_code m.1 pc = some (.invokestatic i, 3)) (hp : am_lk (am_pm.get (am_own m.1)) i = some (2, b, na, 3, w)) (ha : am_args na S = some (as, S')) (hl : am_lv m b = some m') (hk : (Nat.ble (am_rk m' + 1) (am_rk m) && Nat.ble (am_spread (as)).length (am_max b)) = true) (he : am_ent m'.1 (as) = L') : am_run m pc (L, S, ω) = am_ba (am_run m' 0 (L', [], ω)) (fun z ω1 => am_run m (pc + 3) (L, .inr (.inr z) :: S', ω1)) := Eq.trans (rr_invS2 hc hp ha hl hk he) (ba_eq (k := fun S1 ω1 => am_run m (pc + 3) (L, S1, ω1)))
theorem rr_invS2v {i b na : Nat} {w : Nat × Nat × Nat × Nat} {as : List am_V} {m' : am_M} (hc : am_code m.1 pc = some (.invokestatic i, 3)) (hp : am_lk (am_pm.get (am_own m.1)) i = some (2, b, na, 0, w)) (ha : am_args na S = some (as, S')) (hl : am_lv m b = some m') (hk : (Nat.ble (am_rk m' + 1) (am_rk m) && Nat.ble (am_spread (as)).length (am_max b)) = true) (he : am_ent m'.1 (as) = L') : am_run m pc (L, S, ω) = am_bv (am_run m' 0 (L', [], ω)) (fun ω1 => am_run m (pc + 3) (L, S', ω1)) := Eq.trans (rr_invS2 hc hp ha hl hk he) (bv_eq (k := fun S1 ω1 => am_run m (pc + 3) (L, S1, ω1)))
theorem rr_invS3 {i b na rk : Nat} {w : Nat × Nat × Nat × Nat} {as : List am_V} {m' : am_M} (hc : am_code m.1 pc = some (.invokestatic i, 3)) (hp : am_lk (am_pm.get (am_own m.1)) i = some (3, b, na, rk, w)) (ha : am_args na S = some (as, S')) (hl : am_lv m b = some m') (hk : (Nat.ble (am_rk m' + 1) (am_rk m) && Nat.ble (am_spread (as)).length (am_max b)) = true) (he : am_ent m'.1 (as) = L') : am_run m pc (L, S, ω) = (am_run m' 0 (L', [], ω)).bind (fun q => (am_push rk q.1 S').bind (fun S1 => am_run m (pc + 3) (L, S1, q.2))) := by
  subst he
  refine am_goc hc ?_
  show am_inv 1 m i (pc + 3) L S ω = _
  unfold am_inv
  rw [hp]
  show am_call m b na rk (pc + 3) false L S ω = _
  unfold am_call
  rw [ha, hl]
  show cond ((!false || _) && (Nat.ble (am_rk m' + 1) (am_rk m) && Nat.ble (am_spread (as)).length (am_max b))) _ _ = _
  rw [hk]
  rfl
theorem rr_invS3i {i b na : Nat} {w : Nat × Nat × Nat × Nat} {as : List am_V} {m' : am_M} (hc : am_code m.1 pc = some (.invokestatic i, 3)) (hp : am_lk (am_pm.get (am_own m.1)) i = some (3, b, na, 1, w)) (ha : am_args na S = some (as, S')) (hl : am_lv m b = some m') (hk : (Nat.ble (am_rk m' + 1) (am_rk m) && Nat.ble (am_spread (as)).length (am_max b)) = true) (he : am_ent m'.1 (as) = L') : am_run m pc (L, S, ω) = am_bi (am_run m' 0 (L', [], ω)) (fun z ω1 => am_run m (pc + 3) (L, .inl z :: S', ω1)) := Eq.trans (rr_invS3 hc hp ha hl hk he) (bi_eq (k := fun S1 ω1 => am_run m (pc + 3) (L, S1, ω1)))
theorem rr_invS3l {i b na : Nat} {w : Nat × Nat × Nat × Nat} {as : List am_V} {m' : am_M} (hc : am_code m.1 pc = some (.invokestatic i, 3)) (hp : am_lk (am_pm.get (am_own m.1)) i = some (3, b, na, 2, w)) (ha : am_args na S = some (as, S')) (hl : am_lv m b = some m') (hk : (Nat.ble (am_rk m' + 1) (am_rk m) && Nat.ble (am_spread (as)).length (am_max b)) = true) (he : am_ent m'.1 (as) = L') : am_run m pc (L, S, ω) = am_bl (am_run m' 0 (L', [], ω)) (fun z ω1 => am_run m (pc + 3) (L, .inr (.inl z) :: S', ω1)) := Eq.trans (rr_invS3 hc hp ha hl hk he) (bl_eq (k := fun S1 ω1 => am_run m (pc + 3) (L, S1, ω1)))
theorem rr_invS3a {i b na : Nat} {w : Nat × Nat × Nat × Nat} {as : List am_V} {m' : am_M} (hc : am_code m.1 pc = some (.invokestatic i, 3)) (hp : am_lk (am_pm.get (am_own m.1)) i = some (3, b, na, 3, w)) (ha : am_args na S = some (as, S')) (hl : am_lv m b = some m') (hk : (Nat.ble (am_rk m' + 1) (am_rk m) && Nat.ble (am_spread (as)).length (am_max b)) = true) (he : am_ent m'.1 (as) = L') : am_run m pc (L, S, ω) = am_ba (am_run m' 0 (L', [], ω)) (fun z ω1 => am_run m (pc + 3) (L, .inr (.inr z) :: S', ω1)) := Eq.trans (rr_invS3 hc hp ha hl hk he) (ba_eq (k := fun S1 ω1 => am_run m (pc + 3) (L, S1, ω1)))
theorem rr_invS3v {i b na : Nat} {w : Nat × Nat × Nat × Nat} {as : List am_V} {m' : am_M} (hc : am_code m.1 pc = some (.invokestatic i, 3)) (hp : am_lk (am_pm.get (am_own m.1)) i = some (3, b, na, 0, w)) (ha : am_args na S = some (as, S')) (hl : am_lv m b = some m') (hk : (Nat.ble (am_rk m' + 1) (am_rk m) && Nat.ble (am_spread (as)).length (am_max b)) = true) (he : am_ent m'.1 (as) = L') : am_run m pc (L, S, ω) = am_bv (am_run m' 0 (L', [], ω)) (fun ω1 => am_run m (pc + 3) (L, S', ω1)) := Eq.trans (rr_invS3 hc hp ha hl hk he) (bv_eq (k := fun S1 ω1 => am_run m (pc + 3) (L, S1, ω1)))
theorem rr_invI4 {i b na rk : Nat} {w : Nat × Nat × Nat × Nat} {as : List am_V} {m' : am_M} (hc : am_code m.1 pc = some (.invokespecial i, 3)) (hp : am_lk (am_pm.get (am_own m.1)) i = some (4, b, na, rk, w)) (ha : am_args na S = some (.inr (.inr r) :: as, S')) (hl : am_lv m b = some m') (hk : (Nat.ble (am_rk m' + 1) (am_rk m) && Nat.ble (am_spread (.inr (.inr r) :: as)).length (am_max b)) = true) (he : am_ent m'.1 (.inr (.inr r) :: as) = L') (hi : am_is ω r (am_own b, am_nf (am_own b)) = true) : am_run m pc (L, S, ω) = (am_run m' 0 (L', [], ω)).bind (fun q => (am_push rk q.1 S').bind (fun S1 => am_run m (pc + 3) (L, S1, q.2))) := by
  subst he
  refine am_goc hc ?_
  show am_inv 2 m i (pc + 3) L S ω = _
  unfold am_inv
  rw [hp]
  show am_call m b na rk (pc + 3) true L S ω = _
  unfold am_call
  rw [ha, hl]
  show cond ((!true || am_is ω r (am_own b, am_nf (am_own b))) && (Nat.ble (am_rk m' + 1) (am_rk m) && Nat.ble (am_spread (.inr (.inr r) :: as)).length (am_max b))) _ _ = _
  rw [hk, hi]
  rfl
theorem rr_invI4_no {i b na rk : Nat} {w : Nat × Nat × Nat × Nat} {as : List am_V} {m' : am_M} (hc : am_code m.1 pc = some (.invokespecial i, 3)) (hp : am_lk (am_pm.get (am_own m.1)) i = some (4, b, na, rk, w)) (ha : am_args na S = some (.inr (.inr r) :: as, S')) (hl : am_lv m b = some m') (hk : (Nat.ble (am_rk m' + 1) (am_rk m) && Nat.ble (am_spread (.inr (.inr r) :: as)).length (am_max b)) = true) (he : am_ent m'.1 (.inr (.inr r) :: as) = L') (hi : am_is ω r (am_own b, am_nf (am_own b)) = false) : am_run m pc (L, S, ω) = none := by
  subst he
  refine am_stop hc ?_
  show am_inv 2 m i (pc + 3) L S ω = _
  unfold am_inv
  rw [hp]
  show am_call m b na rk (pc + 3) true L S ω = _
  unfold am_call
  rw [ha, hl]
  show cond ((!true || am_is ω r (am_own b, am_nf (am_own b))) && (Nat.ble (am_rk m' + 1) (am_rk m) && Nat.ble (am_spread (.inr (.inr r) :: as)).length (am_max b))) _ _ = _
  rw [hk, hi]
  rfl
theorem rr_invI4i {i b na : Nat} {w : Nat × Nat × Nat × Nat} {as : List am_V} {m' : am_M} (hc : am_code m.1 pc = some (.invokespecial i, 3)) (hp : am_lk (am_pm.get (am_own m.1)) i = some (4, b, na, 1, w)) (ha : am_args na S = some (.inr (.inr r) :: as, S')) (hl : am_lv m b = some m') (hk : (Nat.ble (am_rk m' + 1) (am_rk m) && Nat.ble (am_spread (.inr (.inr r) :: as)).length (am_max b)) = true) (he : am_ent m'.1 (.inr (.inr r) :: as) = L') (hi : am_is ω r (am_own b, am_nf (am_own b)) = true) : am_run m pc (L, S, ω) = am_bi (am_run m' 0 (L', [], ω)) (fun z ω1 => am_run m (pc + 3) (L, .inl z :: S', ω1)) := Eq.trans (rr_invI4 hc hp ha hl hk he hi) (bi_eq (k := fun S1 ω1 => am_run m (pc + 3) (L, S1, ω1)))
theorem rr_invI4l {i b na : Nat} {w : Nat × Nat × Nat × Nat} {as : List am_V} {m' : am_M} (hc : am_code m.1 pc = some (.invokespecial i, 3)) (hp : am_lk (am_pm.get (am_own m.1)) i = some (4, b, na, 2, w)) (ha : am_args na S = some (.inr (.inr r) :: as, S')) (hl : am_lv m b = some m') (hk : (Nat.ble (am_rk m' + 1) (am_rk m) && Nat.ble (am_spread (.inr (.inr r) :: as)).length (am_max b)) = true) (he : am_ent m'.1 (.inr (.inr r) :: as) = L') (hi : am_is ω r (am_own b, am_nf (am_own b)) = true) : am_run m pc (L, S, ω) = am_bl (am_run m' 0 (L', [], ω)) (fun z ω1 => am_run m (pc + 3) (L, .inr (.inl z) :: S', ω1)) := Eq.trans (rr_invI4 hc hp ha hl hk he hi) (bl_eq (k := fun S1 ω1 => am_run m (pc + 3) (L, S1, ω1)))
theorem rr_invI4a {i b na : Nat} {w : Nat × Nat × Nat × Nat} {as : List am_V} {m' : am_M} (hc : am_code m.1 pc = some (.invokespecial i, 3)) (hp : am_lk (am_pm.get (am_own m.1)) i = some (4, b, na, 3, w)) (ha : am_args na S = some (.inr (.inr r) :: as, S')) (hl : am_lv m b = some m') (hk : (Nat.ble (am_rk m' + 1) (am_rk m) && Nat.ble (am_spread (.inr (.inr r) :: as)).length (am_max b)) = true) (he : am_ent m'.1 (.inr (.inr r) :: as) = L') (hi : am_is ω r (am_own b, am_nf (am_own b)) = true) : am_run m pc (L, S, ω) = am_ba (am_run m' 0 (L', [], ω)) (fun z ω1 => am_run m (pc + 3) (L, .inr (.inr z) :: S', ω1)) := Eq.trans (rr_invI4 hc hp ha hl hk he hi) (ba_eq (k := fun S1 ω1 => am_run m (pc + 3) (L, S1, ω1)))
theorem rr_invI4v {i b na : Nat} {w : Nat × Nat × Nat × Nat} {as : List am_V} {m' : am_M} (hc : am_code m.1 pc = some (.invokespecial i, 3)) (hp : am_lk (am_pm.get (am_own m.1)) i = some (4, b, na, 0, w)) (ha : am_args na S = some (.inr (.inr r) :: as, S')) (hl : am_lv m b = some m') (hk : (Nat.ble (am_rk m' + 1) (am_rk m) && Nat.ble (am_spread (.inr (.inr r) :: as)).length (am_max b)) = true) (he : am_ent m'.1 (.inr (.inr r) :: as) = L') (hi : am_is ω r (am_own b, am_nf (am_own b)) = true) : am_run m pc (L, S, ω) = am_bv (am_run m' 0 (L', [], ω)) (fun ω1 => am_run m (pc + 3) (L, S', ω1)) := Eq.trans (rr_invI4 hc hp ha hl hk he hi) (bv_eq (k := fun S1 ω1 => am_run m (pc + 3) (L, S1, ω1)))
theorem rr_invI5 {i b na rk : Nat} {w : Nat × Nat × Nat × Nat} {as : List am_V} {m' : am_M} (hc : am_code m.1 pc = some (.invokespecial i, 3)) (hp : am_lk (am_pm.get (am_own m.1)) i = some (5, b, na, rk, w)) (ha : am_args na S = some (.inr (.inr r) :: as, S')) (hl : am_lv m b = some m') (hk : (Nat.ble (am_rk m' + 1) (am_rk m) && Nat.ble (am_spread (.inr (.inr r) :: as)).length (am_max b)) = true) (he : am_ent m'.1 (.inr (.inr r) :: as) = L') (hi : am_is ω r (am_own b, am_nf (am_own b)) = true) : am_run m pc (L, S, ω) = (am_run m' 0 (L', [], ω)).bind (fun q => (am_push rk q.1 S').bind (fun S1 => am_run m (pc + 3) (L, S1, q.2))) := by
  subst he
  refine am_goc hc ?_
  show am_inv 2 m i (pc + 3) L S ω = _
  unfold am_inv
  rw [hp]
  show am_call m b na rk (pc + 3) true L S ω = _
  unfold am_call
  rw [ha, hl]
  show cond ((!true || am_is ω r (am_own b, am_nf (am_own b))) && (Nat.ble (am_rk m' + 1) (am_rk m) && Nat.ble (am_spread (.inr (.inr r) :: as)).length (am_max b))) _ _ = _
  rw [hk, hi]
  rfl
theorem rr_invI5_no {i b na rk : Nat} {w : Nat × Nat × Nat × Nat} {as : List am_V} {m' : am_M} (hc : am_code m.1 pc = some (.invokespecial i, 3)) (hp : am_lk (am_pm.get (am_own m.1)) i = some (5, b, na, rk, w)) (ha : am_args na S = some (.inr (.inr r) :: as, S')) (hl : am_lv m b = some m') (hk : (Nat.ble (am_rk m' + 1) (am_rk m) && Nat.ble (am_spread (.inr (.inr r) :: as)).length (am_max b)) = true) (he : am_ent m'.1 (.inr (.inr r) :: as) = L') (hi : am_is ω r (am_own b, am_nf (am_own b)) = false) : am_run m pc (L, S, ω) = none := by
  subst he
  refine am_stop hc ?_
  show am_inv 2 m i (pc + 3) L S ω = _
  unfold am_inv
  rw [hp]
  show am_call m b na rk (pc + 3) true L S ω = _
  unfold am_call
  rw [ha, hl]
  show cond ((!true || am_is ω r (am_own b, am_nf (am_own b))) && (Nat.ble (am_rk m' + 1) (am_rk m) && Nat.ble (am_spread (.inr (.inr r) :: as)).length (am_max b))) _ _ = _
  rw [hk, hi]
  rfl
theorem rr_invI5i {i b na : Nat} {w : Nat × Nat × Nat × Nat} {as : List am_V} {m' : am_M} (hc : am_code m.1 pc = some (.invokespecial i, 3)) (hp : am_lk (am_pm.get (am_own m.1)) i = some (5, b, na, 1, w)) (ha : am_args na S = some (.inr (.inr r) :: as, S')) (hl : am_lv m b = some m') (hk : (Nat.ble (am_rk m' + 1) (am_rk m) && Nat.ble (am_spread (.inr (.inr r) :: as)).length (am_max b)) = true) (he : am_ent m'.1 (.inr (.inr r) :: as) = L') (hi : am_is ω r (am_own b, am_nf (am_own b)) = true) : am_run m pc (L, S, ω) = am_bi (am_run m' 0 (L', [], ω)) (fun z ω1 => am_run m (pc + 3) (L, .inl z :: S', ω1)) := Eq.trans (rr_invI5 hc hp ha hl hk he hi) (bi_eq (k := fun S1 ω1 => am_run m (pc + 3) (L, S1, ω1)))
theorem rr_invI5l {i b na : Nat} {w : Nat × Nat × Nat × Nat} {as : List am_V} {m' : am_M} (hc : am_code m.1 pc = some (.invokespecial i, 3)) (hp : am_lk (am_pm.get (am_own m.1)) i = some (5, b, na, 2, w)) (ha : am_args na S = some (.inr (.inr r) :: as, S')) (hl : am_lv m b = some m') (hk : (Nat.ble (am_rk m' + 1) (am_rk m) && Nat.ble (am_spread (.inr (.inr r) :: as)).length (am_max b)) = true) (he : am_ent m'.1 (.inr (.inr r) :: as) = L') (hi : am_is ω r (am_own b, am_nf (am_own b)) = true) : am_run m pc (L, S, ω) = am_bl (am_run m' 0 (L', [], ω)) (fun z ω1 => am_run m (pc + 3) (L, .inr (.inl z) :: S', ω1)) := Eq.trans (rr_invI5 hc hp ha hl hk he hi) (bl_eq (k := fun S1 ω1 => am_run m (pc + 3) (L, S1, ω1)))
theorem rr_invI5a {i b na : Nat} {w : Nat × Nat × Nat × Nat} {as : List am_V} {m' : am_M} (hc : am_code m.1 pc = some (.invokespecial i, 3)) (hp : am_lk (am_pm.get (am_own m.1)) i = some (5, b, na, 3, w)) (ha : am_args na S = some (.inr (.inr r) :: as, S')) (hl : am_lv m b = some m') (hk : (Nat.ble (am_rk m' + 1) (am_rk m) && Nat.ble (am_spread (.inr (.inr r) :: as)).length (am_max b)) = true) (he : am_ent m'.1 (.inr (.inr r) :: as) = L') (hi : am_is ω r (am_own b, am_nf (am_own b)) = true) : am_run m pc (L, S, ω) = am_ba (am_run m' 0 (L', [], ω)) (fun z ω1 => am_run m (pc + 3) (L, .inr (.inr z) :: S', ω1)) := Eq.trans (rr_invI5 hc hp ha hl hk he hi) (ba_eq (k := fun S1 ω1 => am_run m (pc + 3) (L, S1, ω1)))
theorem rr_invI5v {i b na : Nat} {w : Nat × Nat × Nat × Nat} {as : List am_V} {m' : am_M} (hc : am_code m.1 pc = some (.invokespecial i, 3)) (hp : am_lk (am_pm.get (am_own m.1)) i = some (5, b, na, 0, w)) (ha : am_args na S = some (.inr (.inr r) :: as, S')) (hl : am_lv m b = some m') (hk : (Nat.ble (am_rk m' + 1) (am_rk m) && Nat.ble (am_spread (.inr (.inr r) :: as)).length (am_max b)) = true) (he : am_ent m'.1 (.inr (.inr r) :: as) = L') (hi : am_is ω r (am_own b, am_nf (am_own b)) = true) : am_run m pc (L, S, ω) = am_bv (am_run m' 0 (L', [], ω)) (fun ω1 => am_run m (pc + 3) (L, S', ω1)) := Eq.trans (rr_invI5 hc hp ha hl hk he hi) (bv_eq (k := fun S1 ω1 => am_run m (pc + 3) (L, S1, ω1)))
end RR
