/-! ===== a method's frame on the machine, and what it owes ===== -/
def am_tys (G : am_G) : List (ClassId × FieldType) := [(am_ca G 100, .int), (am_ca G 101, .long), (am_ca G 102, .object RX4), (am_ca G 103, .object RX2), (am_ca G 104, .array .int)]
/-- the words of nest mates -/
def am_nes : List Cond := lw_tbl.filter (fun w => match w with | .methodLinkNest _ _ _ _ => true | _ => false)
def am_lens : List Nat := [7, 4, 4, 4, 5, 4]
def am_byts : List (List Int32) := [[99, 105, 114, 99, 108, 101, 115], [116, 105, 109, 101], [99, 111, 115, 116], [115, 104, 105, 112], [100, 114, 111, 112, 115], [115, 116, 101, 112]]
/-- the texts -/
def am_St (G : am_G) (A : Nat → Prop) (s : State) : Prop := vk_S 6 am_lens am_byts G.2.2.2.1 G.2.2.2.2 A s s.heap ∧ va_Z "java/lang/String" "COMPACT_STRINGS" "Z" (.int 1) A s s.heap ∧ va_Zq "jdk/internal/util/Preconditions" "SIOOBE_FORMATTER" "Ljava/util/function/BiFunction;" A s s.heap ∧ ∀ (o idx k w : Nat), o < 12 → am_lk (am_ps.get o) idx = some (k, w) → vk_R (am_cn o) idx (am_txs.getD k "") (G.2.2.2.1 k) s
/-- the script -/
def am_Sc (G : am_G) (A : Nat → Prop) (sc : Nat × (Nat → Int)) (s : State) : Prop := va_X G.2.2.1 sc.1 (fun j => Int32.ofInt (sc.2 j)) s s.heap ∧ ¬ A G.2.2.1 ∧ G.2.2.1 < s.heap.size
def am_AO (s : State) : Prop := va_AO RX4 s ∧ va_AO RX2 s ∧ am_AOA .int s
def am_Cx (G : am_G) (mm : am_M) (A : Nat → Prop) (p : Program) (R : Room) (s : State) (m : MethodId) (args : Array Value) (meth : Method) (c : Code) (sc : Nat × (Nat → Int)) : Prop :=
  p.tables.exec = Jvm.exec ∧ c.code = am_by.get mm.1 ∧ c.maxLocals = am_max mm.1 ∧ s.vm.findClass (am_cn (am_own mm.1)) = some m.cls ∧ (∀ w ∈ am_wds, w.before args s = true) ∧ meth.sig.returnType = am_ty mm.1 ∧ meth.locks = false ∧ (mm.1 ∈ am_ctors → meth.name = "<init>") ∧ va_K G.1 vwCl (am_tys G) s ∧ (∀ w ∈ am_nes, va_Nw w s) ∧ am_St G A s ∧ am_rk mm ≤ R.frames ∧ 40 * am_rk mm ≤ R.locals ∧ (∀ q, s.heap.size ≤ q → A q) ∧ am_Sc G A sc s ∧ am_AO s
def am_sl (τ : List (Nat × Nat)) : Nat := (τ.map (fun q => q.2)).sum
/-- since the method's start nothing outside A has changed, and cells have only come -/
def am_VS (A : Nat → Prop) (H0 : Heap) (AD0 AD : List Nat) (H : Heap) (locs : List Loc) : Prop := va_S A H0 H locs ∧ AD0 <+: AD
/-- from every machine state that stands for this one the machine comes to Q -/
def am_J (G : am_G) (mm : am_M) (A : Nat → Prop) (p : Program) (l : Launch) (e : Env) (R : Room) (s : State) (m : MethodId) (args : Array Value) (below : List Frame) (meth : Method) (c : Code) (Q : State → Prop) (c0 s0 : Nat) (sc : Nat × (Nat → Int)) (AD0 : List Nat) (pc : Nat) (L : am_L) (S : List am_V) (ω : am_W) : Prop :=
  ∀ (AD : List Nat) (H : Heap) (locs : List Loc) (ls : Array Slot) (cells slots : Nat), am_Fr G AD (am_max mm.1) L ls → am_okL ω.1.length L → am_okS ω.1.length S → am_Rl G A AD ω H → am_VS A s.heap AD0 AD H locs → cells + c0 = ω.1.length → slots + s0 = am_sl ω.1 → ω.2.2 = sc → W p l e R s m args below meth c H locs cells slots Q (F0 m pc ls (S.map (am_mv G AD)))
section AJ
variable {G : am_G} {mm : am_M} {A : Nat → Prop} {p : Program} {l : Launch} {e : Env} {R : Room} {s : State} {m : MethodId} {args : Array Value} {below : List Frame} {meth : Method} {c : Code} {Q : State → Prop} {c0 s0 : Nat} {sc : Nat × (Nat → Int)} {AD0 : List Nat} {pc : Nat} {L : am_L} {S : List am_V} {ω : am_W}
theorem am_cat (G : am_G) (AD : List Nat) (z : Int) : (am_mr G AD z).category = 1 := by
  unfold am_mr
  split
  · rfl
  · split
    · rfl
    · split <;> rfl
theorem am_mr_or (G : am_G) (AD : List Nat) (z : Int) : (z = -1 ∧ am_mr G AD z = .null) ∨ (¬ z = -1 ∧ ∃ a, am_mr G AD z = .ref a) := by
  unfold am_mr
  by_cases h : z = -1
  · left
    subst h
    exact ⟨rfl, rfl⟩
  · right
    refine ⟨h, ?_⟩
    by_cases h0 : 0 ≤ z
    · exact ⟨_, if_pos h0⟩
    · rw [if_neg h0, if_neg h]
      by_cases h2 : z = -2
      · exact ⟨_, if_pos h2⟩
      · exact ⟨_, if_neg h2⟩
theorem aj_iconst {n : Int} (C : am_Cx G mm A p R s m args meth c sc) (h1 : -128 ≤ n) (h2 : n ≤ 127) (hd : decode (am_by.get mm.1) pc = .ok (.iconst n, 1)) (k : am_J G mm A p l e R s m args below meth c Q c0 s0 sc AD0 (pc + 1) L (.inl n :: S) ω) : am_J G mm A p l e R s m args below meth c Q c0 s0 sc AD0 pc L (S) ω := by
  intro AD H locs ls cells slots hF hL hS hR hV hc hs hsc
  refine lv_iconst C.1 C.2.1 hd rfl ?_
  exact k AD H locs ls cells slots hF hL (am_okS_c (v := .inl n) (by show am_R32 n; unfold am_R32; omega) hS) hR hV hc hs hsc
theorem aj_bipush {n : Int} (C : am_Cx G mm A p R s m args meth c sc) (h1 : -128 ≤ n) (h2 : n ≤ 127) (hd : decode (am_by.get mm.1) pc = .ok (.bipush n, 2)) (k : am_J G mm A p l e R s m args below meth c Q c0 s0 sc AD0 (pc + 2) L (.inl n :: S) ω) : am_J G mm A p l e R s m args below meth c Q c0 s0 sc AD0 pc L (S) ω := by
  intro AD H locs ls cells slots hF hL hS hR hV hc hs hsc
  refine lv_bipush C.1 C.2.1 hd (nu_byte h1 h2) ?_
  exact k AD H locs ls cells slots hF hL (am_okS_c (v := .inl n) (by show am_R32 n; unfold am_R32; omega) hS) hR hV hc hs hsc
theorem aj_sipush {n : Int} (C : am_Cx G mm A p R s m args meth c sc) (h1 : -32768 ≤ n) (h2 : n ≤ 32767) (hd : decode (am_by.get mm.1) pc = .ok (.sipush n, 3)) (k : am_J G mm A p l e R s m args below meth c Q c0 s0 sc AD0 (pc + 3) L (.inl n :: S) ω) : am_J G mm A p l e R s m args below meth c Q c0 s0 sc AD0 pc L (S) ω := by
  intro AD H locs ls cells slots hF hL hS hR hV hc hs hsc
  refine lv_sipush C.1 C.2.1 hd (nu_short h1 h2) ?_
  exact k AD H locs ls cells slots hF hL (am_okS_c (v := .inl n) (by show am_R32 n; unfold am_R32; omega) hS) hR hV hc hs hsc
theorem aj_lconst {n : Fin 2} (C : am_Cx G mm A p R s m args meth c sc) (hd : decode (am_by.get mm.1) pc = .ok (.lconst n, 1)) (k : am_J G mm A p l e R s m args below meth c Q c0 s0 sc AD0 (pc + 1) L (.inr (.inl ((n : Nat) : Int)) :: S) ω) : am_J G mm A p l e R s m args below meth c Q c0 s0 sc AD0 pc L (S) ω := by
  intro AD H locs ls cells slots hF hL hS hR hV hc hs hsc
  refine lv_lconst C.1 C.2.1 hd rfl ?_
  exact k AD H locs ls cells slots hF hL (am_okS_c (v := .inr (.inl ((n : Nat) : Int))) (by show am_R64 _; unfold am_R64; omega) hS) hR hV hc hs hsc
theorem aj_iadd {a b : Int} (C : am_Cx G mm A p R s m args meth c sc) (hd : decode (am_by.get mm.1) pc = .ok (.iadd, 1)) (k : am_J G mm A p l e R s m args below meth c Q c0 s0 sc AD0 (pc + 1) L (.inl (am_w (a + b)) :: S) ω) : am_J G mm A p l e R s m args below meth c Q c0 s0 sc AD0 pc L (.inl b :: .inl a :: S) ω := by
  intro AD H locs ls cells slots hF hL hS hR hV hc hs hsc
  refine lv_iadd C.1 C.2.1 hd ?_
  rw [nu_add]
  exact k AD H locs ls cells slots hF hL (am_okS_c (v := .inl _) (nu_w _) (am_okS_t (am_okS_t hS))) hR hV hc hs hsc
theorem aj_isub {a b : Int} (C : am_Cx G mm A p R s m args meth c sc) (hd : decode (am_by.get mm.1) pc = .ok (.isub, 1)) (k : am_J G mm A p l e R s m args below meth c Q c0 s0 sc AD0 (pc + 1) L (.inl (am_w (a - b)) :: S) ω) : am_J G mm A p l e R s m args below meth c Q c0 s0 sc AD0 pc L (.inl b :: .inl a :: S) ω := by
  intro AD H locs ls cells slots hF hL hS hR hV hc hs hsc
  refine lv_isub C.1 C.2.1 hd ?_
  rw [nu_sub]
  exact k AD H locs ls cells slots hF hL (am_okS_c (v := .inl _) (nu_w _) (am_okS_t (am_okS_t hS))) hR hV hc hs hsc
theorem aj_imul {a b : Int} (C : am_Cx G mm A p R s m args meth c sc) (hd : decode (am_by.get mm.1) pc = .ok (.imul, 1)) (k : am_J G mm A p l e R s m args below meth c Q c0 s0 sc AD0 (pc + 1) L (.inl (am_w (a * b)) :: S) ω) : am_J G mm A p l e R s m args below meth c Q c0 s0 sc AD0 pc L (.inl b :: .inl a :: S) ω := by
  intro AD H locs ls cells slots hF hL hS hR hV hc hs hsc
  refine lv_imul C.1 C.2.1 hd ?_
  rw [nu_mul]
  exact k AD H locs ls cells slots hF hL (am_okS_c (v := .inl _) (nu_w _) (am_okS_t (am_okS_t hS))) hR hV hc hs hsc
theorem aj_iand {a b : Int} (C : am_Cx G mm A p R s m args meth c sc) (hd : decode (am_by.get mm.1) pc = .ok (.iand, 1)) (k : am_J G mm A p l e R s m args below meth c Q c0 s0 sc AD0 (pc + 1) L (.inl (am_and a b) :: S) ω) : am_J G mm A p l e R s m args below meth c Q c0 s0 sc AD0 pc L (.inl b :: .inl a :: S) ω := by
  intro AD H locs ls cells slots hF hL hS hR hV hc hs hsc
  refine lv_iand C.1 C.2.1 hd ?_
  rw [show Int32.ofInt a &&& Int32.ofInt b = Int32.ofInt (am_and a b) from (nu_back _).symm]
  exact k AD H locs ls cells slots hF hL (am_okS_c (v := .inl _) (nu_to _) (am_okS_t (am_okS_t hS))) hR hV hc hs hsc
theorem aj_ior {a b : Int} (C : am_Cx G mm A p R s m args meth c sc) (hd : decode (am_by.get mm.1) pc = .ok (.ior, 1)) (k : am_J G mm A p l e R s m args below meth c Q c0 s0 sc AD0 (pc + 1) L (.inl (am_or a b) :: S) ω) : am_J G mm A p l e R s m args below meth c Q c0 s0 sc AD0 pc L (.inl b :: .inl a :: S) ω := by
  intro AD H locs ls cells slots hF hL hS hR hV hc hs hsc
  refine lv_ior C.1 C.2.1 hd ?_
  rw [show Int32.ofInt a ||| Int32.ofInt b = Int32.ofInt (am_or a b) from (nu_back _).symm]
  exact k AD H locs ls cells slots hF hL (am_okS_c (v := .inl _) (nu_to _) (am_okS_t (am_okS_t hS))) hR hV hc hs hsc
theorem aj_ixor {a b : Int} (C : am_Cx G mm A p R s m args meth c sc) (hd : decode (am_by.get mm.1) pc = .ok (.ixor, 1)) (k : am_J G mm A p l e R s m args below meth c Q c0 s0 sc AD0 (pc + 1) L (.inl (am_xor a b) :: S) ω) : am_J G mm A p l e R s m args below meth c Q c0 s0 sc AD0 pc L (.inl b :: .inl a :: S) ω := by
  intro AD H locs ls cells slots hF hL hS hR hV hc hs hsc
  refine lv_ixor C.1 C.2.1 hd ?_
  rw [show Int32.ofInt a ^^^ Int32.ofInt b = Int32.ofInt (am_xor a b) from (nu_back _).symm]
  exact k AD H locs ls cells slots hF hL (am_okS_c (v := .inl _) (nu_to _) (am_okS_t (am_okS_t hS))) hR hV hc hs hsc
theorem aj_ishl {a b : Int} (C : am_Cx G mm A p R s m args meth c sc) (hd : decode (am_by.get mm.1) pc = .ok (.ishl, 1)) (k : am_J G mm A p l e R s m args below meth c Q c0 s0 sc AD0 (pc + 1) L (.inl (am_shl a b) :: S) ω) : am_J G mm A p l e R s m args below meth c Q c0 s0 sc AD0 pc L (.inl b :: .inl a :: S) ω := by
  intro AD H locs ls cells slots hF hL hS hR hV hc hs hsc
  refine lv_ishl C.1 C.2.1 hd ?_
  rw [show Int32.ofInt a <<< (Int32.ofInt b &&& 31) = Int32.ofInt (am_shl a b) from (nu_back _).symm]
  exact k AD H locs ls cells slots hF hL (am_okS_c (v := .inl _) (nu_to _) (am_okS_t (am_okS_t hS))) hR hV hc hs hsc
theorem aj_ishr {a b : Int} (C : am_Cx G mm A p R s m args meth c sc) (hd : decode (am_by.get mm.1) pc = .ok (.ishr, 1)) (k : am_J G mm A p l e R s m args below meth c Q c0 s0 sc AD0 (pc + 1) L (.inl (am_shr a b) :: S) ω) : am_J G mm A p l e R s m args below meth c Q c0 s0 sc AD0 pc L (.inl b :: .inl a :: S) ω := by
  intro AD H locs ls cells slots hF hL hS hR hV hc hs hsc
  refine lv_ishr C.1 C.2.1 hd ?_
  rw [show Int32.ofInt a >>> (Int32.ofInt b &&& 31) = Int32.ofInt (am_shr a b) from (nu_back _).symm]
  exact k AD H locs ls cells slots hF hL (am_okS_c (v := .inl _) (nu_to _) (am_okS_t (am_okS_t hS))) hR hV hc hs hsc
theorem aj_iushr {a b : Int} (C : am_Cx G mm A p R s m args meth c sc) (hd : decode (am_by.get mm.1) pc = .ok (.iushr, 1)) (k : am_J G mm A p l e R s m args below meth c Q c0 s0 sc AD0 (pc + 1) L (.inl (am_ushr a b) :: S) ω) : am_J G mm A p l e R s m args below meth c Q c0 s0 sc AD0 pc L (.inl b :: .inl a :: S) ω := by
  intro AD H locs ls cells slots hF hL hS hR hV hc hs hsc
  refine lv_iushr (v := Int32.ofInt (am_ushr a b)) C.1 C.2.1 hd (nu_back _).symm ?_
  exact k AD H locs ls cells slots hF hL (am_okS_c (v := .inl _) (nu_to _) (am_okS_t (am_okS_t hS))) hR hV hc hs hsc
theorem aj_idiv {a b : Int} (C : am_Cx G mm A p R s m args meth c sc) (h0 : ¬ b = 0) (hd : decode (am_by.get mm.1) pc = .ok (.idiv, 1)) (k : am_J G mm A p l e R s m args below meth c Q c0 s0 sc AD0 (pc + 1) L (.inl (am_w (a.tdiv b)) :: S) ω) : am_J G mm A p l e R s m args below meth c Q c0 s0 sc AD0 pc L (.inl b :: .inl a :: S) ω := by
  intro AD H locs ls cells slots hF hL hS hR hV hc hs hsc
  refine lv_idiv C.1 C.2.1 hd (nu_ne (am_okS_h hS) h0) ?_
  rw [nu_div (am_okS_h (am_okS_t hS)) (am_okS_h hS)]
  exact k AD H locs ls cells slots hF hL (am_okS_c (v := .inl _) (nu_w _) (am_okS_t (am_okS_t hS))) hR hV hc hs hsc
theorem aj_irem {a b : Int} (C : am_Cx G mm A p R s m args meth c sc) (h0 : ¬ b = 0) (hd : decode (am_by.get mm.1) pc = .ok (.irem, 1)) (k : am_J G mm A p l e R s m args below meth c Q c0 s0 sc AD0 (pc + 1) L (.inl (a.tmod b) :: S) ω) : am_J G mm A p l e R s m args below meth c Q c0 s0 sc AD0 pc L (.inl b :: .inl a :: S) ω := by
  intro AD H locs ls cells slots hF hL hS hR hV hc hs hsc
  refine lv_irem C.1 C.2.1 hd (nu_ne (am_okS_h hS) h0) ?_
  rw [nu_rem (am_okS_h (am_okS_t hS)) (am_okS_h hS)]
  exact k AD H locs ls cells slots hF hL (am_okS_c (v := .inl _) (nu_r32m (am_okS_h hS) h0) (am_okS_t (am_okS_t hS))) hR hV hc hs hsc
theorem aj_ineg {a : Int} (C : am_Cx G mm A p R s m args meth c sc) (hd : decode (am_by.get mm.1) pc = .ok (.ineg, 1)) (k : am_J G mm A p l e R s m args below meth c Q c0 s0 sc AD0 (pc + 1) L (.inl (am_w (-a)) :: S) ω) : am_J G mm A p l e R s m args below meth c Q c0 s0 sc AD0 pc L (.inl a :: S) ω := by
  intro AD H locs ls cells slots hF hL hS hR hV hc hs hsc
  refine lv_ineg C.1 C.2.1 hd ?_
  rw [nu_neg]
  exact k AD H locs ls cells slots hF hL (am_okS_c (v := .inl _) (nu_w _) (am_okS_t hS)) hR hV hc hs hsc
theorem aj_ladd {a b : Int} (C : am_Cx G mm A p R s m args meth c sc) (hd : decode (am_by.get mm.1) pc = .ok (.ladd, 1)) (k : am_J G mm A p l e R s m args below meth c Q c0 s0 sc AD0 (pc + 1) L (.inr (.inl (am_wl (a + b))) :: S) ω) : am_J G mm A p l e R s m args below meth c Q c0 s0 sc AD0 pc L (.inr (.inl b) :: .inr (.inl a) :: S) ω := by
  intro AD H locs ls cells slots hF hL hS hR hV hc hs hsc
  refine lv_ladd C.1 C.2.1 hd ?_
  rw [nu_addl]
  exact k AD H locs ls cells slots hF hL (am_okS_c (v := .inr (.inl _)) (nu_wl _) (am_okS_t (am_okS_t hS))) hR hV hc hs hsc
theorem aj_lmul {a b : Int} (C : am_Cx G mm A p R s m args meth c sc) (hd : decode (am_by.get mm.1) pc = .ok (.lmul, 1)) (k : am_J G mm A p l e R s m args below meth c Q c0 s0 sc AD0 (pc + 1) L (.inr (.inl (am_wl (a * b))) :: S) ω) : am_J G mm A p l e R s m args below meth c Q c0 s0 sc AD0 pc L (.inr (.inl b) :: .inr (.inl a) :: S) ω := by
  intro AD H locs ls cells slots hF hL hS hR hV hc hs hsc
  refine lv_lmul C.1 C.2.1 hd ?_
  rw [nu_mull]
  exact k AD H locs ls cells slots hF hL (am_okS_c (v := .inr (.inl _)) (nu_wl _) (am_okS_t (am_okS_t hS))) hR hV hc hs hsc
theorem aj_land {a b : Int} (C : am_Cx G mm A p R s m args meth c sc) (hd : decode (am_by.get mm.1) pc = .ok (.land, 1)) (k : am_J G mm A p l e R s m args below meth c Q c0 s0 sc AD0 (pc + 1) L (.inr (.inl (am_land a b)) :: S) ω) : am_J G mm A p l e R s m args below meth c Q c0 s0 sc AD0 pc L (.inr (.inl b) :: .inr (.inl a) :: S) ω := by
  intro AD H locs ls cells slots hF hL hS hR hV hc hs hsc
  refine lv_land C.1 C.2.1 hd ?_
  rw [show Int64.ofInt a &&& Int64.ofInt b = Int64.ofInt (am_land a b) from (nu_backl _).symm]
  exact k AD H locs ls cells slots hF hL (am_okS_c (v := .inr (.inl _)) (nu_tol _) (am_okS_t (am_okS_t hS))) hR hV hc hs hsc
theorem aj_lor {a b : Int} (C : am_Cx G mm A p R s m args meth c sc) (hd : decode (am_by.get mm.1) pc = .ok (.lor, 1)) (k : am_J G mm A p l e R s m args below meth c Q c0 s0 sc AD0 (pc + 1) L (.inr (.inl (am_lor a b)) :: S) ω) : am_J G mm A p l e R s m args below meth c Q c0 s0 sc AD0 pc L (.inr (.inl b) :: .inr (.inl a) :: S) ω := by
  intro AD H locs ls cells slots hF hL hS hR hV hc hs hsc
  refine lv_lor C.1 C.2.1 hd ?_
  rw [show Int64.ofInt a ||| Int64.ofInt b = Int64.ofInt (am_lor a b) from (nu_backl _).symm]
  exact k AD H locs ls cells slots hF hL (am_okS_c (v := .inr (.inl _)) (nu_tol _) (am_okS_t (am_okS_t hS))) hR hV hc hs hsc
theorem aj_lshl {a b : Int} (C : am_Cx G mm A p R s m args meth c sc) (hd : decode (am_by.get mm.1) pc = .ok (.lshl, 1)) (k : am_J G mm A p l e R s m args below meth c Q c0 s0 sc AD0 (pc + 1) L (.inr (.inl (am_lshl a b)) :: S) ω) : am_J G mm A p l e R s m args below meth c Q c0 s0 sc AD0 pc L (.inl b :: .inr (.inl a) :: S) ω := by
  intro AD H locs ls cells slots hF hL hS hR hV hc hs hsc
  refine lv_lshl (v := Int64.ofInt (am_lshl a b)) C.1 C.2.1 hd (nu_backl _).symm ?_
  exact k AD H locs ls cells slots hF hL (am_okS_c (v := .inr (.inl _)) (nu_tol _) (am_okS_t (am_okS_t hS))) hR hV hc hs hsc
theorem aj_ldiv {a b : Int} (C : am_Cx G mm A p R s m args meth c sc) (h0 : ¬ b = 0) (hd : decode (am_by.get mm.1) pc = .ok (.ldiv, 1)) (k : am_J G mm A p l e R s m args below meth c Q c0 s0 sc AD0 (pc + 1) L (.inr (.inl (am_wl (a.tdiv b))) :: S) ω) : am_J G mm A p l e R s m args below meth c Q c0 s0 sc AD0 pc L (.inr (.inl b) :: .inr (.inl a) :: S) ω := by
  intro AD H locs ls cells slots hF hL hS hR hV hc hs hsc
  refine lv_ldiv C.1 C.2.1 hd (nu_nel (am_okS_h hS) h0) ?_
  rw [nu_divl (am_okS_h (am_okS_t hS)) (am_okS_h hS)]
  exact k AD H locs ls cells slots hF hL (am_okS_c (v := .inr (.inl _)) (nu_wl _) (am_okS_t (am_okS_t hS))) hR hV hc hs hsc
theorem aj_lrem {a b : Int} (C : am_Cx G mm A p R s m args meth c sc) (h0 : ¬ b = 0) (hd : decode (am_by.get mm.1) pc = .ok (.lrem, 1)) (k : am_J G mm A p l e R s m args below meth c Q c0 s0 sc AD0 (pc + 1) L (.inr (.inl (a.tmod b)) :: S) ω) : am_J G mm A p l e R s m args below meth c Q c0 s0 sc AD0 pc L (.inr (.inl b) :: .inr (.inl a) :: S) ω := by
  intro AD H locs ls cells slots hF hL hS hR hV hc hs hsc
  refine lv_lrem C.1 C.2.1 hd (nu_nel (am_okS_h hS) h0) ?_
  rw [nu_reml (am_okS_h (am_okS_t hS)) (am_okS_h hS)]
  exact k AD H locs ls cells slots hF hL (am_okS_c (v := .inr (.inl _)) (nu_r64m (am_okS_h hS) h0) (am_okS_t (am_okS_t hS))) hR hV hc hs hsc
theorem aj_lcmp {a b : Int} (C : am_Cx G mm A p R s m args meth c sc) (hd : decode (am_by.get mm.1) pc = .ok (.lcmp, 1)) (k : am_J G mm A p l e R s m args below meth c Q c0 s0 sc AD0 (pc + 1) L (.inl (am_cmp a b) :: S) ω) : am_J G mm A p l e R s m args below meth c Q c0 s0 sc AD0 pc L (.inr (.inl b) :: .inr (.inl a) :: S) ω := by
  intro AD H locs ls cells slots hF hL hS hR hV hc hs hsc
  refine W.lcmp C.1 C.2.1 hd ?_
  rw [nu_cmp (am_okS_h (am_okS_t hS)) (am_okS_h hS)]
  exact k AD H locs ls cells slots hF hL (am_okS_c (v := .inl _) (nu_rcmp _ _) (am_okS_t (am_okS_t hS))) hR hV hc hs hsc
theorem aj_i2l {a : Int} (C : am_Cx G mm A p R s m args meth c sc) (hd : decode (am_by.get mm.1) pc = .ok (.i2l, 1)) (k : am_J G mm A p l e R s m args below meth c Q c0 s0 sc AD0 (pc + 1) L (.inr (.inl a) :: S) ω) : am_J G mm A p l e R s m args below meth c Q c0 s0 sc AD0 pc L (.inl a :: S) ω := by
  intro AD H locs ls cells slots hF hL hS hR hV hc hs hsc
  refine lv_i2l C.1 C.2.1 hd (nu_i2l (am_okS_h hS)) ?_
  exact k AD H locs ls cells slots hF hL (am_okS_c (v := .inr (.inl _)) (by have := am_okS_h hS; have h : am_R32 a := this; unfold am_R32 at h; show am_R64 a; unfold am_R64; omega) (am_okS_t hS)) hR hV hc hs hsc
theorem aj_l2i {a : Int} (C : am_Cx G mm A p R s m args meth c sc) (hd : decode (am_by.get mm.1) pc = .ok (.l2i, 1)) (k : am_J G mm A p l e R s m args below meth c Q c0 s0 sc AD0 (pc + 1) L (.inl (am_w a) :: S) ω) : am_J G mm A p l e R s m args below meth c Q c0 s0 sc AD0 pc L (.inr (.inl a) :: S) ω := by
  intro AD H locs ls cells slots hF hL hS hR hV hc hs hsc
  refine lv_l2i C.1 C.2.1 hd (nu_l2i (am_okS_h hS)) ?_
  exact k AD H locs ls cells slots hF hL (am_okS_c (v := .inl _) (nu_w _) (am_okS_t hS)) hR hV hc hs hsc
theorem aj_i2b {a : Int} (C : am_Cx G mm A p R s m args meth c sc) (hd : decode (am_by.get mm.1) pc = .ok (.i2b, 1)) (k : am_J G mm A p l e R s m args below meth c Q c0 s0 sc AD0 (pc + 1) L (.inl (a.bmod 256) :: S) ω) : am_J G mm A p l e R s m args below meth c Q c0 s0 sc AD0 pc L (.inl a :: S) ω := by
  intro AD H locs ls cells slots hF hL hS hR hV hc hs hsc
  refine lv_i2b C.1 C.2.1 hd (nu_i2b (am_okS_h hS)) ?_
  exact k AD H locs ls cells slots hF hL (am_okS_c (v := .inl _) (nu_b 256 (by decide) (by decide)) (am_okS_t hS)) hR hV hc hs hsc
theorem aj_i2s {a : Int} (C : am_Cx G mm A p R s m args meth c sc) (hd : decode (am_by.get mm.1) pc = .ok (.i2s, 1)) (k : am_J G mm A p l e R s m args below meth c Q c0 s0 sc AD0 (pc + 1) L (.inl (a.bmod 65536) :: S) ω) : am_J G mm A p l e R s m args below meth c Q c0 s0 sc AD0 pc L (.inl a :: S) ω := by
  intro AD H locs ls cells slots hF hL hS hR hV hc hs hsc
  refine lv_i2s C.1 C.2.1 hd (nu_i2s (am_okS_h hS)) ?_
  exact k AD H locs ls cells slots hF hL (am_okS_c (v := .inl _) (nu_b 65536 (by decide) (by decide)) (am_okS_t hS)) hR hV hc hs hsc
theorem aj_dupi {a : Int} (C : am_Cx G mm A p R s m args meth c sc) (hd : decode (am_by.get mm.1) pc = .ok (.dup, 1)) (k : am_J G mm A p l e R s m args below meth c Q c0 s0 sc AD0 (pc + 1) L (.inl a :: .inl a :: S) ω) : am_J G mm A p l e R s m args below meth c Q c0 s0 sc AD0 pc L (.inl a :: S) ω := by
  intro AD H locs ls cells slots hF hL hS hR hV hc hs hsc
  refine lv_dup C.1 C.2.1 hd rfl ?_
  exact k AD H locs ls cells slots hF hL (am_okS_c (am_okS_h hS) hS) hR hV hc hs hsc
theorem aj_dupr {a : Int} (C : am_Cx G mm A p R s m args meth c sc) (hd : decode (am_by.get mm.1) pc = .ok (.dup, 1)) (k : am_J G mm A p l e R s m args below meth c Q c0 s0 sc AD0 (pc + 1) L (.inr (.inr a) :: .inr (.inr a) :: S) ω) : am_J G mm A p l e R s m args below meth c Q c0 s0 sc AD0 pc L (.inr (.inr a) :: S) ω := by
  intro AD H locs ls cells slots hF hL hS hR hV hc hs hsc
  refine lv_dup C.1 C.2.1 hd (am_cat _ _ _) ?_
  exact k AD H locs ls cells slots hF hL (am_okS_c (am_okS_h hS) hS) hR hV hc hs hsc
theorem aj_dup_x1 {a r : Int} (C : am_Cx G mm A p R s m args meth c sc) (hd : decode (am_by.get mm.1) pc = .ok (.dup_x1, 1)) (k : am_J G mm A p l e R s m args below meth c Q c0 s0 sc AD0 (pc + 1) L (.inl a :: .inr (.inr r) :: .inl a :: S) ω) : am_J G mm A p l e R s m args below meth c Q c0 s0 sc AD0 pc L (.inl a :: .inr (.inr r) :: S) ω := by
  intro AD H locs ls cells slots hF hL hS hR hV hc hs hsc
  refine lv_dup_x1 C.1 C.2.1 hd rfl (am_cat _ _ _) ?_
  exact k AD H locs ls cells slots hF hL (am_okS_c (am_okS_h hS) (am_okS_c (am_okS_h (am_okS_t hS)) (am_okS_c (am_okS_h hS) (am_okS_t (am_okS_t hS))))) hR hV hc hs hsc
theorem aj_dup2 {a r : Int} (C : am_Cx G mm A p R s m args meth c sc) (hd : decode (am_by.get mm.1) pc = .ok (.dup2, 1)) (k : am_J G mm A p l e R s m args below meth c Q c0 s0 sc AD0 (pc + 1) L (.inl a :: .inr (.inr r) :: .inl a :: .inr (.inr r) :: S) ω) : am_J G mm A p l e R s m args below meth c Q c0 s0 sc AD0 pc L (.inl a :: .inr (.inr r) :: S) ω := by
  intro AD H locs ls cells slots hF hL hS hR hV hc hs hsc
  refine lv_dup2_11 C.1 C.2.1 hd rfl (am_cat _ _ _) ?_
  exact k AD H locs ls cells slots hF hL (am_okS_c (am_okS_h hS) (am_okS_c (am_okS_h (am_okS_t hS)) hS)) hR hV hc hs hsc
theorem aj_popi {a : Int} (C : am_Cx G mm A p R s m args meth c sc) (hd : decode (am_by.get mm.1) pc = .ok (.pop, 1)) (k : am_J G mm A p l e R s m args below meth c Q c0 s0 sc AD0 (pc + 1) L (S) ω) : am_J G mm A p l e R s m args below meth c Q c0 s0 sc AD0 pc L (.inl a :: S) ω := by
  intro AD H locs ls cells slots hF hL hS hR hV hc hs hsc
  refine lv_pop C.1 C.2.1 hd rfl ?_
  exact k AD H locs ls cells slots hF hL (am_okS_t hS) hR hV hc hs hsc
theorem aj_popr {a : Int} (C : am_Cx G mm A p R s m args meth c sc) (hd : decode (am_by.get mm.1) pc = .ok (.pop, 1)) (k : am_J G mm A p l e R s m args below meth c Q c0 s0 sc AD0 (pc + 1) L (S) ω) : am_J G mm A p l e R s m args below meth c Q c0 s0 sc AD0 pc L (.inr (.inr a) :: S) ω := by
  intro AD H locs ls cells slots hF hL hS hR hV hc hs hsc
  refine lv_pop C.1 C.2.1 hd (am_cat _ _ _) ?_
  exact k AD H locs ls cells slots hF hL (am_okS_t hS) hR hV hc hs hsc
theorem aj_iload_n {k0 : Fin 4} {z : Int} (C : am_Cx G mm A p R s m args meth c sc) (hd : decode (am_by.get mm.1) pc = .ok (.iload_n k0, 1)) (hl : L[(k0 : Nat)]? = some (some (.inl z))) (k : am_J G mm A p l e R s m args below meth c Q c0 s0 sc AD0 (pc + 1) L (.inl z :: S) ω) : am_J G mm A p l e R s m args below meth c Q c0 s0 sc AD0 pc L S ω := by
  intro AD H locs ls cells slots hF hL hS hR hV hc hs hsc
  have h1 := hF.2.2.2 _ _ hl
  have h2 := hL _ _ hl
  refine lv_iload_n C.1 C.2.1 hd rfl h1 ?_
  exact k AD H locs ls cells slots hF hL (am_okS_c h2 hS) hR hV hc hs hsc
theorem aj_iload {k0 : Nat} {z : Int} (C : am_Cx G mm A p R s m args meth c sc) (hd : decode (am_by.get mm.1) pc = .ok (.iload k0, 2)) (hl : L[k0]? = some (some (.inl z))) (k : am_J G mm A p l e R s m args below meth c Q c0 s0 sc AD0 (pc + 2) L (.inl z :: S) ω) : am_J G mm A p l e R s m args below meth c Q c0 s0 sc AD0 pc L S ω := by
  intro AD H locs ls cells slots hF hL hS hR hV hc hs hsc
  have h1 := hF.2.2.2 _ _ hl
  have h2 := hL _ _ hl
  refine lv_iload C.1 C.2.1 hd h1 ?_
  exact k AD H locs ls cells slots hF hL (am_okS_c h2 hS) hR hV hc hs hsc
theorem aj_lload_n {k0 : Fin 4} {z : Int} (C : am_Cx G mm A p R s m args meth c sc) (hd : decode (am_by.get mm.1) pc = .ok (.lload_n k0, 1)) (hl : L[(k0 : Nat)]? = some (some (.inr (.inl z)))) (k : am_J G mm A p l e R s m args below meth c Q c0 s0 sc AD0 (pc + 1) L (.inr (.inl z) :: S) ω) : am_J G mm A p l e R s m args below meth c Q c0 s0 sc AD0 pc L S ω := by
  intro AD H locs ls cells slots hF hL hS hR hV hc hs hsc
  have h1 := hF.2.2.2 _ _ hl
  have h2 := hL _ _ hl
  refine lv_lload_n C.1 C.2.1 hd rfl h1 ?_
  exact k AD H locs ls cells slots hF hL (am_okS_c h2 hS) hR hV hc hs hsc
theorem aj_lload {k0 : Nat} {z : Int} (C : am_Cx G mm A p R s m args meth c sc) (hd : decode (am_by.get mm.1) pc = .ok (.lload k0, 2)) (hl : L[k0]? = some (some (.inr (.inl z)))) (k : am_J G mm A p l e R s m args below meth c Q c0 s0 sc AD0 (pc + 2) L (.inr (.inl z) :: S) ω) : am_J G mm A p l e R s m args below meth c Q c0 s0 sc AD0 pc L S ω := by
  intro AD H locs ls cells slots hF hL hS hR hV hc hs hsc
  have h1 := hF.2.2.2 _ _ hl
  have h2 := hL _ _ hl
  refine lv_lload C.1 C.2.1 hd h1 ?_
  exact k AD H locs ls cells slots hF hL (am_okS_c h2 hS) hR hV hc hs hsc
theorem aj_aload_n {k0 : Fin 4} {z : Int} (C : am_Cx G mm A p R s m args meth c sc) (hd : decode (am_by.get mm.1) pc = .ok (.aload_n k0, 1)) (hl : L[(k0 : Nat)]? = some (some (.inr (.inr z)))) (k : am_J G mm A p l e R s m args below meth c Q c0 s0 sc AD0 (pc + 1) L (.inr (.inr z) :: S) ω) : am_J G mm A p l e R s m args below meth c Q c0 s0 sc AD0 pc L S ω := by
  intro AD H locs ls cells slots hF hL hS hR hV hc hs hsc
  have h1 := hF.2.2.2 _ _ hl
  have h2 := hL _ _ hl
  have k2 := k AD H locs ls cells slots hF hL (am_okS_c h2 hS) hR hV hc hs hsc
  have h1 : ls[(k0 : Nat)]? = some (Slot.val (am_mr G AD z)) := h1
  have k2 : W p l e R s m args below meth c H locs cells slots Q (F0 m (pc + 1) ls (am_mr G AD z :: S.map (am_mv G AD))) := k2
  rcases am_mr_or G AD z with ⟨-, hv⟩ | ⟨-, a, hv⟩
  · rw [hv] at h1 k2
    exact lv_aload_nN C.1 C.2.1 hd rfl h1 k2
  · rw [hv] at h1 k2
    exact lv_aload_n C.1 C.2.1 hd rfl h1 k2
theorem aj_aload {k0 : Nat} {z : Int} (C : am_Cx G mm A p R s m args meth c sc) (hd : decode (am_by.get mm.1) pc = .ok (.aload k0, 2)) (hl : L[k0]? = some (some (.inr (.inr z)))) (k : am_J G mm A p l e R s m args below meth c Q c0 s0 sc AD0 (pc + 2) L (.inr (.inr z) :: S) ω) : am_J G mm A p l e R s m args below meth c Q c0 s0 sc AD0 pc L S ω := by
  intro AD H locs ls cells slots hF hL hS hR hV hc hs hsc
  have h1 := hF.2.2.2 _ _ hl
  have h2 := hL _ _ hl
  have k2 := k AD H locs ls cells slots hF hL (am_okS_c h2 hS) hR hV hc hs hsc
  have h1 : ls[k0]? = some (Slot.val (am_mr G AD z)) := h1
  have k2 : W p l e R s m args below meth c H locs cells slots Q (F0 m (pc + 2) ls (am_mr G AD z :: S.map (am_mv G AD))) := k2
  rcases am_mr_or G AD z with ⟨-, hv⟩ | ⟨-, a, hv⟩
  · rw [hv] at h1 k2
    exact lv_aloadN C.1 C.2.1 hd h1 k2
  · rw [hv] at h1 k2
    exact lv_aload C.1 C.2.1 hd h1 k2
/-- the places that hold something -/
def am_ents (G : am_G) (AD : List Nat) (L : am_L) : List (Nat × Value) := (List.range L.length).filterMap (fun k => match L[k]? with | some (some v) => some (k, am_mv G AD v) | _ => none)
theorem am_ents_in {AD : List Nat} {k : Nat} {v : am_V} (h : L[k]? = some (some v)) : (k, am_mv G AD v) ∈ am_ents G AD L := by
  unfold am_ents
  refine List.mem_filterMap.mpr ⟨k, List.mem_range.mpr (List.getElem?_eq_some_iff.mp h).1, ?_⟩
  rw [h]
theorem am_ents_of {AD : List Nat} {q : Nat × Value} (h : q ∈ am_ents G AD L) : ∃ v, L[q.1]? = some (some v) ∧ q.2 = am_mv G AD v := by
  unfold am_ents at h
  obtain ⟨k, -, hk⟩ := List.mem_filterMap.mp h
  cases hv : L[k]? with
  | none => rw [hv] at hk; cases hk
  | some w =>
    rw [hv] at hk
    cases w with
    | none => cases hk
    | some v =>
      have e : (k, am_mv G AD v) = q := Option.some.inj hk
      subst e
      exact ⟨v, hv, rfl⟩
theorem am_Fr_has {AD : List Nat} {nL : Nat} {ls : Array Slot} (h : am_Fr G AD nL L ls) : lv_has ls nL (am_ents G AD L) := ⟨h.2.1, h.2.2.1, fun q hq => by
  obtain ⟨v, h1, h2⟩ := am_ents_of hq
  rw [h2]
  exact h.2.2.2 _ _ h1⟩
theorem am_prev_no {k : Nat} (h : am_prev L k = false) {i : Nat} {v : am_V} (hi : L[i]? = some (some v)) (e : i + 1 = k) : ∀ z, v ≠ .inr (.inl z) := by
  subst e
  intro z hz
  subst hz
  have h : am_isl L[i]? = false := h
  rw [hi] at h
  cases h
theorem am_cat1 {AD : List Nat} {v : am_V} (h : ∀ z, v ≠ .inr (.inl z)) : (am_mv G AD v).category = 1 := by
  rcases v with z | z | z
  · rfl
  · exact absurd rfl (h z)
  · exact am_cat _ _ _
theorem am_sto_of {k : Nat} {v : am_V} {L' : am_L} (h : am_sto L k v = some L') : k < L.length ∧ am_prev L k = false ∧ L' = L.set k (some v) := by
  unfold am_sto at h
  split at h
  · rename_i hc
    simp only [Bool.and_eq_true, decide_eq_true_eq, Bool.not_eq_true'] at hc
    exact ⟨hc.1, hc.2, (Option.some.inj h).symm⟩
  · cases h
theorem am_stl_of {k : Nat} {v : am_V} {L' : am_L} (h : am_stl L k v = some L') : k + 1 < L.length ∧ am_prev L k = false ∧ L' = (L.set k (some v)).set (k + 1) none := by
  unfold am_stl at h
  split at h
  · rename_i hc
    simp only [Bool.and_eq_true, decide_eq_true_eq, Bool.not_eq_true'] at hc
    exact ⟨hc.1, hc.2, (Option.some.inj h).symm⟩
  · cases h
theorem am_Fr_sto {AD : List Nat} {nL k : Nat} {v : am_V} {L' : am_L} {ls ls' : Array Slot} (hF : am_Fr G AD nL L ls) (h : am_sto L k v = some L') (h' : lv_has ls' nL ((k, am_mv G AD v) :: (am_ents G AD L).filter (fun q => !(q.1 == k) && !(q.1 + 1 == k && q.2.category == 2)))) : am_Fr G AD nL L' ls' := by
  obtain ⟨h1, h2, rfl⟩ := am_sto_of h
  refine ⟨by rw [List.length_set]; exact hF.1, h'.1, h'.2.1, fun i w hi => ?_⟩
  by_cases e : i = k
  · subst e
    rw [List.getElem?_set_self h1] at hi
    have e2 : v = w := by simpa using hi
    subst e2
    exact h'.2.2 _ List.mem_cons_self
  · rw [List.getElem?_set_ne (fun z => e z.symm)] at hi
    refine h'.2.2 (i, am_mv G AD w) (List.mem_cons_of_mem _ (List.mem_filter.mpr ⟨am_ents_in hi, ?_⟩))
    have e1 : (i == k) = false := by simpa using e
    by_cases e3 : i + 1 = k
    · have hc := am_cat1 (G := G) (AD := AD) (am_prev_no h2 hi e3)
      simp [e1, hc]
    · simp [e1, e3]
theorem am_okL_sto {n k : Nat} {v : am_V} {L' : am_L} (hL : am_okL n L) (hv : am_okv n v) (h : am_sto L k v = some L') : am_okL n L' := by
  obtain ⟨h1, h2, rfl⟩ := am_sto_of h
  intro i w hi
  by_cases e : i = k
  · subst e
    rw [List.getElem?_set_self h1] at hi
    have e2 : v = w := by simpa using hi
    subst e2
    exact hv
  · rw [List.getElem?_set_ne (fun z => e z.symm)] at hi
    exact hL i w hi
theorem am_Fr_stl {AD : List Nat} {nL k : Nat} {v : am_V} {L' : am_L} {ls ls' : Array Slot} (hF : am_Fr G AD nL L ls) (h : am_stl L k v = some L') (h' : lv_has ls' nL ((k, am_mv G AD v) :: (am_ents G AD L).filter (fun q => !(q.1 == k) && (!(q.1 == k + 1) && !(q.1 + 1 == k && q.2.category == 2))))) : am_Fr G AD nL L' ls' := by
  obtain ⟨h1, h2, rfl⟩ := am_stl_of h
  refine ⟨by rw [List.length_set, List.length_set]; exact hF.1, h'.1, h'.2.1, fun i w hi => ?_⟩
  by_cases e5 : i = k + 1
  · subst e5
    rw [List.getElem?_set_self (by rw [List.length_set]; exact h1)] at hi
    simp at hi
  · rw [List.getElem?_set_ne (fun z => e5 z.symm)] at hi
    by_cases e : i = k
    · subst e
      rw [List.getElem?_set_self (by omega)] at hi
      have e2 : v = w := by simpa using hi
      subst e2
      exact h'.2.2 _ List.mem_cons_self
    · rw [List.getElem?_set_ne (fun z => e z.symm)] at hi
      refine h'.2.2 (i, am_mv G AD w) (List.mem_cons_of_mem _ (List.mem_filter.mpr ⟨am_ents_in hi, ?_⟩))
      have e1 : (i == k) = false := by simpa using e
      have e4 : (i == k + 1) = false := by simpa using e5
      by_cases e3 : i + 1 = k
      · have hc := am_cat1 (G := G) (AD := AD) (am_prev_no h2 hi e3)
        simp [e1, e4, hc]
      · simp [e1, e4, e3]
theorem am_okL_stl {n k : Nat} {v : am_V} {L' : am_L} (hL : am_okL n L) (hv : am_okv n v) (h : am_stl L k v = some L') : am_okL n L' := by
  obtain ⟨h1, h2, rfl⟩ := am_stl_of h
  intro i w hi
  by_cases e5 : i = k + 1
  · subst e5
    rw [List.getElem?_set_self (by rw [List.length_set]; exact h1)] at hi
    simp at hi
  · rw [List.getElem?_set_ne (fun z => e5 z.symm)] at hi
    by_cases e : i = k
    · subst e
      rw [List.getElem?_set_self (by omega)] at hi
      have e2 : v = w := by simpa using hi
      subst e2
      exact hv
    · rw [List.getElem?_set_ne (fun z => e z.symm)] at hi
      exact hL i w hi
theorem aj_istore_n {k0 : Fin 4} {z : Int} {L' : am_L} (C : am_Cx G mm A p R s m args meth c sc) (hd : decode (am_by.get mm.1) pc = .ok (.istore_n k0, 1)) (hl : am_sto L (k0 : Nat) (.inl z) = some L') (k : am_J G mm A p l e R s m args below meth c Q c0 s0 sc AD0 (pc + 1) L' S ω) : am_J G mm A p l e R s m args below meth c Q c0 s0 sc AD0 pc L (.inl z :: S) ω := by
  intro AD H locs ls cells slots hF hL hS hR hV hc hs hsc
  have hlt := (am_sto_of hl).1
  rw [hF.1] at hlt
  refine lv_istore_n C.1 C.2.1 hd rfl (am_Fr_has hF) hlt rfl (fun ls' hl' => ?_)
  exact k AD H locs ls' cells slots (am_Fr_sto hF hl hl') (am_okL_sto hL (am_okS_h hS) hl) (am_okS_t hS) hR hV hc hs hsc
theorem aj_istore {k0 : Nat} {z : Int} {L' : am_L} (C : am_Cx G mm A p R s m args meth c sc) (hd : decode (am_by.get mm.1) pc = .ok (.istore k0, 2)) (hl : am_sto L k0 (.inl z) = some L') (k : am_J G mm A p l e R s m args below meth c Q c0 s0 sc AD0 (pc + 2) L' S ω) : am_J G mm A p l e R s m args below meth c Q c0 s0 sc AD0 pc L (.inl z :: S) ω := by
  intro AD H locs ls cells slots hF hL hS hR hV hc hs hsc
  have hlt := (am_sto_of hl).1
  rw [hF.1] at hlt
  refine lv_istore C.1 C.2.1 hd (am_Fr_has hF) hlt rfl (fun ls' hl' => ?_)
  exact k AD H locs ls' cells slots (am_Fr_sto hF hl hl') (am_okL_sto hL (am_okS_h hS) hl) (am_okS_t hS) hR hV hc hs hsc
theorem aj_lstore_n {k0 : Fin 4} {z : Int} {L' : am_L} (C : am_Cx G mm A p R s m args meth c sc) (hd : decode (am_by.get mm.1) pc = .ok (.lstore_n k0, 1)) (hl : am_stl L (k0 : Nat) (.inr (.inl z)) = some L') (k : am_J G mm A p l e R s m args below meth c Q c0 s0 sc AD0 (pc + 1) L' S ω) : am_J G mm A p l e R s m args below meth c Q c0 s0 sc AD0 pc L (.inr (.inl z) :: S) ω := by
  intro AD H locs ls cells slots hF hL hS hR hV hc hs hsc
  have hlt := (am_stl_of hl).1
  rw [hF.1] at hlt
  refine lv_lstore_n C.1 C.2.1 hd rfl (am_Fr_has hF) hlt rfl (fun ls' hl' => ?_)
  exact k AD H locs ls' cells slots (am_Fr_stl hF hl hl') (am_okL_stl hL (am_okS_h hS) hl) (am_okS_t hS) hR hV hc hs hsc
theorem aj_lstore {k0 : Nat} {z : Int} {L' : am_L} (C : am_Cx G mm A p R s m args meth c sc) (hd : decode (am_by.get mm.1) pc = .ok (.lstore k0, 2)) (hl : am_stl L k0 (.inr (.inl z)) = some L') (k : am_J G mm A p l e R s m args below meth c Q c0 s0 sc AD0 (pc + 2) L' S ω) : am_J G mm A p l e R s m args below meth c Q c0 s0 sc AD0 pc L (.inr (.inl z) :: S) ω := by
  intro AD H locs ls cells slots hF hL hS hR hV hc hs hsc
  have hlt := (am_stl_of hl).1
  rw [hF.1] at hlt
  refine lv_lstore C.1 C.2.1 hd (am_Fr_has hF) hlt rfl (fun ls' hl' => ?_)
  exact k AD H locs ls' cells slots (am_Fr_stl hF hl hl') (am_okL_stl hL (am_okS_h hS) hl) (am_okS_t hS) hR hV hc hs hsc
theorem aj_astore_n {k0 : Fin 4} {z : Int} {L' : am_L} (C : am_Cx G mm A p R s m args meth c sc) (hd : decode (am_by.get mm.1) pc = .ok (.astore_n k0, 1)) (hl : am_sto L (k0 : Nat) (.inr (.inr z)) = some L') (k : am_J G mm A p l e R s m args below meth c Q c0 s0 sc AD0 (pc + 1) L' S ω) : am_J G mm A p l e R s m args below meth c Q c0 s0 sc AD0 pc L (.inr (.inr z) :: S) ω := by
  intro AD H locs ls cells slots hF hL hS hR hV hc hs hsc
  have hlt := (am_sto_of hl).1
  rw [hF.1] at hlt
  show W p l e R s m args below meth c H locs cells slots Q (F0 m pc ls (am_mr G AD z :: S.map (am_mv G AD)))
  have kz := fun (ls' : Array Slot) (hl' : lv_has ls' (am_max mm.1) (((k0 : Nat), am_mr G AD z) :: (am_ents G AD L).filter (fun q => !(q.1 == (k0 : Nat)) && !(q.1 + 1 == (k0 : Nat) && q.2.category == 2)))) => k AD H locs ls' cells slots (am_Fr_sto hF hl hl') (am_okL_sto hL (am_okS_h hS) hl) (am_okS_t hS) hR hV hc hs hsc
  rcases am_mr_or G AD z with ⟨-, hv⟩ | ⟨-, a, hv⟩
  · rw [hv] at kz ⊢
    exact lv_astore_nN C.1 C.2.1 hd rfl (am_Fr_has hF) hlt rfl kz
  · rw [hv] at kz ⊢
    exact lv_astore_n C.1 C.2.1 hd rfl (am_Fr_has hF) hlt rfl kz
theorem aj_astore {k0 : Nat} {z : Int} {L' : am_L} (C : am_Cx G mm A p R s m args meth c sc) (hd : decode (am_by.get mm.1) pc = .ok (.astore k0, 2)) (hl : am_sto L k0 (.inr (.inr z)) = some L') (k : am_J G mm A p l e R s m args below meth c Q c0 s0 sc AD0 (pc + 2) L' S ω) : am_J G mm A p l e R s m args below meth c Q c0 s0 sc AD0 pc L (.inr (.inr z) :: S) ω := by
  intro AD H locs ls cells slots hF hL hS hR hV hc hs hsc
  have hlt := (am_sto_of hl).1
  rw [hF.1] at hlt
  show W p l e R s m args below meth c H locs cells slots Q (F0 m pc ls (am_mr G AD z :: S.map (am_mv G AD)))
  have kz := fun (ls' : Array Slot) (hl' : lv_has ls' (am_max mm.1) ((k0, am_mr G AD z) :: (am_ents G AD L).filter (fun q => !(q.1 == k0) && !(q.1 + 1 == k0 && q.2.category == 2)))) => k AD H locs ls' cells slots (am_Fr_sto hF hl hl') (am_okL_sto hL (am_okS_h hS) hl) (am_okS_t hS) hR hV hc hs hsc
  rcases am_mr_or G AD z with ⟨-, hv⟩ | ⟨-, a, hv⟩
  · rw [hv] at kz ⊢
    exact lv_astoreN C.1 C.2.1 hd (am_Fr_has hF) hlt rfl kz
  · rw [hv] at kz ⊢
    exact lv_astore C.1 C.2.1 hd (am_Fr_has hF) hlt rfl kz
theorem aj_iinc {k0 : Nat} {n z : Int} {L' : am_L} (C : am_Cx G mm A p R s m args meth c sc) (hd : decode (am_by.get mm.1) pc = .ok (.iinc k0 n, 3)) (h0 : L[k0]? = some (some (.inl z))) (hl : am_sto L k0 (.inl (am_w (z + n))) = some L') (k : am_J G mm A p l e R s m args below meth c Q c0 s0 sc AD0 (pc + 3) L' S ω) : am_J G mm A p l e R s m args below meth c Q c0 s0 sc AD0 pc L S ω := by
  intro AD H locs ls cells slots hF hL hS hR hV hc hs hsc
  have hlt := (am_sto_of hl).1
  rw [hF.1] at hlt
  obtain ⟨i, hi⟩ := List.getElem?_of_mem (am_ents_in (G := G) (AD := AD) h0)
  refine lv_iinc (v := Int32.ofInt (am_w (z + n))) C.1 C.2.1 hd (am_Fr_has hF) (k := i) hi (nu_add z n) hlt rfl (fun ls' hl' => ?_)
  exact k AD H locs ls' cells slots (am_Fr_sto hF hl hl') (am_okL_sto (v := .inl (am_w (z + n))) hL (nu_w _) hl) hS hR hV hc hs hsc
theorem aj_goto {off : Int} {t : Nat} (C : am_Cx G mm A p R s m args meth c sc) (hd : decode (am_by.get mm.1) pc = .ok (.goto off, 3)) (ht : (pc : Int) + off = (t : Int)) (k : am_J G mm A p l e R s m args below meth c Q c0 s0 sc AD0 t L S ω) : am_J G mm A p l e R s m args below meth c Q c0 s0 sc AD0 pc L S ω := by
  intro AD H locs ls cells slots hF hL hS hR hV hc hs hsc
  exact lv_goto C.1 C.2.1 hd ht (k AD H locs ls cells slots hF hL hS hR hV hc hs hsc)
theorem aj_if {cd : Jvm.ClassFile.Cond} {off a : Int} {t : Nat} (C : am_Cx G mm A p R s m args meth c sc) (hd : decode (am_by.get mm.1) pc = .ok (.ifCond cd off, 3)) (ht : (pc : Int) + off = (t : Int)) (k : am_J G mm A p l e R s m args below meth c Q c0 s0 sc AD0 (if am_cc cd a 0 = true then t else pc + 3) L S ω) : am_J G mm A p l e R s m args below meth c Q c0 s0 sc AD0 pc L (.inl a :: S) ω := by
  intro AD H locs ls cells slots hF hL hS hR hV hc hs hsc
  have ha : am_R32 a := am_okS_h hS
  have h0 : am_R32 0 := by unfold am_R32; omega
  have kk := k AD H locs ls cells slots hF hL (am_okS_t hS) hR hV hc hs hsc
  have z0 : (0 : Int32) = Int32.ofInt 0 := rfl
  cases cd
  case eq =>
    refine lv_if_eq C.1 C.2.1 hd ht (fun q => ?_) (fun q => ?_)
    · rw [z0] at q
      have q2 := (nu_eqi ha h0).mp (by first | exact q | exact (fun z => q z))
      rw [if_pos (by simp only [am_cc, decide_eq_true_eq]; exact q2)] at kk
      exact kk
    · rw [z0] at q
      rw [if_neg (by simp only [am_cc, decide_eq_true_eq]; first | exact fun z => q ((nu_eqi ha h0).mpr z) | exact fun z => (nu_eqi ha h0).mpr z q)] at kk
      exact kk
  case ne =>
    refine lv_if_ne C.1 C.2.1 hd ht (fun q => ?_) (fun q => ?_)
    · rw [z0] at q
      have q2 := (not_congr (nu_eqi ha h0)).mp (by first | exact q | exact (fun z => q z))
      rw [if_pos (by simp only [am_cc, decide_eq_true_eq]; exact q2)] at kk
      exact kk
    · rw [z0] at q
      rw [if_neg (by simp only [am_cc, decide_eq_true_eq]; first | exact fun z => q ((not_congr (nu_eqi ha h0)).mpr z) | exact fun z => (not_congr (nu_eqi ha h0)).mpr z q)] at kk
      exact kk
  case lt =>
    refine lv_if_lt C.1 C.2.1 hd ht (fun q => ?_) (fun q => ?_)
    · rw [z0] at q
      have q2 := (nu_lt ha h0).mp (by first | exact q | exact (fun z => q z))
      rw [if_pos (by simp only [am_cc, decide_eq_true_eq]; exact q2)] at kk
      exact kk
    · rw [z0] at q
      rw [if_neg (by simp only [am_cc, decide_eq_true_eq]; first | exact fun z => q ((nu_lt ha h0).mpr z) | exact fun z => (nu_lt ha h0).mpr z q)] at kk
      exact kk
  case ge =>
    refine lv_if_ge C.1 C.2.1 hd ht (fun q => ?_) (fun q => ?_)
    · rw [z0] at q
      have q2 := (nu_le h0 ha).mp (by first | exact q | exact (fun z => q z))
      rw [if_pos (by simp only [am_cc, decide_eq_true_eq]; exact q2)] at kk
      exact kk
    · rw [z0] at q
      rw [if_neg (by simp only [am_cc, decide_eq_true_eq]; first | exact fun z => q ((nu_le h0 ha).mpr z) | exact fun z => (nu_le h0 ha).mpr z q)] at kk
      exact kk
  case gt =>
    refine lv_if_gt C.1 C.2.1 hd ht (fun q => ?_) (fun q => ?_)
    · rw [z0] at q
      have q2 := (nu_lt h0 ha).mp (by first | exact q | exact (fun z => q z))
      rw [if_pos (by simp only [am_cc, decide_eq_true_eq]; exact q2)] at kk
      exact kk
    · rw [z0] at q
      rw [if_neg (by simp only [am_cc, decide_eq_true_eq]; first | exact fun z => q ((nu_lt h0 ha).mpr z) | exact fun z => (nu_lt h0 ha).mpr z q)] at kk
      exact kk
  case le =>
    refine lv_if_le C.1 C.2.1 hd ht (fun q => ?_) (fun q => ?_)
    · rw [z0] at q
      have q2 := (nu_le ha h0).mp (by first | exact q | exact (fun z => q z))
      rw [if_pos (by simp only [am_cc, decide_eq_true_eq]; exact q2)] at kk
      exact kk
    · rw [z0] at q
      rw [if_neg (by simp only [am_cc, decide_eq_true_eq]; first | exact fun z => q ((nu_le ha h0).mpr z) | exact fun z => (nu_le ha h0).mpr z q)] at kk
      exact kk
theorem aj_icmp {cd : Jvm.ClassFile.Cond} {off a b : Int} {t : Nat} (C : am_Cx G mm A p R s m args meth c sc) (hd : decode (am_by.get mm.1) pc = .ok (.if_icmp cd off, 3)) (ht : (pc : Int) + off = (t : Int)) (k : am_J G mm A p l e R s m args below meth c Q c0 s0 sc AD0 (if am_cc cd a b = true then t else pc + 3) L S ω) : am_J G mm A p l e R s m args below meth c Q c0 s0 sc AD0 pc L (.inl b :: .inl a :: S) ω := by
  intro AD H locs ls cells slots hF hL hS hR hV hc hs hsc
  have hb : am_R32 b := am_okS_h hS
  have ha : am_R32 a := am_okS_h (am_okS_t hS)
  have kk := k AD H locs ls cells slots hF hL (am_okS_t (am_okS_t hS)) hR hV hc hs hsc
  cases cd
  case eq =>
    refine lv_icmp_eq C.1 C.2.1 hd ht (fun q => ?_) (fun q => ?_)
    · have q2 := (nu_eqi ha hb).mp (by first | exact q | exact (fun z => q z))
      rw [if_pos (by simp only [am_cc, decide_eq_true_eq]; exact q2)] at kk
      exact kk
    · rw [if_neg (by simp only [am_cc, decide_eq_true_eq]; first | exact fun z => q ((nu_eqi ha hb).mpr z) | exact fun z => (nu_eqi ha hb).mpr z q)] at kk
      exact kk
  case ne =>
    refine lv_icmp_ne C.1 C.2.1 hd ht (fun q => ?_) (fun q => ?_)
    · have q2 := (not_congr (nu_eqi ha hb)).mp (by first | exact q | exact (fun z => q z))
      rw [if_pos (by simp only [am_cc, decide_eq_true_eq]; exact q2)] at kk
      exact kk
    · rw [if_neg (by simp only [am_cc, decide_eq_true_eq]; first | exact fun z => q ((not_congr (nu_eqi ha hb)).mpr z) | exact fun z => (not_congr (nu_eqi ha hb)).mpr z q)] at kk
      exact kk
  case lt =>
    refine lv_icmp_lt C.1 C.2.1 hd ht (fun q => ?_) (fun q => ?_)
    · have q2 := (nu_lt ha hb).mp (by first | exact q | exact (fun z => q z))
      rw [if_pos (by simp only [am_cc, decide_eq_true_eq]; exact q2)] at kk
      exact kk
    · rw [if_neg (by simp only [am_cc, decide_eq_true_eq]; first | exact fun z => q ((nu_lt ha hb).mpr z) | exact fun z => (nu_lt ha hb).mpr z q)] at kk
      exact kk
  case ge =>
    refine lv_icmp_ge C.1 C.2.1 hd ht (fun q => ?_) (fun q => ?_)
    · have q2 := (nu_le hb ha).mp (by first | exact q | exact (fun z => q z))
      rw [if_pos (by simp only [am_cc, decide_eq_true_eq]; exact q2)] at kk
      exact kk
    · rw [if_neg (by simp only [am_cc, decide_eq_true_eq]; first | exact fun z => q ((nu_le hb ha).mpr z) | exact fun z => (nu_le hb ha).mpr z q)] at kk
      exact kk
  case gt =>
    refine lv_icmp_gt C.1 C.2.1 hd ht (fun q => ?_) (fun q => ?_)
    · have q2 := (nu_lt hb ha).mp (by first | exact q | exact (fun z => q z))
      rw [if_pos (by simp only [am_cc, decide_eq_true_eq]; exact q2)] at kk
      exact kk
    · rw [if_neg (by simp only [am_cc, decide_eq_true_eq]; first | exact fun z => q ((nu_lt hb ha).mpr z) | exact fun z => (nu_lt hb ha).mpr z q)] at kk
      exact kk
  case le =>
    refine lv_icmp_le C.1 C.2.1 hd ht (fun q => ?_) (fun q => ?_)
    · have q2 := (nu_le ha hb).mp (by first | exact q | exact (fun z => q z))
      rw [if_pos (by simp only [am_cc, decide_eq_true_eq]; exact q2)] at kk
      exact kk
    · rw [if_neg (by simp only [am_cc, decide_eq_true_eq]; first | exact fun z => q ((nu_le ha hb).mpr z) | exact fun z => (nu_le ha hb).mpr z q)] at kk
      exact kk
theorem aj_ifnonnull {off r : Int} {t : Nat} (C : am_Cx G mm A p R s m args meth c sc) (hd : decode (am_by.get mm.1) pc = .ok (.ifnonnull off, 3)) (ht : (pc : Int) + off = (t : Int)) (k : am_J G mm A p l e R s m args below meth c Q c0 s0 sc AD0 (if decide (¬ r = -1) = true then t else pc + 3) L S ω) : am_J G mm A p l e R s m args below meth c Q c0 s0 sc AD0 pc L (.inr (.inr r) :: S) ω := by
  intro AD H locs ls cells slots hF hL hS hR hV hc hs hsc
  have kk := k AD H locs ls cells slots hF hL (am_okS_t hS) hR hV hc hs hsc
  show W p l e R s m args below meth c H locs cells slots Q (F0 m pc ls (am_mr G AD r :: S.map (am_mv G AD)))
  rcases am_mr_or G AD r with ⟨h, hv⟩ | ⟨h, a, hv⟩
  · rw [hv]
    rw [if_neg (by simp [h])] at kk
    exact lv_ifnonnullN C.1 C.2.1 hd kk
  · rw [hv]
    rw [if_pos (by simp [h])] at kk
    exact lv_ifnonnull C.1 C.2.1 hd ht kk
theorem aj_tableswitch {dflt lo hi off z : Int} {offs : Array Int} {t len : Nat} (C : am_Cx G mm A p R s m args meth c sc) (hd : decode (am_by.get mm.1) pc = .ok (.tableswitch dflt lo hi offs, len)) (ho : am_tsw dflt lo hi offs z = some off) (ht : (pc : Int) + off = (t : Int)) (k : am_J G mm A p l e R s m args below meth c Q c0 s0 sc AD0 t L S ω) : am_J G mm A p l e R s m args below meth c Q c0 s0 sc AD0 pc L (.inl z :: S) ω := by
  intro AD H locs ls cells slots hF hL hS hR hV hc hs hsc
  have hz : am_R32 z := am_okS_h hS
  have kk := k AD H locs ls cells slots hF hL (am_okS_t hS) hR hV hc hs hsc
  unfold am_tsw at ho
  by_cases h : z < lo ∨ hi < z
  · have e : (decide (z < lo) || decide (hi < z)) = true := by simpa using h
    rw [e] at ho
    have e2 : dflt = off := Option.some.inj ho
    subst e2
    exact lv_tableOut C.1 C.2.1 hd (by rw [nu_of hz]; exact h) ht kk
  · have e : (decide (z < lo) || decide (hi < z)) = false := by simpa using h
    rw [e] at ho
    exact lv_tableIn C.1 C.2.1 hd (by rw [nu_of hz]; omega) (by rw [nu_of hz]; omega) (by rw [nu_of hz]; exact ho) ht kk
end AJ
